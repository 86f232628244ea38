/-! land: the same draws -/
theorem ldA_s (n : Nat) (B F K : Nat → Int32) (y z : Int32) (k : Nat) : ldA n B F K y z (k + 1) = (bbI n B (ldA n B F K y z k).1 K (ldA n B F K y z k).2 (drw z (nI k)), (ldA n B F K y z k).2 + 1) := by
  unfold ldA
  exact it_s _ _ _
theorem lnA_s (nw : Nat → Int32) (n zv k : Nat) : lnA nw n zv (k + 1) = upd (lnF n zv k (lnA nw n zv k)) 462 (lnF n zv k (lnA nw n zv k) 462 + 1) := by
  unfold lnA
  exact it_s _ _ _
theorem fM_id {a : Nat} (h : a < 1000) : fM (nI a) = nI a := by
  unfold fM
  rw [if_neg (fun e => by
    have := (nI_eq (a := a) (b := 1000) (by omega) (by decide)).mp e
    omega)]
theorem bb_at {n : Nat} (hn : n ≤ 10) (hn0 : 0 < n) (B F K : Nat → Int32) (y : Int32) {D : Nat} (hD : D < 65521) : bbI n B F K y (nI D) = if cbB B F K y (D % n) && decide (D / 16 % 3 = 0) then upd F (D % n) y else F := by
  have ht : D % n < n := Nat.mod_lt _ hn0
  have hb : inB (nI (D % n)) n = true := by rw [inB_nI (by omega)]; simp [ht]
  have l : ix (nI (D % n)) = D % n := ixx (by omega)
  have e1 : remI (nI D) n = nI (D % n) := pk_rem (by omega) hn0 (by omega)
  have e2 : nI D / 16 = nI (D / 16) := pk_div (d := 16) (by omega) (by decide) (by decide)
  have e3 : nI (D / 16) - nI (D / 16) / 3 * 3 = nI (D / 16 % 3) := pk_rem (d := 3) (by omega) (by decide) (by decide)
  have e4 : cbI n B F K y (nI (D % n)) = cbB B F K y (D % n) := by
    unfold cbI cbB stI atI
    rw [hb, l, if_pos rfl, Bool.true_and]
  unfold bbI sfI
  rw [e1, e2, e3, e4, hb, l]
  by_cases z : D / 16 % 3 = 0
  · have z2 : nI (D / 16 % 3) = 0 := by rw [z]; rfl
    rw [if_pos z2]
    simp [z]
  · have z2 : ¬ nI (D / 16 % 3) = 0 := fun e => z ((nI_eq (a := D / 16 % 3) (b := 0) (by omega) (by decide)).mp e)
    rw [if_neg z2]
    simp [z]
theorem ln_same {nr nc n : Nat} {C B F K nw : Nat → Int32} {yv zv : Nat} (hn : n ≤ 10) (hn0 : 0 < n) (hv : VaM nr nc C B F K n) (hs : SaM C B F K n (cel nw 0) (sta nw 0) (fal nw 0) (kin nw 0)) (hy : nw 0 = nI yv) (hyv : yv ≤ 98) (hz : zv ≤ 9999) : ∀ k, k ≤ 60 → VaM nr nc C B (ldA n B F K (nI yv) (nI zv) k).1 K n ∧ SaM C B (ldA n B F K (nI yv) (nI zv) k).1 K n (cel (lnA nw n zv k) 462) (sta (lnA nw n zv k) 462) (fal (lnA nw n zv k) 462) (kin (lnA nw n zv k) 462) ∧ (ldA n B F K (nI yv) (nI zv) k).2 = nI (yv + k) ∧ lnA nw n zv k 462 = nI (yv + k) := by
  intro k hk
  induction k with
  | zero =>
    refine ⟨hv, fun t ht => ?_, rfl, ?_⟩
    · obtain ⟨e1, e2, e3, e4⟩ := hs t ht
      have hcp : ∀ i, i < 42 → cpM nw 0 462 42 (462 + i) = nw (0 + i) := fun i hi => cpM_in nw hi (by omega)
      refine ⟨?_, ?_, ?_, ?_⟩
      · show cpM nw 0 462 42 (462 + 2 + t) = C t
        rw [Nat.add_assoc, hcp _ (by omega), ← e1]; unfold cel; congr 1; omega
      · show cpM nw 0 462 42 (462 + 12 + t) = B t
        rw [Nat.add_assoc, hcp _ (by omega), ← e2]; unfold sta; congr 1; omega
      · show cpM nw 0 462 42 (462 + 22 + t) = fM (F t)
        rw [Nat.add_assoc, hcp _ (by omega), ← e3]; unfold fal; congr 1; omega
      · show cpM nw 0 462 42 (462 + 32 + t) = K t
        rw [Nat.add_assoc, hcp _ (by omega), ← e4]; unfold kin; congr 1; omega
    · show cpM nw 0 462 42 (462 + 0) = nI (yv + 0)
      rw [cpM_in nw (by omega) (by omega)]
      exact hy
  | succ k ih =>
    obtain ⟨i1, i2, i3, i4⟩ := ih (by omega)
    rw [ldA_s, lnA_s, i3, drw_n hz (by omega), bb_at hn hn0 _ _ _ _ (dwN_lt zv k)]
    have ht : dwN zv k % n < n := Nat.mod_lt _ hn0
    have hcb := cbB_same i1 i2 (w := nI (yv + k)) (nI_lt1000 (by omega)) ht
    have hF : lnF n zv k (lnA nw n zv k) = if cbB B (ldA n B F K (nI yv) (nI zv) k).1 K (nI (yv + k)) (dwN zv k % n) && decide (dwN zv k / 16 % 3 = 0) then upd (lnA nw n zv k) (484 + dwN zv k % n) (nI (yv + k)) else lnA nw n zv k := by
      unfold lnF
      rw [i4, hcb]
    rw [hF]
    generalize lnA nw n zv k = N at *
    generalize (ldA n B F K (nI yv) (nI zv) k).1 = a at *
    generalize dwN zv k % n = t at *
    have hfin : ∀ (g : Bool), VaM nr nc C B (if g = true then upd a t (nI (yv + k)) else a) K n ∧ SaM C B (if g = true then upd a t (nI (yv + k)) else a) K n (cel (upd (if g = true then upd N (484 + t) (nI (yv + k)) else N) 462 ((if g = true then upd N (484 + t) (nI (yv + k)) else N) 462 + 1)) 462) (sta (upd (if g = true then upd N (484 + t) (nI (yv + k)) else N) 462 ((if g = true then upd N (484 + t) (nI (yv + k)) else N) 462 + 1)) 462) (fal (upd (if g = true then upd N (484 + t) (nI (yv + k)) else N) 462 ((if g = true then upd N (484 + t) (nI (yv + k)) else N) 462 + 1)) 462) (kin (upd (if g = true then upd N (484 + t) (nI (yv + k)) else N) 462 ((if g = true then upd N (484 + t) (nI (yv + k)) else N) 462 + 1)) 462) ∧ nI (yv + k) + 1 = nI (yv + (k + 1)) ∧ upd (if g = true then upd N (484 + t) (nI (yv + k)) else N) 462 ((if g = true then upd N (484 + t) (nI (yv + k)) else N) 462 + 1) 462 = nI (yv + (k + 1)) := by
      intro g
      cases g with
      | false =>
        simp only [Bool.false_eq_true, if_false]
        refine ⟨i1, fun j hj => ?_, by rw [nI_1]; rfl, by rw [pk_us, i4, nI_1]; rfl⟩
        unfold cel sta fal kin
        rw [pk_un (by omega), pk_un (by omega), pk_un (by omega), pk_un (by omega)]
        exact i2 j hj
      | true =>
        simp only [if_true]
        refine ⟨⟨i1.1, i1.2.1, i1.2.2.1, fun j hj => ?_, i1.2.2.2.2⟩, fun j hj => ?_, by rw [nI_1]; rfl, by rw [pk_us, pk_un (by omega), i4, nI_1]; rfl⟩
        · by_cases e : j = t
          · exact ⟨yv + k, by omega, by rw [e, pk_us]⟩
          · rw [pk_un e]; exact i1.2.2.2.1 j hj
        · have g := i2 j hj
          unfold cel sta fal kin at g ⊢
          rw [pk_un (show 462 + 2 + j ≠ 462 by omega), pk_un (show 462 + 2 + j ≠ 484 + t by omega), pk_un (show 462 + 12 + j ≠ 462 by omega), pk_un (show 462 + 12 + j ≠ 484 + t by omega), pk_un (show 462 + 22 + j ≠ 462 by omega), pk_un (show 462 + 32 + j ≠ 462 by omega), pk_un (show 462 + 32 + j ≠ 484 + t by omega)]
          refine ⟨g.1, g.2.1, ?_, g.2.2.2⟩
          by_cases e : j = t
          · rw [e, show 462 + 22 + t = 484 + t by omega, pk_us, pk_us, fM_id (by omega)]
          · rw [pk_un (by omega), pk_un e]; exact g.2.2.1
    exact hfin _
