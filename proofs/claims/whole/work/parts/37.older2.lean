/-! older: the end -/
theorem olI_s (nw : Nat → Int32) (fr up : Int32) (s : Int32 × Int32) (n : Nat) : olI nw fr up s (n + 1) = ((olI nw fr up s n).1 + (if olB nw fr up n then 1 else 0), (olI nw fr up s n).2 * (if olB nw fr up n then (olI nw fr up s n).1 + (if olB nw fr up n then 1 else 0) else 1)) := by
  unfold olI
  exact it_s _ _ _
theorem olI_c (nw : Nat → Int32) (fr up w : Int32) (m : Nat) : olI nw fr up (0, w) m = (nI (cnt (olB nw fr up) m), prd (olB nw fr up) (fun t => nI (1 + cnt (olB nw fr up) t)) w m) := by
  induction m with
  | zero => rfl
  | succ m ih =>
    rw [olI_s, ih, cnt_s, prd_s]
    cases olB nw fr up m with
    | false => simp
    | true =>
      simp only [if_true]
      rw [nI_1, Nat.add_comm 1]
theorem prd_no {S : Nat → Bool} {g : Nat → Int32} {w : Int32} {n : Nat} (h : ∀ k, k < n → S k = false) : prd S g w n = w := by
  induction n with
  | zero => rfl
  | succ n ih => rw [prd_s, h n (by omega), if_neg (by decide)]; exact ih (fun k hk => h k (by omega))
section
variable {nr nc n q : Nat} {C B F K nw Yr Dn Rt my md mr : Nat → Int32}
theorem ym_is (hn : n ≤ 10) {u : Nat} (hu : u < n) : ymI n F K Yr (nI u) q = 1000 ∨ ∃ j, j < q ∧ Yr j = ymI n F K Yr (nI u) q := by
  rw [ym_m hn hu]
  rcases (mnL_spec (fun j => !decide (K u = 3) && loB F (Yr j) u) Yr q).2.1 with e | ⟨j, hj, _, e⟩
  · exact Or.inl e
  · exact Or.inr ⟨j, hj, e⟩
theorem olL_eq (hn : n ≤ 10) (hv : VaM nr nc C B F K n) (hs : SaM C B F K n (cel nw 0) (sta nw 0) (fal nw 0) (kin nw 0)) (hc : VaC Yr Dn Rt q) (hsc : SaC Yr Dn Rt q my md mr) : ∀ (f : Nat) (fr : Int32), (fr = -1 ∨ ∃ j, j < q ∧ fr = Yr j) → (1000 - fr.toInt).toNat ≤ f → olL nw my n q f fr (prd (fun t => decide ((ymI n F K Yr (nI t) q).toInt ≤ fr.toInt)) (fun j => tgA n F K Yr q (ymI n F K Yr (nI j) q) j) 1 n) = prd (fun t => !decide (ymI n F K Yr (nI t) q = 1000)) (fun j => tgA n F K Yr q (ymI n F K Yr (nI j) q) j) 1 n := by
  have hyr : ∀ j, j < q → 0 ≤ (Yr j).toInt ∧ (Yr j).toInt ≤ 99 := by
    intro j hj
    obtain ⟨⟨a, ha, ea⟩, _⟩ := hc j hj
    rw [ea, nI_toInt (by omega)]
    omega
  intro f
  induction f with
  | zero =>
    intro fr hfr hf
    rcases hfr with e | ⟨j, hj, e⟩
    · rw [e] at hf; exact absurd hf (by decide)
    · have := hyr j hj
      rw [e] at hf
      omega
  | succ f ih =>
    intro fr hfr hf
    have hfr1 : fr.toInt < 1000 := by
      rcases hfr with e | ⟨j, hj, e⟩
      · rw [e]; decide
      · rw [e]; have := hyr j hj; omega
    obtain ⟨u1, u2, u3⟩ := mnL_spec (fun k => !decide (my k ≤ fr)) my q
    rw [← nmA_m'] at u1 u2 u3
    have u4 : ∀ j, j < q → fr.toInt < (Yr j).toInt → (nmA my fr q).toInt ≤ (Yr j).toInt := by
      intro j hj h
      have := u3 j hj (by rw [(hsc j hj).1, Bool.not_eq_true', decide_eq_false_iff_not, Int32.not_le, Int32.lt_iff_toInt_lt]; exact h)
      rwa [(hsc j hj).1] at this
    by_cases h : 1000 ≤ nmA my fr q
    · rw [olL_end h]
      rw [Int32.le_iff_toInt_le, i32_1000] at h
      refine prd_cong (fun t ht => ?_) (fun _ _ _ => rfl)
      rcases ym_is (F := F) (K := K) (Yr := Yr) (q := q) hn ht with e | ⟨j, hj, e⟩
      · rw [e, i32_1000]
        simp
        omega
      · rw [← e]
        have hj2 := hyr j hj
        have h9 : (Yr j).toInt ≤ fr.toInt := by
          rcases Int.lt_or_le fr.toInt (Yr j).toInt with z | z
          · have := u4 j hj z; omega
          · exact z
        have hne : ¬ Yr j = 1000 := fun z => by rw [z, i32_1000] at hj2; omega
        simp [h9, hne]
    · rw [olL_s h, olI_c]
      have hup : (nmA my fr q).toInt < 1000 := by
        have := Int32.lt_iff_toInt_lt.mp (Int32.not_le.mp h)
        rwa [i32_1000] at this
      have hm := nmA_m h
      obtain ⟨j0, hj0, e0, e0'⟩ := u2.resolve_left (fun z => by rw [z, i32_1000] at hup; omega)
      rw [(hsc j0 hj0).1] at e0'
      rw [(hsc j0 hj0).1, Bool.not_eq_true', decide_eq_false_iff_not, Int32.not_le, Int32.lt_iff_toInt_lt, e0'] at e0
      have his : ∀ t, t < n → olB nw fr (nmA my fr q) t = decide (ymI n F K Yr (nI t) q = nmA my fr q) := fun t ht => ol_is hn hv hs hc hsc hfr hup ht
      have hp : prd (olB nw fr (nmA my fr q)) (fun t => nI (1 + cnt (olB nw fr (nmA my fr q)) t)) (prd (fun t => decide ((ymI n F K Yr (nI t) q).toInt ≤ fr.toInt)) (fun j => tgA n F K Yr q (ymI n F K Yr (nI j) q) j) 1 n) n = prd (fun t => decide ((ymI n F K Yr (nI t) q).toInt ≤ (nmA my fr q).toInt)) (fun j => tgA n F K Yr q (ymI n F K Yr (nI j) q) j) 1 n := by
        rw [prd_w, prd_cong (S := olB nw fr (nmA my fr q)) (T := fun t => decide (ymI n F K Yr (nI t) q = nmA my fr q)) (h := fun j => tgA n F K Yr q (ymI n F K Yr (nI j) q) j) his (fun t ht hS => by
          rw [his t ht] at hS
          have e := of_decide_eq_true hS
          rw [tgA_c, e]
          congr 2
          exact cnt_cong (fun u hu => by rw [his u (by omega)])), ← prd_or]
        · refine prd_cong (fun t ht => ?_) (fun _ _ _ => rfl)
          rcases ym_is (F := F) (K := K) (Yr := Yr) (q := q) hn ht with e | ⟨j, hj, e⟩
          · have n1 : ¬ (1000 : Int32) = nmA my fr q := fun z => by rw [← z, i32_1000] at hup; omega
            rw [e, i32_1000]
            have n2 : ¬ (1000 : Int) ≤ fr.toInt := by omega
            have n3 : ¬ (1000 : Int) ≤ (nmA my fr q).toInt := by omega
            simp [n1, n2, n3]
          · rw [← e]
            by_cases z : (Yr j).toInt ≤ fr.toInt
            · have z2 : (Yr j).toInt ≤ (nmA my fr q).toInt := by omega
              simp [z, z2]
            · have z3 := u4 j hj (by omega)
              by_cases z4 : Yr j = nmA my fr q
              · simp [z4]
              · have z5 : ¬ (Yr j).toInt ≤ (nmA my fr q).toInt := fun y => z4 (Int32.toInt_inj.mp (by omega))
                simp [z, z4, z5]
        · intro t _ ⟨a, b⟩
          have a := of_decide_eq_true a
          have b := of_decide_eq_true b
          rw [b] at a
          omega
      rw [hp]
      exact ih (nmA my fr q) (Or.inr ⟨j0, hj0, e0'.symm⟩) (by omega)
theorem older_same (hn : n ≤ 10) (hv : VaM nr nc C B F K n) (hs : SaM C B F K n (cel nw 0) (sta nw 0) (fal nw 0) (kin nw 0)) (hc : VaC Yr Dn Rt q) (hsc : SaC Yr Dn Rt q my md mr) (hq : q ≤ 5) : (if q = 0 then -4 else olL nw my n q 1001 (-1) 1) = olR n F K Yr q := by
  unfold olR
  by_cases z : q = 0
  · subst z
    rfl
  · have z0 : ¬ nI q = 0 := fun e => z ((nI_eq (a := q) (b := 0) (by omega) (by decide)).mp e)
    rw [if_neg z, if_neg z0, orA_p]
    have h := olL_eq (C := C) (B := B) (nw := nw) (my := my) hn hv hs hc hsc 1001 (-1) (Or.inl rfl) (by decide)
    rw [prd_no (fun t ht => ?_)] at h
    · exact h
    · rw [decide_eq_false_iff_not]
      rcases ym_is (F := F) (K := K) (Yr := Yr) (q := q) hn ht with e | ⟨j, hj, e⟩
      · rw [e]; decide
      · rw [← e]
        obtain ⟨⟨a, ha, ea⟩, _⟩ := hc j hj
        rw [ea, nI_toInt (by omega)]
        have : (-1 : Int32).toInt = -1 := by decide
        omega
end
