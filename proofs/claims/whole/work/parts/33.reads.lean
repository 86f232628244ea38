/-! the answers of the reads are the same -/
def VaF (F : Nat → Int32) (n : Nat) : Prop := ∀ k, k < n → ∃ f : Nat, (f ≤ 99 ∨ f = 1000) ∧ F k = nI f
def VaC (Yr Dn Rt : Nat → Int32) (q : Nat) : Prop := ∀ k, k < q → (∃ a : Nat, a ≤ 99 ∧ Yr k = nI a) ∧ (∃ a : Nat, a ≤ 4 ∧ Dn k = nI a) ∧ (∃ a : Nat, a ≤ 4 ∧ Rt k = nI a)
def SaC (Yr Dn Rt : Nat → Int32) (q : Nat) (my md mr : Nat → Int32) : Prop := ∀ k, k < q → my k = Yr k ∧ md k = Dn k ∧ mr k = Rt k
theorem nI_lt1000 {a : Nat} (h : a < 1000) : (nI a).toInt < 1000 := by
  rw [nI_toInt (by omega)]
  omega
section
variable {nr nc n q : Nat} {C B F K nw Yr Dn Rt my md mr : Nat → Int32} {y : Int32}
theorem thing_same (hv : VaM nr nc C B F K n) (hf : VaF F n) (hs : SaM C B F K n (cel nw 0) (sta nw 0) (fal nw 0) (kin nw 0)) (hy : nw 0 = y) (hw : y.toInt < 1000) (t w : Int32) (hn : n ≤ 10) : thM nw n t w = thR n C B F K y t w := by
  unfold thM thR
  cases hb : inB t n with
  | false => rfl
  | true =>
    rw [if_pos rfl, if_pos rfl]
    obtain ⟨j, hj, rfl⟩ := inB_nat hb (by omega)
    obtain ⟨e1, e2, e3, e4⟩ := hs j hj
    obtain ⟨f, hf, ef⟩ := hf j hj
    have l : ix (nI j) = j := ixx (by omega)
    rw [l, hy, e1, e2, e3, e4, stB_same hv hs hw hj, loB_same hv hs hw hj]
    unfold atI toldI stI loI
    rw [hb, if_pos rfl, if_pos rfl, if_pos rfl, if_pos rfl, l, Bool.true_and, Bool.true_and, ef]
    have e5 : (if fM (nI f) = 100000 then (99 : Int32) else fM (nI f)) = if 99 < nI f then 99 else nI f := by
      unfold fM
      rcases hf with hf | hf
      · have h1 : ¬ nI f = 1000 := fun z => by
          have := (nI_eq (a := f) (b := 1000) (by omega) (by decide)).mp z
          omega
        have h2 : ¬ nI f = 100000 := fun z => by
          have := (nI_eq (a := f) (b := 100000) (by omega) (by decide)).mp z
          omega
        have h3 : ¬ 99 < nI f := nI_nlt (a := 99) (by omega) (by decide)
        rw [if_neg h1, if_neg h2, if_neg h3]
      · subst hf
        decide
    rw [e5]
theorem sw_same (h1 : 2 ≤ nr ∧ nr ≤ 8) (h2 : 2 ≤ nc ∧ nc ≤ 8) (hv : VaM nr nc C B F K n) (hs : SaM C B F K n (cel nw 0) (sta nw 0) (fal nw 0) (kin nw 0)) (hc : VaC Yr Dn Rt q) (hsc : SaC Yr Dn Rt q my md mr) (hq : q ≤ 5) {j : Nat} (hj : j < q) : swM nr nc nw my md mr n j = swC nr nc C F K n Yr Dn Rt q (nI j) := by
  obtain ⟨e1, e2, e3⟩ := hsc j hj
  obtain ⟨⟨a, ha, ea⟩, _⟩ := hc j hj
  have hb : inB (nI j) q = true := by rw [inB_nI (by omega)]; simp [hj]
  have l : ix (nI j) = j := ixx (by omega)
  unfold swM swC atI
  rw [hb, if_pos rfl, if_pos rfl, if_pos rfl, l, e1, e2, e3, ea, dr_same h1 h2 hv hs (nI_lt1000 (by omega)), bh_same h1 h2 _ _ _ (cells_le h1 h2)]
theorem free_same (h1 : 2 ≤ nr ∧ nr ≤ 8) (h2 : 2 ≤ nc ∧ nc ≤ 8) (hv : VaM nr nc C B F K n) (hs : SaM C B F K n (cel nw 0) (sta nw 0) (fal nw 0) (kin nw 0)) (x w : Int32) : (if inG nr nc x then (if inn w 0 199 then zb (!hsN (stC (cel nw 0) (sta nw 0) (fal nw 0) w n) x) else -1) else -1) = frR nr nc C B F n x w := by
  have hcl := cells_le h1 h2
  unfold frR
  cases hb : inG nr nc x with
  | false => rfl
  | true =>
    rw [if_pos rfl, if_pos rfl]
    obtain ⟨j, hj, rfl⟩ := inB_nat hb (by omega)
    unfold inn
    by_cases z1 : w < 0
    · rw [if_pos z1]; simp [z1]
    · rw [if_neg z1]
      by_cases z2 : w ≤ 199
      · rw [if_pos z2]
        have z3 : ¬ 199 < w := Int32.not_lt.mpr z2
        have hw : w.toInt < 1000 := by
          rw [Int32.le_iff_toInt_le, show (199 : Int32).toInt = 199 from rfl] at z2
          omega
        rw [stC_same hv hs hw, hsN_b _ (by omega), hs_b _ (by omega)]
        simp [z1, z3]
      · rw [if_neg z2]
        have z3 : 199 < w := Int32.not_le.mp z2
        simp [z3]
theorem map_same (h1 : 2 ≤ nr ∧ nr ≤ 8) (h2 : 2 ≤ nc ∧ nc ≤ 8) (hv : VaM nr nc C B F K n) (hs : SaM C B F K n (cel nw 0) (sta nw 0) (fal nw 0) (kin nw 0)) (hc : VaC Yr Dn Rt q) (hsc : SaC Yr Dn Rt q my md mr) (hq : q ≤ 5) (t w : Int32) : mpM nr nc nw my md mr n q t w = mpR nr nc C F K n Yr Dn Rt q t w := by
  unfold mpM mpR
  cases hb : inB t q with
  | false => rfl
  | true =>
    rw [if_pos rfl, if_pos rfl]
    obtain ⟨j, hj, rfl⟩ := inB_nat hb (by omega)
    obtain ⟨e1, e2, e3⟩ := hsc j hj
    have l : ix (nI j) = j := ixx (by omega)
    rw [l, sw_same h1 h2 hv hs hc hsc hq hj, bcn_c, mnM_c _ (Nat.le_refl _)]
    unfold atI
    rw [hb, if_pos rfl, if_pos rfl, if_pos rfl, l, e1, e2, e3]
theorem shows_same (h1 : 2 ≤ nr ∧ nr ≤ 8) (h2 : 2 ≤ nc ∧ nc ≤ 8) (hv : VaM nr nc C B F K n) (hs : SaM C B F K n (cel nw 0) (sta nw 0) (fal nw 0) (kin nw 0)) (hc : VaC Yr Dn Rt q) (hsc : SaC Yr Dn Rt q my md mr) (hq : q ≤ 5) (t x : Int32) : (if inB t q then (if inG nr nc x then ssM (swM nr nc nw my md mr n (ix t)) x else -1) else -1) = swR nr nc C F K n Yr Dn Rt q t x := by
  have hcl := cells_le h1 h2
  unfold swR
  cases hb : inB t q with
  | false => rfl
  | true =>
    rw [if_pos rfl, if_pos rfl]
    obtain ⟨j, hj, rfl⟩ := inB_nat hb (by omega)
    have l : ix (nI j) = j := ixx (by omega)
    cases hb2 : inG nr nc x with
    | false => rfl
    | true =>
      rw [if_pos rfl, if_pos rfl]
      obtain ⟨i, hi, rfl⟩ := inB_nat hb2 (by omega)
      rw [l, sw_same h1 h2 hv hs hc hsc hq hj, ssM_b _ (by omega), hs_b _ (by omega)]
      rfl
theorem lo_it (C F : Nat → Int32) (w : Int32) (n : Nat) : loC C F w (n + 1) = loC C F w n ||| (if loB F w n then bt (C n) else 0) := by
  unfold loC
  exact it_s _ _ _
theorem st_it (C B F : Nat → Int32) (w : Int32) (n : Nat) : stC C B F w (n + 1) = stC C B F w n ||| (if stB B F w n then bt (C n) else 0) := by
  unfold stC
  exact it_s _ _ _
theorem wgM_s (nw : Nat → Int32) (w : Int32) (v : Int64) (n : Nat) : wgM nw w v (n + 1) = wgM nw w v n &&& (if loB (fal nw 0) w n then bt (cel nw 0 n) ^^^ (-1) else -1) := by
  unfold wgM
  exact it_s _ _ _
theorem wg_same (hv : VaM nr nc C B F K n) (hs : SaM C B F K n (cel nw 0) (sta nw 0) (fal nw 0) (kin nw 0)) {w : Int32} (hw : w.toInt < 1000) (v : Int64) : wgM nw w v n = v &&& (loC C F w n ^^^ (-1)) := by
  have hh : ∀ m, m ≤ n → wgM nw w v m = v &&& (loC C F w m ^^^ (-1)) := by
    intro m hm
    induction m with
    | zero =>
      show v = v &&& ((0 : Int64) ^^^ (-1))
      exact gb_ext (fun i hi => by rw [gb_and, gb_not _ hi, gb_0]; simp)
    | succ m ih =>
      have e := hs m (by omega)
      rw [wgM_s, ih (by omega), lo_it, loB_same hv hs hw (by omega), e.1]
      refine gb_ext (fun i hi => ?_)
      rw [gb_and, gb_and, gb_and, gb_not _ hi, gb_not _ hi, gb_or]
      cases loB F w m with
      | true => rw [if_pos rfl, if_pos rfl, gb_not _ hi]; cases gb v i <;> cases gb (loC C F w m) i <;> cases gb (bt (C m)) i <;> rfl
      | false => rw [if_neg (by decide), if_neg (by decide), gb_m1 i hi, gb_0]; cases gb v i <;> cases gb (loC C F w m) i <;> rfl
  exact hh n (Nat.le_refl _)
theorem fsx_cong {p r : Nat → Bool} : ∀ {f i : Nat}, (∀ j, i ≤ j → j < i + f → p j = r j) → fsx p f i = fsx r f i
  | 0, _, _ => rfl
  | f + 1, i, h => by
    rw [fsx, fsx, h i (by omega) (by omega), fsx_cong (fun j h1 h2 => h j (by omega) (by omega))]
theorem wrong_same (h1 : 2 ≤ nr ∧ nr ≤ 8) (h2 : 2 ≤ nc ∧ nc ≤ 8) (hv : VaM nr nc C B F K n) (hs : SaM C B F K n (cel nw 0) (sta nw 0) (fal nw 0) (kin nw 0)) (hc : VaC Yr Dn Rt q) (hsc : SaC Yr Dn Rt q my md mr) (hq : q ≤ 5) {j : Nat} (hj : j < q) {w : Int32} (hw : zo w = true) : (if w = 0 then mnM (wgM nw (my j) (swM nr nc nw my md mr n j) n) 64 else fsx (hsM (wgM nw (my j) (swM nr nc nw my md mr n j) n)) 64 0) = wgR nr nc C F K n Yr Dn Rt q (nI j) w := by
  obtain ⟨e1, e2, e3⟩ := hsc j hj
  obtain ⟨⟨a, ha, ea⟩, _⟩ := hc j hj
  have hb : inB (nI j) q = true := by rw [inB_nI (by omega)]; simp [hj]
  have l : ix (nI j) = j := ixx (by omega)
  have ew : wgM nw (my j) (swM nr nc nw my md mr n j) n = wgS nr nc C F K n Yr Dn Rt q (nI j) := by
    unfold wgS
    rw [sw_same h1 h2 hv hs hc hsc hq hj, wg_same hv hs (by rw [e1, ea]; exact nI_lt1000 (by omega))]
    unfold atI
    rw [hb, if_pos rfl, l, e1]
  unfold wgR
  rw [hb, hw, if_pos rfl, if_pos rfl, ew, bcn_c, mnM_c _ (Nat.le_refl _)]
  have ef := fsx_cong (p := hsM (wgS nr nc C F K n Yr Dn Rt q (nI j))) (f := 64) (i := 0) (fun i _ hi => (hsM_b _ (by omega)).trans (hs_b _ (by omega)).symm)
  rw [ef]
end
