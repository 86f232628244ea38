/-! beside is mutual -/
theorem nbr_iff {nr nc x y : Nat} (h1 : 2 ≤ nr ∧ nr ≤ 8) (h2 : 2 ≤ nc ∧ nc ≤ 8) (hx : x < nr * nc) (hy : y < nr * nc) : nbr nr nc x y ↔ (y + nc = x ∨ y = x + nc ∨ (y = x + 1 ∧ x % nc + 1 < nc) ∨ (y + 1 = x ∧ 0 < x % nc)) := by
  have hcl := cells_le h1 h2
  obtain ⟨b0, b1, b2, b3⟩ := bs_nat h1 h2 hx
  have hdm := Nat.div_add_mod x nc
  have hm : x % nc < nc := Nat.mod_lt _ (by omega)
  have hr : x / nc < nr := Nat.div_lt_of_lt_mul (by rw [Nat.mul_comm]; exact hx)
  have hne : ¬ (-4 : Int32) = nI y := fun z => nI_ne4 (p := y) (by omega) z.symm
  have hpos : 0 < x / nc ↔ nc ≤ x := by
    constructor
    · intro z
      have : nc ≤ nc * (x / nc) := Nat.le_mul_of_pos_right _ z
      omega
    · intro z
      exact Nat.div_pos z (by omega)
  have hrow : x / nc + 1 < nr ↔ x + nc < nr * nc := by
    constructor
    · intro z
      have := rc_val (nr := nr) (nc := nc) (a := x / nc + 1) (b := x % nc) hm z
      rw [Nat.add_mul, Nat.one_mul, Nat.mul_comm (x / nc)] at this
      omega
    · intro z
      have : (x + nc) / nc < nr := Nat.div_lt_of_lt_mul (by rw [Nat.mul_comm]; exact z)
      rw [Nat.add_div_right _ (by omega)] at this
      exact this
  constructor
  · rintro ⟨d, hd, e⟩
    rcases (show d = 0 ∨ d = 1 ∨ d = 2 ∨ d = 3 by omega) with rfl | rfl | rfl | rfl
    · rw [b0] at e
      by_cases z : 0 < x / nc
      · rw [if_pos z] at e
        have := (nI_eq (by omega) (by omega)).mp e
        have := hpos.mp z
        omega
      · rw [if_neg z] at e; exact absurd e hne
    · rw [b1] at e
      by_cases z : x / nc + 1 < nr
      · rw [if_pos z] at e
        have := hrow.mp z
        have := (nI_eq (by omega) (by omega)).mp e
        omega
      · rw [if_neg z] at e; exact absurd e hne
    · rw [b2] at e
      by_cases z : x % nc + 1 < nc
      · rw [if_pos z] at e
        have := (nI_eq (by omega) (by omega)).mp e
        omega
      · rw [if_neg z] at e; exact absurd e hne
    · rw [b3] at e
      by_cases z : 0 < x % nc
      · rw [if_pos z] at e
        have := (nI_eq (by omega) (by omega)).mp e
        have : 0 < x := by
          rcases Nat.eq_zero_or_pos x with w | w
          · rw [w, Nat.zero_mod] at z; omega
          · exact w
        omega
      · rw [if_neg z] at e; exact absurd e hne
  · rintro (e | e | ⟨e, z⟩ | ⟨e, z⟩)
    · exact ⟨0, by decide, by rw [b0, if_pos (hpos.mpr (by omega)), show x - nc = y by omega]⟩
    · exact ⟨1, by decide, by rw [b1, if_pos (hrow.mpr (by omega)), show x + nc = y by omega]⟩
    · exact ⟨2, by decide, by rw [b2, if_pos z, show x + 1 = y by omega]⟩
    · exact ⟨3, by decide, by rw [b3, if_pos z, show x - 1 = y by omega]⟩
theorem mod_next {x nc : Nat} (h : 2 ≤ nc) (z : x % nc + 1 < nc) : (x + 1) % nc = x % nc + 1 := by
  rw [Nat.add_mod, Nat.mod_eq_of_lt (show 1 < nc by omega), Nat.mod_eq_of_lt z]
theorem nbr_sym {nr nc x y : Nat} (h1 : 2 ≤ nr ∧ nr ≤ 8) (h2 : 2 ≤ nc ∧ nc ≤ 8) (hx : x < nr * nc) (hy : y < nr * nc) (h : nbr nr nc x y) : nbr nr nc y x := by
  rw [nbr_iff h1 h2 hx hy] at h
  rw [nbr_iff h1 h2 hy hx]
  rcases h with e | e | ⟨e, z⟩ | ⟨e, z⟩
  · exact Or.inr (Or.inl e.symm)
  · exact Or.inl e.symm
  · right; right; right
    rw [e, mod_next (by omega) z]
    omega
  · right; right; left
    have hm : x % nc < nc := Nat.mod_lt _ (by omega)
    have hy2 : y % nc + 1 < nc := by
      rcases Nat.lt_or_ge (y % nc + 1) nc with w | w
      · exact w
      · have hyn : y % nc < nc := Nat.mod_lt _ (by omega)
        have e1 : y % nc = nc - 1 := by omega
        have : x % nc = 0 := by
          rw [← e, Nat.add_mod, e1, Nat.mod_eq_of_lt (show 1 < nc by omega), show nc - 1 + 1 = nc by omega, Nat.mod_self]
        omega
    exact ⟨e.symm, hy2⟩
