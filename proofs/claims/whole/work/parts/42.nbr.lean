/-! who is beside whom -/
theorem inB_m1 {a n : Nat} (ha : a < 1000) : inB (nI a + -1) n = decide (0 < a ∧ a - 1 < n) := by
  rcases Nat.eq_zero_or_pos a with z | z
  · subst z
    rw [show nI 0 + -1 = -1 by decide]
    unfold inB
    rw [show (-1 : Int32).toInt = -1 by decide]
    simp
  · have e : nI a + -1 = nI (a - 1) := by
      rw [← nI_sub1 z, Int32.sub_eq_add_neg]
    rw [e, inB_nI (by omega)]
    simp [z]
theorem bs_nat {nr nc x : Nat} (h1 : 2 ≤ nr ∧ nr ≤ 8) (h2 : 2 ≤ nc ∧ nc ≤ 8) (hx : x < nr * nc) : bsM nr nc (nI x) (nI 0) = (if 0 < x / nc then nI (x - nc) else -4) ∧ bsM nr nc (nI x) (nI 1) = (if x / nc + 1 < nr then nI (x + nc) else -4) ∧ bsM nr nc (nI x) (nI 2) = (if x % nc + 1 < nc then nI (x + 1) else -4) ∧ bsM nr nc (nI x) (nI 3) = (if 0 < x % nc then nI (x - 1) else -4) := by
  have hcl := cells_le h1 h2
  have hr : x / nc < nr := Nat.div_lt_of_lt_mul (by rw [Nat.mul_comm]; exact hx)
  have hm : x % nc < nc := Nat.mod_lt _ (by omega)
  have hdm := Nat.div_add_mod x nc
  have er : nI x / nI nc = nI (x / nc) := pk_div (by omega) (by omega) (by omega)
  have ec : nI x - nI x / nI nc * nI nc = nI (x % nc) := pk_rem (by omega) (by omega) (by omega)
  have hgen : ∀ d, d < 4 → bsM nr nc (nI x) (nI d) = if inB (nI (x / nc) + dnBy d) nr && inB (nI (x % nc) + rtBy d) nc then (nI (x / nc) + dnBy d) * nI nc + (nI (x % nc) + rtBy d) else -4 := by
    intro d hd
    have ha : ∀ d, d < 4 → (if nI d = 0 then (-1 : Int32) else if nI d = 1 then 1 else 0) = dnBy d ∧ (if nI d = 2 then (1 : Int32) else if nI d = 3 then -1 else 0) = rtBy d := by decide +kernel
    unfold bsM
    rw [(ha d hd).1, (ha d hd).2, ec, er]
  have hv : ∀ a b : Nat, nI a * nI nc + nI b = nI (a * nc + b) := fun a b => by rw [pk_mul, nI_add]
  have m1 : ∀ a : Nat, 0 < a → nI a + -1 = nI (a - 1) := fun a z => by rw [← nI_sub1 z, Int32.sub_eq_add_neg]
  refine ⟨?_, ?_, ?_, ?_⟩
  · rw [hgen 0 (by decide), show dnBy 0 = -1 from rfl, show rtBy 0 = 0 from rfl, Int32.add_zero, inB_m1 (by omega), inB_nI (by omega)]
    by_cases z : 0 < x / nc
    · rw [if_pos (by simp [z, hm]; omega), if_pos z, m1 _ z, hv]
      congr 1
      rw [Nat.sub_mul, Nat.one_mul, Nat.mul_comm]
      have : nc ≤ nc * (x / nc) := Nat.le_mul_of_pos_right _ z
      omega
    · rw [if_neg (by simp [z]), if_neg z]
  · rw [hgen 1 (by decide), show dnBy 1 = 1 from rfl, show rtBy 1 = 0 from rfl, Int32.add_zero, nI_1, inB_nI (by omega), inB_nI (by omega)]
    by_cases z : x / nc + 1 < nr
    · rw [if_pos (by simp [z, hm]), if_pos z, hv]
      congr 1
      rw [Nat.add_mul, Nat.one_mul, Nat.mul_comm]
      omega
    · rw [if_neg (by simp [z]), if_neg z]
  · rw [hgen 2 (by decide), show dnBy 2 = 0 from rfl, show rtBy 2 = 1 from rfl, Int32.add_zero, nI_1, inB_nI (by omega), inB_nI (by omega)]
    by_cases z : x % nc + 1 < nc
    · rw [if_pos (by simp [z, hr]), if_pos z, hv]
      congr 1
      rw [Nat.mul_comm]
      omega
    · rw [if_neg (by simp [z]), if_neg z]
  · rw [hgen 3 (by decide), show dnBy 3 = 0 from rfl, show rtBy 3 = -1 from rfl, Int32.add_zero, inB_nI (by omega), inB_m1 (by omega)]
    by_cases z : 0 < x % nc
    · rw [if_pos (by simp [z, hr]; omega), if_pos z, m1 _ z, hv]
      congr 1
      rw [Nat.mul_comm]
      omega
    · rw [if_neg (by simp [z]), if_neg z]
