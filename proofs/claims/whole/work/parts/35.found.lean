/-! found: hand by hand, year by year -/
section
variable {nr nc n q : Nat} {C B F K nw : Nat → Int32} {y : Int32} {ba : Nat}
theorem fcM_at (h1 : 2 ≤ nr ∧ nr ≤ 8) (h2 : 2 ≤ nc ∧ nc ≤ 8) (hv : VaM nr nc C B F K n) (hs : SaM C B F K n (cel nw 0) (sta nw 0) (fal nw 0) (kin nw 0)) {j h : Nat} (hj : j ≤ 98) (hh : h < 25) (sc : Int64) : decide (fcM nr nc nw n (25 * j + h) = sc) = jsB nr nc sc (drC nr nc C F K (nI j) n) (nI h) := by
  have e1 : nI (25 * j + h) / 25 = nI j := by
    rw [show (25 : Int32) = nI 25 from rfl, pk_div (by omega) (by decide) (by decide)]
    congr 1
    omega
  have e2 : nI (25 * j + h) / 5 = nI (5 * j + h / 5) := by
    rw [show (5 : Int32) = nI 5 from rfl, pk_div (by omega) (by decide) (by decide)]
    congr 1
    omega
  have e3 : nI (5 * j + h / 5) - nI (5 * j + h / 5) / 5 * 5 = nI (h / 5) := by
    rw [show (5 : Int32) = nI 5 from rfl, pk_rem (by omega) (by decide) (by decide)]
    congr 1
    omega
  have e4 : nI (25 * j + h) - nI (25 * j + h) / 5 * 5 = nI (h % 5) := by
    rw [show (5 : Int32) = nI 5 from rfl, pk_rem (by omega) (by decide) (by decide)]
    congr 1
    omega
  have e5 : nI h / 5 = nI (h / 5) := by
    rw [show (5 : Int32) = nI 5 from rfl, pk_div (by omega) (by decide) (by decide)]
  have e6 : nI h - nI h / 5 * 5 = nI (h % 5) := by
    rw [show (5 : Int32) = nI 5 from rfl, pk_rem (by omega) (by decide) (by decide)]
  unfold fcM jsB
  rw [e4, e2, e3, e1, e6, e5, dr_same h1 h2 hv hs (nI_lt1000 (by omega)), bh_same h1 h2 _ _ _ (cells_le h1 h2)]
theorem fdM_s (nr nc : Nat) (nw : Nat → Int32) (n : Nat) (v : Int64) (k : Nat) : fdM nr nc nw n v (k + 1) = if fcM nr nc nw n k = v then ((fdM nr nc nw n v k).1 + 1, if (fdM nr nc nw n v k).1 = 0 then nI k else (fdM nr nc nw n v k).2) else fdM nr nc nw n v k := by
  unfold fdM
  exact it_s _ _ _
theorem fdA_s (nr nc : Nat) (C F K : Nat → Int32) (n : Nat) (sc : Int64) (k : Nat) : fdA nr nc C F K n sc (k + 1) = ((fdA nr nc C F K n sc k).1 + hsA nr nc sc (drC nr nc C F K (nI k) n) 25, if (fdA nr nc C F K n sc k).1 = 0 then (if hsA nr nc sc (drC nr nc C F K (nI k) n) 25 ≤ 0 then (fdA nr nc C F K n sc k).2 else 25 * nI k + fhA nr nc sc (drC nr nc C F K (nI k) n)) else (fdA nr nc C F K n sc k).2) := by
  unfold fdA
  exact it_s _ _ _
theorem hsA_c (nr nc : Nat) (sc w : Int64) (m : Nat) : hsA nr nc sc w m = nI (cnt (fun h => jsB nr nc sc w (nI h)) m) := by
  induction m with
  | zero => rfl
  | succ m ih =>
    have e : hsA nr nc sc w (m + 1) = hsA nr nc sc w m + (if jsB nr nc sc w (nI m) then 1 else 0) := by
      unfold hsA
      exact it_s _ _ _
    rw [e, ih, cnt_s]
    split
    · rw [nI_1]
    · rw [Int32.add_zero]; rfl
/-- the first hand among m that shows it, if there is one -/
theorem cnt_first {p : Nat → Bool} : ∀ {m : Nat}, 0 < cnt p m → ∃ k, k < m ∧ p k = true ∧ ∀ j, j < k → p j = false
  | 0, h => absurd h (Nat.lt_irrefl 0)
  | m + 1, h => by
    by_cases z : 0 < cnt p m
    · obtain ⟨k, hk, h1, h2⟩ := cnt_first z
      exact ⟨k, by omega, h1, h2⟩
    · rw [cnt_s] at h
      have h0 : cnt p m = 0 := by omega
      refine ⟨m, by omega, ?_, ?_⟩
      · cases hp : p m with
        | true => rfl
        | false => rw [hp, h0] at h; exact absurd h (by decide)
      · have hz : ∀ m, cnt p m = 0 → ∀ j, j < m → p j = false := by
          intro m
          induction m with
          | zero => intro _ j hj; omega
          | succ m ih =>
            intro hc j hj
            rw [cnt_s] at hc
            by_cases e : j = m
            · subst e
              cases hp : p j with
              | false => rfl
              | true => rw [hp, if_pos rfl] at hc; omega
            · exact ih (by omega) j (by omega)
        exact hz m h0
theorem fd_year (h1 : 2 ≤ nr ∧ nr ≤ 8) (h2 : 2 ≤ nc ∧ nc ≤ 8) (hv : VaM nr nc C B F K n) (hs : SaM C B F K n (cel nw 0) (sta nw 0) (fal nw 0) (kin nw 0)) {j : Nat} (hj : j ≤ 98) (sc : Int64) {a : Nat} {f0 : Int32} (ha : a ≤ 25 * j) (h0 : fdM nr nc nw n sc (25 * j) = (nI a, f0)) : ∀ m, m ≤ 25 → fdM nr nc nw n sc (25 * j + m) = (nI (a + cnt (fun h => jsB nr nc sc (drC nr nc C F K (nI j) n) (nI h)) m), if a = 0 then (if cnt (fun h => jsB nr nc sc (drC nr nc C F K (nI j) n) (nI h)) m = 0 then f0 else 25 * nI j + fsx (fun h => jsB nr nc sc (drC nr nc C F K (nI j) n) (nI h)) m 0) else f0) := by
  intro m
  generalize hp : (fun h => jsB nr nc sc (drC nr nc C F K (nI j) n) (nI h)) = p
  induction m with
  | zero =>
    intro _
    show fdM nr nc nw n sc (25 * j) = _
    rw [h0]
    show (nI a, f0) = (nI (a + 0), if a = 0 then (if (0 : Nat) = 0 then f0 else _) else f0)
    simp
  | succ m ih =>
    intro hm
    have ih := ih (by omega)
    have hcl := cnt_le p m
    have hpm : decide (fcM nr nc nw n (25 * j + m) = sc) = p m := by rw [fcM_at h1 h2 hv hs hj (by omega), ← hp]
    rw [← Nat.add_assoc, fdM_s, ih, cnt_s]
    cases hq : p m with
    | false =>
      rw [hq, decide_eq_false_iff_not] at hpm
      rw [if_neg hpm]
      simp only [Bool.false_eq_true, if_false, Nat.add_zero]
      congr 1
      by_cases z : cnt p m = 0
      · rw [if_pos z, if_pos z]
      · rw [if_neg z, if_neg z]
        obtain ⟨k, hk, g1, g2⟩ := cnt_first (p := p) (m := m) (by omega)
        rw [fsx_at (k := k) (Nat.zero_le _) (by omega) g1 (fun i _ h => g2 i h), fsx_at (k := k) (Nat.zero_le _) (by omega) g1 (fun i _ h => g2 i h)]
    | true =>
      rw [hq, decide_eq_true_iff] at hpm
      rw [if_pos hpm]
      simp only [if_true]
      congr 1
      · rw [nI_1]; rfl
      · rw [if_neg (show ¬ cnt p m + 1 = 0 by omega)]
        by_cases za : a = 0
        · rw [if_pos za]
          by_cases z : cnt p m = 0
          · have z0 : nI (a + cnt p m) = 0 := by rw [za, z]; rfl
            rw [if_pos z0, if_pos za]
            have hz : ∀ i, 0 ≤ i → i < m → p i = false := by
              intro i _ hi
              cases hpi : p i with
              | false => rfl
              | true =>
                have : ∀ m, i < m → 0 < cnt p m := by
                  intro m
                  induction m with
                  | zero => intro h; omega
                  | succ m ih2 =>
                    intro h
                    rw [cnt_s]
                    by_cases e : i = m
                    · subst e; rw [hpi, if_pos rfl]; omega
                    · have := ih2 (by omega); omega
                have := this m hi
                omega
            rw [fsx_at (k := m) (Nat.zero_le _) (by omega) hq (fun i h1 h2 => hz i h1 h2), show (25 : Int32) = nI 25 from rfl, pk_mul, nI_add]
          · have z0 : ¬ nI (a + cnt p m) = 0 := fun e => by
              have := (nI_eq (a := a + cnt p m) (b := 0) (by omega) (by decide)).mp e
              omega
            rw [if_neg z0, if_pos za, if_neg z]
            obtain ⟨k, hk, g1, g2⟩ := cnt_first (p := p) (m := m) (by omega)
            rw [fsx_at (k := k) (Nat.zero_le _) (by omega) g1 (fun i _ h => g2 i h), fsx_at (k := k) (Nat.zero_le _) (by omega) g1 (fun i _ h => g2 i h)]
        · have z0 : ¬ nI (a + cnt p m) = 0 := fun e => by
            have := (nI_eq (a := a + cnt p m) (b := 0) (by omega) (by decide)).mp e
            omega
          rw [if_neg z0, if_neg za, if_neg za]
theorem found_same (h1 : 2 ≤ nr ∧ nr ≤ 8) (h2 : 2 ≤ nc ∧ nc ≤ 8) (hv : VaM nr nc C B F K n) (hs : SaM C B F K n (cel nw 0) (sta nw 0) (fal nw 0) (kin nw 0)) (sc : Int64) : ∀ k, k ≤ 99 → fdM nr nc nw n sc (25 * k) = fdA nr nc C F K n sc k ∧ ∃ a : Nat, a ≤ 25 * k ∧ (fdA nr nc C F K n sc k).1 = nI a := by
  intro k
  induction k with
  | zero => intro _; exact ⟨rfl, 0, by omega, rfl⟩
  | succ k ih =>
    intro hk
    obtain ⟨e1, a, ha, e2⟩ := ih (by omega)
    have h0 : fdM nr nc nw n sc (25 * k) = (nI a, (fdA nr nc C F K n sc k).2) := by rw [e1, ← e2]
    have hy := fd_year h1 h2 hv hs (j := k) (by omega) sc ha h0 25 (by omega)
    have hcl := cnt_le (fun h => jsB nr nc sc (drC nr nc C F K (nI k) n) (nI h)) 25
    rw [show 25 * (k + 1) = 25 * k + 25 by omega, hy, fdA_s, e2, hsA_c]
    refine ⟨?_, a + cnt (fun h => jsB nr nc sc (drC nr nc C F K (nI k) n) (nI h)) 25, by omega, nI_add _ _⟩
    rw [nI_add]
    congr 1
    by_cases za : a = 0
    · have z0 : nI a = 0 := by rw [za]; rfl
      rw [if_pos za, if_pos z0]
      by_cases z : cnt (fun h => jsB nr nc sc (drC nr nc C F K (nI k) n) (nI h)) 25 = 0
      · have z2 : nI (cnt (fun h => jsB nr nc sc (drC nr nc C F K (nI k) n) (nI h)) 25) ≤ 0 := by rw [z]; decide
        rw [if_pos z, if_pos z2]
      · have z2 : ¬ nI (cnt (fun h => jsB nr nc sc (drC nr nc C F K (nI k) n) (nI h)) 25) ≤ 0 := fun e => z (nI_0le (by omega) e)
        rw [if_neg z, if_neg z2]
        rfl
    · have z0 : ¬ nI a = 0 := fun e => za ((nI_eq (a := a) (b := 0) (by omega) (by decide)).mp e)
      rw [if_neg za, if_neg z0]
end
