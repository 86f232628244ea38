/-! how many stand and are lost -/
theorem cnt_one {p r : Nat → Bool} {c : Nat} (hp : p c = false) (hr : ∀ i, r i = (p i || decide (c = i))) : ∀ m, cnt r m = cnt p m + (if c < m then 1 else 0) := by
  intro m
  induction m with
  | zero => rfl
  | succ m ih =>
    rw [cnt_s, cnt_s, ih, hr m]
    by_cases e : c = m
    · subst e
      rw [hp]
      simp
    · rw [show decide (c = m) = false by simp [e], Bool.or_false]
      by_cases z : c < m
      · rw [if_pos z, if_pos (show c < m + 1 by omega)]
        omega
      · rw [if_neg z, if_neg (show ¬ c < m + 1 by omega)]
        omega
theorem cnt_it (p : Nat → Bool) (C : Nat → Int32) {n : Nat} (hc : ∀ k, k < n → ∃ c : Nat, c < 64 ∧ C k = nI c) (hd : ∀ k j, k < n → j < n → C k = C j → k = j) (S : Nat → Int64) (h0 : S 0 = 0) (hS : ∀ k, S (k + 1) = S k ||| (if p k then bt (C k) else 0)) : ∀ m, m ≤ n → cnt (gb (S m)) 64 = cnt p m ∧ ∀ i, gb (S m) i = true → ∃ k, k < m ∧ C k = nI i := by
  intro m hm
  induction m with
  | zero =>
    rw [h0]
    refine ⟨?_, fun i h => ?_⟩
    · show cnt (gb 0) 64 = 0
      have : ∀ m, cnt (gb 0) m = 0 := by
        intro m
        induction m with
        | zero => rfl
        | succ m ih => rw [cnt_s, ih, gb_0]; rfl
      exact this 64
    · rw [gb_0] at h; exact absurd h (by decide)
  | succ m ih =>
    obtain ⟨i1, i2⟩ := ih (by omega)
    obtain ⟨c, hc64, ec⟩ := hc m (by omega)
    rw [cnt_s p m, hS]
    cases hp : p m with
    | false =>
      rw [if_neg (by decide), if_neg (by decide)]
      have e : S m ||| 0 = S m := gb_ext (fun i _ => by rw [gb_or, gb_0, Bool.or_false])
      rw [e]
      exact ⟨i1, fun i h => by obtain ⟨k, hk, e2⟩ := i2 i h; exact ⟨k, by omega, e2⟩⟩
    | true =>
      rw [if_pos rfl, if_pos rfl, ec]
      have hno : gb (S m) c = false := by
        cases h : gb (S m) c with
        | false => rfl
        | true =>
          obtain ⟨k, hk, e2⟩ := i2 c h
          have := hd k m (by omega) (by omega) (e2.trans ec.symm)
          omega
      refine ⟨?_, fun i h => ?_⟩
      · rw [cnt_one (p := gb (S m)) (c := c) hno (fun i => by rw [gb_or, gb_bt hc64]) 64, i1, if_pos hc64]
      · rw [gb_or, gb_bt hc64, Bool.or_eq_true] at h
        rcases h with h | h
        · obtain ⟨k, hk, e2⟩ := i2 i h
          exact ⟨k, by omega, e2⟩
        · have := of_decide_eq_true h
          subst this
          exact ⟨m, by omega, ec⟩
theorem mbM_c (nw : Nat → Int32) (ba : Nat) (b : Bool) (n : Nat) : mbM nw ba b n = nI (cnt (mbB nw ba b) n) := by
  induction n with
  | zero => rfl
  | succ n ih =>
    have e : mbM nw ba b (n + 1) = mbM nw ba b n + (if mbB nw ba b n then 1 else 0) := by
      unfold mbM
      exact it_s _ _ _
    rw [e, ih, cnt_s]
    split
    · rw [nI_1]
    · rw [Int32.add_zero]; rfl
section
variable {nr nc n q : Nat} {C B F K nw : Nat → Int32} {y : Int32} {ba : Nat}
theorem stand_same (h1 : 2 ≤ nr ∧ nr ≤ 8) (h2 : 2 ≤ nc ∧ nc ≤ 8) (hv : VaM nr nc C B F K n) (hs : SaM C B F K n (cel nw ba) (sta nw ba) (fal nw ba) (kin nw ba)) (hy : nw ba = y) (hw : y.toInt < 1000) : mbM nw ba true n = bcn (stC C B F y n) := by
  have hcl := cells_le h1 h2
  rw [bcn_c, mbM_c]
  have h := (cnt_it (stB B F y) C (fun k hk => by obtain ⟨c, hc, ec⟩ := hv.1 k hk; exact ⟨c, by omega, ec⟩) hv.2.1 (stC C B F y) rfl (st_it C B F y) n (Nat.le_refl _)).1
  rw [h]
  congr 1
  exact cnt_cong (fun k hk => by unfold mbB; rw [if_pos rfl, hy]; exact stB_same hv hs hw hk)
theorem lost_same (h1 : 2 ≤ nr ∧ nr ≤ 8) (h2 : 2 ≤ nc ∧ nc ≤ 8) (hv : VaM nr nc C B F K n) (hs : SaM C B F K n (cel nw ba) (sta nw ba) (fal nw ba) (kin nw ba)) (hy : nw ba = y) (hw : y.toInt < 1000) : mbM nw ba false n = bcn (loC C F y n) := by
  have hcl := cells_le h1 h2
  rw [bcn_c, mbM_c]
  have h := (cnt_it (loB F y) C (fun k hk => by obtain ⟨c, hc, ec⟩ := hv.1 k hk; exact ⟨c, by omega, ec⟩) hv.2.1 (loC C F y) rfl (lo_it C F y) n (Nat.le_refl _)).1
  rw [h]
  congr 1
  exact cnt_cong (fun k hk => by unfold mbB; rw [if_neg (by decide), hy]; exact loB_same hv hs hw hk)
end
