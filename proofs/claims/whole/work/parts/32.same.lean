/-! one moment of the class, the same of the reference -/
def fM (f : Int32) : Int32 := if f = 1000 then 100000 else f
/-- what a class's moment holds -/
def VaM (nr nc : Nat) (C B F K : Nat → Int32) (n : Nat) : Prop :=
  (∀ k, k < n → ∃ c : Nat, c < nr * nc ∧ C k = nI c) ∧ (∀ k j, k < n → j < n → C k = C j → k = j) ∧ (∀ k, k < n → ∃ b : Nat, b ≤ 99 ∧ B k = nI b) ∧ (∀ k, k < n → ∃ f : Nat, f ≤ 1000 ∧ F k = nI f) ∧ (∀ k, k < n → ∃ κ : Nat, κ ≤ 3 ∧ K k = nI κ)
/-- the reference's rows hold the same -/
def SaM (C B F K : Nat → Int32) (n : Nat) (C' B' F' K' : Nat → Int32) : Prop :=
  ∀ k, k < n → C' k = C k ∧ B' k = B k ∧ F' k = fM (F k) ∧ K' k = K k
theorem i32_1000 : (1000 : Int32).toInt = 1000 := by decide
theorem fM_le {f : Nat} (hf : f ≤ 1000) {w : Int32} (hw : w.toInt < 1000) : (fM (nI f) ≤ w) ↔ (nI f ≤ w) := by
  unfold fM
  split
  · rename_i e
    rw [e, Int32.le_iff_toInt_le, Int32.le_iff_toInt_le, i32_1000, i32_1e5]
    omega
  · exact Iff.rfl
theorem fM_lt {f : Nat} (hf : f ≤ 1000) {w : Int32} (hw : w.toInt < 1000) : (w < fM (nI f)) ↔ (w < nI f) := by
  rw [← Int32.not_le, ← Int32.not_le, fM_le hf hw]
theorem fM_eq {f : Nat} (hf : f ≤ 1000) {w : Int32} (hw : w.toInt < 1000) : (fM (nI f) = w) ↔ (nI f = w) := by
  unfold fM
  split
  · rename_i e
    rw [e]
    constructor
    · intro h; rw [← h, i32_1e5] at hw; omega
    · intro h; rw [← h, i32_1000] at hw; omega
  · exact Iff.rfl
section
variable {nr nc n : Nat} {C B F K C' B' F' K' : Nat → Int32}
theorem stB_same (hv : VaM nr nc C B F K n) (hs : SaM C B F K n C' B' F' K') {w : Int32} (hw : w.toInt < 1000) {k : Nat} (hk : k < n) : stB B' F' w k = stB B F w k := by
  obtain ⟨e1, e2, e3, e4⟩ := hs k hk
  obtain ⟨f, hf, ef⟩ := hv.2.2.2.1 k hk
  unfold stB
  rw [e2, e3, ef, decide_eq_decide.mpr (fM_le hf hw)]
theorem loB_same (hv : VaM nr nc C B F K n) (hs : SaM C B F K n C' B' F' K') {w : Int32} (hw : w.toInt < 1000) {k : Nat} (hk : k < n) : loB F' w k = loB F w k := by
  obtain ⟨e1, e2, e3, e4⟩ := hs k hk
  obtain ⟨f, hf, ef⟩ := hv.2.2.2.1 k hk
  unfold loB
  rw [e3, ef, decide_eq_decide.mpr (fM_lt hf hw)]
theorem cbB_same (hv : VaM nr nc C B F K n) (hs : SaM C B F K n C' B' F' K') {w : Int32} (hw : w.toInt < 1000) {k : Nat} (hk : k < n) : cbB B' F' K' w k = cbB B F K w k := by
  unfold cbB
  rw [stB_same hv hs hw hk, (hs k hk).2.2.2]
theorem stC_same (hv : VaM nr nc C B F K n) (hs : SaM C B F K n C' B' F' K') {w : Int32} (hw : w.toInt < 1000) : stC C' B' F' w n = stC C B F w n := by
  unfold stC
  exact it_cong (fun k hk a => by rw [stB_same hv hs hw hk, (hs k hk).1])
theorem loC_same (hv : VaM nr nc C B F K n) (hs : SaM C B F K n C' B' F' K') {w : Int32} (hw : w.toInt < 1000) : loC C' F' w n = loC C F w n := by
  unfold loC
  exact it_cong (fun k hk a => by rw [loB_same hv hs hw hk, (hs k hk).1])
theorem rc_val {nr nc a b : Nat} (hb : b < nc) (ha : a < nr) : a * nc + b < nr * nc := by
  calc a * nc + b < a * nc + nc := by omega
    _ = (a + 1) * nc := by rw [Nat.add_mul, Nat.one_mul]
    _ ≤ nr * nc := Nat.mul_le_mul_right _ ha
theorem nI_nm1 {p : Nat} (h : p < 2 ^ 31) : ¬ nI p = -1 := fun z => by
  have h1 : ¬ nI p < 0 := nI_pos h
  rw [z] at h1
  exact h1 (by decide)
theorem shf_val (h1 : 2 ≤ nr ∧ nr ≤ 8) (h2 : 2 ≤ nc ∧ nc ≤ 8) (x dn rt : Int32) : (shf nr nc x dn rt = -1 ∧ (inB (rwI nc x + dn) nr && inB (coI nc x + rt) nc) = false) ∨ (∃ j : Nat, j < nr * nc ∧ shf nr nc x dn rt = nI j ∧ (inB (rwI nc x + dn) nr && inB (coI nc x + rt) nc) = true ∧ (rwI nc x + dn) * nI nc + (coI nc x + rt) = nI j) := by
  cases hc : inB (rwI nc x + dn) nr && inB (coI nc x + rt) nc with
  | false => exact Or.inl ⟨by rw [shf, hc]; rfl, rfl⟩
  | true =>
    have hc2 := hc
    rw [Bool.and_eq_true] at hc2
    obtain ⟨a, ha, ea⟩ := inB_nat hc2.1 (by omega)
    obtain ⟨b, hb, eb⟩ := inB_nat hc2.2 (by omega)
    have e : (rwI nc x + dn) * nI nc + (coI nc x + rt) = nI (a * nc + b) := by rw [ea, eb, pk_mul, nI_add]
    exact Or.inr ⟨a * nc + b, rc_val hb ha, by rw [shf, hc, if_pos rfl, e], rfl, e⟩
theorem i32_assoc (a d : Int32) : a + d - 2 = a + (d - 2) := by
  rw [Int32.sub_eq_add_neg, Int32.sub_eq_add_neg, Int32.add_assoc]
theorem bh_same (h1 : 2 ≤ nr ∧ nr ≤ 8) (h2 : 2 ≤ nc ∧ nc ≤ 8) (w : Int64) (dn rt : Int32) {m : Nat} (hm : m ≤ 64) : bhM nr nc w dn rt m = shA nr nc w (dn - 2) (rt - 2) m := by
  have hcl := cells_le h1 h2
  unfold bhM shA
  refine it_cong (fun k hk a => ?_)
  rw [hsM_b w (by omega), hs_b w (by omega), i32_assoc, i32_assoc]
  show a ||| (if gb w k && (inB (rwI nc (nI k) + (dn - 2)) nr && inB (coI nc (nI k) + (rt - 2)) nc) then bt ((rwI nc (nI k) + (dn - 2)) * nI nc + (coI nc (nI k) + (rt - 2))) else 0) = _
  cases hg : gb w k with
  | false => simp
  | true =>
    rcases shf_val h1 h2 (nI k) (dn - 2) (rt - 2) with ⟨e1, e2⟩ | ⟨j, hj, e1, e2, e3⟩
    · rw [e1, e2]; simp
    · rw [e1, e2, e3, if_neg (nI_nm1 (by omega))]; simp
theorem bs_same (h1 : 2 ≤ nr ∧ nr ≤ 8) (h2 : 2 ≤ nc ∧ nc ≤ 8) (x : Int32) {d : Nat} (hd : d < 4) : bsM nr nc x (nI d) = if bsd nr nc x (nI d) = -1 then -4 else bsd nr nc x (nI d) := by
  have hcl := cells_le h1 h2
  have hin : inB (nI d) 4 = true := by rw [inB_nI (by omega)]; simp [hd]
  have e0 : bsd nr nc x (nI d) = shf nr nc x (dnBy d) (rtBy d) := by rw [bsd, hin, if_pos rfl, ixx (by omega)]
  have eM : bsM nr nc x (nI d) = if inB (rwI nc x + dnBy d) nr && inB (coI nc x + rtBy d) nc then (rwI nc x + dnBy d) * nI nc + (coI nc x + rtBy d) else -4 := by
    have ha : ∀ d, d < 4 → (if nI d = 0 then (-1 : Int32) else if nI d = 1 then 1 else 0) = dnBy d ∧ (if nI d = 2 then (1 : Int32) else if nI d = 3 then -1 else 0) = rtBy d := by decide +kernel
    unfold bsM
    rw [(ha d hd).1, (ha d hd).2]
    rfl
  rw [e0, eM]
  rcases shf_val h1 h2 x (dnBy d) (rtBy d) with ⟨e1, e2⟩ | ⟨j, hj, e1, e2, e3⟩
  · rw [e1, e2]; simp
  · rw [e1, e2, e3, if_neg (nI_nm1 (by omega))]; simp
theorem go_same (h1 : 2 ≤ nr ∧ nr ≤ 8) (h2 : 2 ≤ nc ∧ nc ≤ 8) {c : Nat} (hc : c < nr * nc) : (shf nr nc (nI c) 0 1 = -1 ∧ nI nc - 1 ≤ nI c - nI c / nI nc * nI nc) ∨ (shf nr nc (nI c) 0 1 = nI c + 1 ∧ c + 1 < nr * nc ∧ ¬ nI nc - 1 ≤ nI c - nI c / nI nc * nI nc) := by
  have hcl := cells_le h1 h2
  have er : rwI nc (nI c) = nI (c / nc) := pk_div (by omega) (by omega) (by omega)
  have ec : coI nc (nI c) = nI (c % nc) := by
    show nI c - nI c / nI nc * nI nc = _
    exact pk_rem (by omega) (by omega) (by omega)
  have hr : c / nc < nr := Nat.div_lt_of_lt_mul (by rw [Nat.mul_comm]; exact hc)
  have hm : c % nc < nc := Nat.mod_lt _ (by omega)
  have hdm := Nat.div_add_mod c nc
  rw [show nI c - nI c / nI nc * nI nc = nI (c % nc) from ec, show nI nc - 1 = nI (nc - 1) from nI_sub1 (by omega)]
  unfold shf
  rw [er, ec, Int32.add_zero, nI_1, inB_nI (by omega), inB_nI (by omega)]
  by_cases z : c % nc + 1 < nc
  · right
    refine ⟨?_, ?_, fun y => ?_⟩
    · rw [show (decide (c / nc < nr) && decide (c % nc + 1 < nc)) = true by simp [hr, z], if_pos rfl, pk_mul, nI_add, nI_1]
      congr 1
      rw [Nat.mul_comm]
      omega
    · have := rc_val (nr := nr) z hr
      rw [Nat.mul_comm] at this
      rw [Nat.mul_comm nr] at this ⊢
      omega
    · have := (nI_leI (by omega) (by omega)).mp y
      omega
  · left
    refine ⟨?_, ?_⟩
    · rw [show (decide (c / nc < nr) && decide (c % nc + 1 < nc)) = false by simp [z]]; rfl
    · exact nI_le (by omega) (by omega)
theorem dr_same (h1 : 2 ≤ nr ∧ nr ≤ 8) (h2 : 2 ≤ nc ∧ nc ≤ 8) (hv : VaM nr nc C B F K n) (hs : SaM C B F K n C' B' F' K') {w : Int32} (hw : w.toInt < 1000) : drM nc C' F' K' w n = drC nr nc C F K w n := by
  have hcl := cells_le h1 h2
  unfold drM drC
  refine it_cong (fun k hk a => ?_)
  obtain ⟨e1, e2, e3, e4⟩ := hs k hk
  obtain ⟨c, hc, ec⟩ := hv.1 k hk
  rw [loB_same hv hs hw hk, e4, e1]
  cases hq : loB F w k && !decide (K k = 3) with
  | false => simp
  | true =>
    rw [if_pos rfl, if_pos rfl]
    congr 1
    unfold goM plB
    rw [e4, e1, ec]
    rcases go_same h1 h2 hc with ⟨g1, g2⟩ | ⟨g1, g2, g3⟩
    · rw [g1]
      by_cases z : K k = 2 <;> simp [z, g2]
    · rw [g1, nI_1, if_neg (nI_nm1 (by omega))]
      by_cases z : K k = 2 <;> simp [z, g3]
theorem fsx_no {p : Nat → Bool} : ∀ {f i : Nat}, (∀ j, i ≤ j → j < i + f → p j = false) → fsx p f i = -4
  | 0, _, _ => rfl
  | f + 1, i, h => by
    rw [fsx, h i (by omega) (by omega), if_neg (by decide)]
    exact fsx_no (fun j h1 h2 => h j (by omega) (by omega))
theorem fsx_at {p : Nat → Bool} : ∀ {f i k : Nat}, i ≤ k → k < i + f → p k = true → (∀ j, i ≤ j → j < k → p j = false) → fsx p f i = nI k
  | 0, i, k, h1, h2, _, _ => by omega
  | f + 1, i, k, h1, h2, h3, h4 => by
    rw [fsx]
    by_cases e : i = k
    · subst e; rw [h3, if_pos rfl]
    · rw [h4 i (by omega) (by omega), if_neg (by decide)]
      exact fsx_at (by omega) (by omega) h3 (fun j g1 g2 => h4 j (by omega) g2)
theorem lsx_s (p : Nat → Bool) (n : Nat) : lsx p (n + 1) = if p n then nI n else lsx p n := by
  unfold lsx
  exact it_s _ _ _
theorem lsx_no {p : Nat → Bool} {n : Nat} (h : ∀ j, j < n → p j = false) : lsx p n = -4 := by
  induction n with
  | zero => rfl
  | succ n ih => rw [lsx_s, h n (by omega), if_neg (by decide)]; exact ih (fun j hj => h j (by omega))
theorem lsx_at {p : Nat → Bool} {n k : Nat} (hk : k < n) (h : p k = true) (hl : ∀ j, k < j → j < n → p j = false) : lsx p n = nI k := by
  induction n with
  | zero => omega
  | succ n ih =>
    rw [lsx_s]
    by_cases e : k = n
    · subst e; rw [h, if_pos rfl]
    · rw [hl n (by omega) (by omega), if_neg (by decide)]
      exact ih (by omega) (fun j h1 h2 => hl j h1 (by omega))
theorem th_same (hv : VaM nr nc C B F K n) (hs : SaM C B F K n C' B' F' K') (x : Int32) : lsx (fun k => decide (C' k = x)) n = thI C n x := by
  unfold thI
  by_cases h : ∃ k, k < n ∧ C k = x
  · obtain ⟨k, hk, ek⟩ := h
    have hu : ∀ j, j < n → ¬ j = k → ¬ C j = x := fun j hj hjk e => hjk (hv.2.1 j k hj hk (e.trans ek.symm))
    rw [lsx_at hk (by rw [(hs k hk).1, ek]; simp) (fun j h1 h2 => by rw [(hs j h2).1]; simp [hu j h2 (by omega)]), fsx_at (k := k) (Nat.zero_le _) (by omega) (by simp [ek]) (fun j _ h2 => by simp [hu j (by omega) (by omega)])]
  · have hu : ∀ j, j < n → ¬ C j = x := fun j hj e => h ⟨j, hj, e⟩
    rw [lsx_no (fun j hj => by rw [(hs j hj).1]; simp [hu j hj]), fsx_no (fun j _ h2 => by simp [hu j (by omega)])]
end
