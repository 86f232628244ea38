/-! older: the same factors in another order -/
def mnL (p : Nat → Bool) (X : Nat → Int32) (n : Nat) : Int32 := it (fun j a => if p j then (if X j < a then X j else a) else a) 1000 n
theorem mnL_s (p : Nat → Bool) (X : Nat → Int32) (n : Nat) : mnL p X (n + 1) = if p n then (if X n < mnL p X n then X n else mnL p X n) else mnL p X n := by
  unfold mnL
  exact it_s _ _ _
theorem mnL_spec (p : Nat → Bool) (X : Nat → Int32) (n : Nat) : (mnL p X n).toInt ≤ 1000 ∧ (mnL p X n = 1000 ∨ ∃ j, j < n ∧ p j = true ∧ X j = mnL p X n) ∧ ∀ j, j < n → p j = true → (mnL p X n).toInt ≤ (X j).toInt := by
  induction n with
  | zero => exact ⟨by show (1000 : Int32).toInt ≤ 1000; decide, Or.inl rfl, fun j hj => absurd hj (by omega)⟩
  | succ n ih =>
    obtain ⟨i1, i2, i3⟩ := ih
    rw [mnL_s]
    cases hp : p n with
    | false =>
      rw [if_neg (by decide)]
      refine ⟨i1, ?_, fun j hj h => ?_⟩
      · rcases i2 with e | ⟨j, hj, e⟩
        · exact Or.inl e
        · exact Or.inr ⟨j, by omega, e⟩
      · by_cases e : j = n
        · subst e; rw [hp] at h; exact absurd h (by decide)
        · exact i3 j (by omega) h
    | true =>
      rw [if_pos rfl]
      by_cases z : X n < mnL p X n
      · rw [if_pos z]
        have z2 := Int32.lt_iff_toInt_lt.mp z
        refine ⟨by omega, Or.inr ⟨n, by omega, hp, rfl⟩, fun j hj h => ?_⟩
        by_cases e : j = n
        · subst e; exact Int.le_refl _
        · have := i3 j (by omega) h
          omega
      · rw [if_neg z]
        have z2 : ¬ (X n).toInt < (mnL p X n).toInt := fun w => z (Int32.lt_iff_toInt_lt.mpr w)
        refine ⟨i1, ?_, fun j hj h => ?_⟩
        · rcases i2 with e | ⟨j, hj, e⟩
          · exact Or.inl e
          · exact Or.inr ⟨j, by omega, e⟩
        · by_cases e : j = n
          · subst e; omega
          · exact i3 j (by omega) h
theorem nmA_m' (my : Nat → Int32) (y : Int32) (n : Nat) : nmA my y n = mnL (fun k => !decide (my k ≤ y)) my n := by
  unfold nmA mnL
  refine it_cong (fun k _ a => ?_)
  by_cases z : my k ≤ y
  · simp [z]
  · by_cases z2 : a ≤ my k
    · have : ¬ my k < a := Int32.not_lt.mpr z2
      simp [z, z2, this]
    · have : my k < a := Int32.not_le.mp z2
      simp [z, z2, this]
/-- a product over some of the first n -/
def prd (S : Nat → Bool) (g : Nat → Int32) (w : Int32) (n : Nat) : Int32 := it (fun k a => if S k then a * g k else a) w n
theorem prd_s (S : Nat → Bool) (g : Nat → Int32) (w : Int32) (n : Nat) : prd S g w (n + 1) = if S n then prd S g w n * g n else prd S g w n := by
  unfold prd
  exact it_s _ _ _
theorem prd_w (S : Nat → Bool) (g : Nat → Int32) (w : Int32) (n : Nat) : prd S g w n = w * prd S g 1 n := by
  induction n with
  | zero => show w = w * 1; rw [Int32.mul_one]
  | succ n ih =>
    rw [prd_s, prd_s, ih]
    split
    · rw [Int32.mul_assoc]
    · rfl
theorem prd_or {S T : Nat → Bool} (g : Nat → Int32) {n : Nat} (h : ∀ k, k < n → ¬ (S k = true ∧ T k = true)) : prd (fun k => S k || T k) g 1 n = prd S g 1 n * prd T g 1 n := by
  induction n with
  | zero => rfl
  | succ n ih =>
    have ih := ih (fun k hk => h k (by omega))
    have hn := h n (by omega)
    rw [prd_s, prd_s, prd_s, ih]
    cases hS : S n <;> cases hT : T n
    · simp
    · simp only [Bool.false_or, if_true, Bool.false_eq_true, if_false, Int32.mul_assoc]
    · simp only [Bool.or_false, if_true, Bool.false_eq_true, if_false]
      rw [Int32.mul_assoc, Int32.mul_comm (prd T g 1 n), ← Int32.mul_assoc]
    · exact absurd ⟨hS, hT⟩ hn
theorem prd_cong {S T : Nat → Bool} {g h : Nat → Int32} {w : Int32} {n : Nat} (hS : ∀ k, k < n → S k = T k) (hg : ∀ k, k < n → S k = true → g k = h k) : prd S g w n = prd T h w n := by
  induction n with
  | zero => rfl
  | succ n ih =>
    rw [prd_s, prd_s, ih (fun k hk => hS k (by omega)) (fun k hk => hg k (by omega)), ← hS n (by omega)]
    cases hq : S n with
    | false => rfl
    | true => rw [if_pos rfl, if_pos rfl, hg n (by omega) hq]
section
variable {nr nc n q : Nat} {C B F K nw Yr Dn Rt my md mr : Nat → Int32}
theorem ym_m (hn : n ≤ 10) {u : Nat} (hu : u < n) : ymI n F K Yr (nI u) q = mnL (fun j => !decide (K u = 3) && loB F (Yr j) u) Yr q := by
  have hb : inB (nI u) n = true := by rw [inB_nI (by omega)]; simp [hu]
  have l : ix (nI u) = u := ixx (by omega)
  unfold ymI mnL
  refine it_cong (fun j _ a => ?_)
  unfold atI loI
  rw [hb, if_pos rfl, l, Bool.true_and]
  by_cases z : K u = 3
  · simp [z]
  · rw [if_neg z]; simp [z]
theorem orA_p (n : Nat) (F K Yr : Nat → Int32) (q k : Nat) : orA n F K Yr q k = prd (fun j => !decide (ymI n F K Yr (nI j) q = 1000)) (fun j => tgA n F K Yr q (ymI n F K Yr (nI j) q) j) 1 k := by
  unfold orA prd
  refine it_cong (fun j _ a => ?_)
  by_cases z : ymI n F K Yr (nI j) q = 1000 <;> simp [z]
theorem tgA_c (n : Nat) (F K Yr : Nat → Int32) (q : Nat) (mp : Int32) (k : Nat) : tgA n F K Yr q mp k = nI (1 + cnt (fun u => decide (ymI n F K Yr (nI u) q = mp)) k) := by
  induction k with
  | zero => rfl
  | succ k ih =>
    have e : tgA n F K Yr q mp (k + 1) = tgA n F K Yr q mp k + (if ymI n F K Yr (nI k) q = mp then 1 else 0) := by
      unfold tgA
      exact it_s _ _ _
    rw [e, ih, cnt_s]
    by_cases z : ymI n F K Yr (nI k) q = mp
    · rw [if_pos z, nI_1]; simp [z, Nat.add_assoc]
    · rw [if_neg z, Int32.add_zero]; simp [z]
/-- between two maps that follow each other: just the things that the second shows first -/
theorem ol_is (hn : n ≤ 10) (hv : VaM nr nc C B F K n) (hs : SaM C B F K n (cel nw 0) (sta nw 0) (fal nw 0) (kin nw 0)) (hc : VaC Yr Dn Rt q) (hsc : SaC Yr Dn Rt q my md mr) {fr : Int32} (hfr : fr = -1 ∨ ∃ j, j < q ∧ fr = Yr j) (hup : (nmA my fr q).toInt < 1000) {k : Nat} (hk : k < n) : olB nw fr (nmA my fr q) k = decide (ymI n F K Yr (nI k) q = nmA my fr q) := by
  obtain ⟨f, hf, ef⟩ := hv.2.2.2.1 k hk
  have hft : (F k).toInt = f := by rw [ef, nI_toInt (by omega)]
  have hyr : ∀ j, j < q → 0 ≤ (Yr j).toInt ∧ (Yr j).toInt ≤ 99 := by
    intro j hj
    obtain ⟨⟨a, ha, ea⟩, _⟩ := hc j hj
    rw [ea, nI_toInt (by omega)]
    omega
  have hfr1 : fr.toInt < 1000 := by
    rcases hfr with e | ⟨j, hj, e⟩
    · rw [e]; decide
    · rw [e]; have := hyr j hj; omega
  rw [nmA_m'] at hup ⊢
  obtain ⟨u1, u2, u3⟩ := mnL_spec (fun k => !decide (my k ≤ fr)) my q
  generalize hU : mnL (fun k => !decide (my k ≤ fr)) my q = up at *
  obtain ⟨j0, hj0, e0, e0'⟩ := u2.resolve_left (fun z => by rw [z, i32_1000] at hup; omega)
  rw [(hsc j0 hj0).1] at e0'
  rw [(hsc j0 hj0).1, Bool.not_eq_true', decide_eq_false_iff_not, Int32.not_le, Int32.lt_iff_toInt_lt, e0'] at e0
  unfold olB
  rw [(hs k hk).2.2.2, loB_same hv hs hup hk, loB_same hv hs hfr1 hk, ym_m hn hk]
  obtain ⟨y1, y2, y3⟩ := mnL_spec (fun j => !decide (K k = 3) && loB F (Yr j) k) Yr q
  generalize hY : mnL (fun j => !decide (K k = 3) && loB F (Yr j) k) Yr q = Y at *
  have hlo : ∀ w : Int32, loB F w k = decide ((F k).toInt ≤ w.toInt) := by
    intro w
    unfold loB
    by_cases z : w < F k
    · have := Int32.lt_iff_toInt_lt.mp z
      simp [z]; omega
    · have : ¬ w.toInt < (F k).toInt := fun y => z (Int32.lt_iff_toInt_lt.mpr y)
      simp [z]; omega
  rw [hlo, hlo]
  simp only [hlo] at y2 y3
  by_cases z3 : K k = 3
  · have : Y = 1000 := by
      rcases y2 with e | ⟨j, hj, e, _⟩
      · exact e
      · simp [z3] at e
    have hne : ¬ Y = up := fun e => by rw [← e, this, i32_1000] at hup; omega
    simp [z3, hne]
  · simp only [z3, decide_false, Bool.not_false, Bool.true_and] at y2 y3 ⊢
    by_cases a1 : (F k).toInt ≤ up.toInt
    · by_cases a2 : (F k).toInt ≤ fr.toInt
      · have hne : ¬ Y = up := fun e => by
          rcases hfr with e1 | ⟨j, hj, e1⟩
          · rw [e1, hft] at a2
            have : (-1 : Int32).toInt = -1 := by decide
            omega
          · have := y3 j hj (by rw [← e1]; exact decide_eq_true a2)
            rw [e, ← e1] at this
            omega
        simp [a2, hne]
      · have h1 := y3 j0 hj0 (by rw [e0']; exact decide_eq_true a1)
        rw [e0'] at h1
        have h2 : up.toInt ≤ Y.toInt := by
          rcases y2 with e | ⟨j, hj, e, e'⟩
          · rw [e, i32_1000]; omega
          · have g := of_decide_eq_true e
            have := u3 j hj (by rw [(hsc j hj).1, Bool.not_eq_true', decide_eq_false_iff_not, Int32.not_le, Int32.lt_iff_toInt_lt]; omega)
            rw [(hsc j hj).1, e'] at this
            exact this
        have : Y = up := Int32.toInt_inj.mp (by omega)
        simp [a1, a2, this]
    · have hne : ¬ Y = up := fun e => by
        rcases y2 with e1 | ⟨j, hj, e1, e2⟩
        · rw [← e, e1, i32_1000] at hup; omega
        · have g := of_decide_eq_true e1
          rw [e2, e] at g
          exact a1 g
      simp [a1, hne]
end
