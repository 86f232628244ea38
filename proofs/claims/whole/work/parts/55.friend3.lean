/-! friends: the reference goes through all choices -/
section
variable {nr nc n : Nat} {C B F K nw : Nat → Int32} {y : Int32}
/-- a choice tried: what is written, and whether all of it can burn -/
theorem tmA_at {st : Nat} {s : (Nat → Int32) × Bool} : ∀ k, k ≤ 10 → (∀ i, i < 484 → (tmA st s k).1 i = s.1 i) ∧ (∀ i, 494 ≤ i → (tmA st s k).1 i = s.1 i) ∧ ((tmA st s k).2 = true → s.2 = true ∧ (∀ t, t < k → hbi st t = true → cbB (sta s.1 0) (fal s.1 0) (kin s.1 0) (s.1 0) t = true) ∧ ∀ t, t < 10 → (tmA st s k).1 (484 + t) = if decide (t < k) && hbi st t then s.1 0 else s.1 (484 + t)) ∧ ((tmA st s k).2 = false → s.2 = false ∨ ∃ t, t < k ∧ hbi st t = true ∧ cbB (sta s.1 0) (fal s.1 0) (kin s.1 0) (s.1 0) t = false)
  | 0, _ => by
    have e : tmA st s 0 = s := rfl
    rw [e]
    exact ⟨fun _ _ => rfl, fun _ _ => rfl, fun h => ⟨h, fun t ht => absurd ht (Nat.not_lt_zero _), fun t _ => by simp⟩, fun h => Or.inl h⟩
  | k + 1, hk => by
    obtain ⟨a1, a2, a3, a4⟩ := tmA_at (st := st) (s := s) k (by omega)
    rw [tmA_s]
    generalize tmA st s k = T at *
    unfold tmS
    cases hT : T.2 with
    | false =>
      rw [if_neg (by decide)]
      refine ⟨a1, a2, fun h => absurd (hT.symm.trans h) (by decide), fun _ => ?_⟩
      rcases a4 hT with q | ⟨t, ht, q⟩
      · exact Or.inl q
      · exact Or.inr ⟨t, by omega, q⟩
    | true =>
      obtain ⟨b1, b2, b3⟩ := a3 hT
      rw [if_pos rfl]
      cases hb : hbi st k with
      | false =>
        rw [if_neg (by decide)]
        refine ⟨a1, a2, fun _ => ⟨b1, fun t ht hh => ?_, fun t ht => ?_⟩, fun h => absurd (hT.symm.trans h) (by decide)⟩
        · by_cases e : t = k
          · subst e; rw [hb] at hh; exact absurd hh (by decide)
          · exact b2 t (by omega) hh
        · rw [b3 t ht]
          by_cases e : t = k
          · subst e; simp [hb]
          · have : decide (t < k + 1) = decide (t < k) := by
              by_cases q : t < k
              · simp [q]; omega
              · simp [q]; omega
            rw [this]
      | true =>
        rw [if_pos rfl]
        have e0 : T.1 0 = s.1 0 := a1 0 (by decide)
        have ecb : cbB (sta T.1 0) (fal T.1 0) (kin T.1 0) (T.1 0) k = cbB (sta s.1 0) (fal s.1 0) (kin s.1 0) (s.1 0) k := by
          unfold cbB stB sta fal kin
          rw [e0, a1 _ (by omega), a1 _ (by omega), a1 _ (by omega)]
        refine ⟨fun i hi => ?_, fun i hi => ?_, fun h => ⟨b1, fun t ht hh => ?_, fun t ht => ?_⟩, fun h => ?_⟩
        · show upd T.1 (484 + k) (T.1 0) i = s.1 i
          rw [pk_un (by omega), a1 i hi]
        · show upd T.1 (484 + k) (T.1 0) i = s.1 i
          rw [pk_un (by omega), a2 i hi]
        · have h : cbB (sta T.1 0) (fal T.1 0) (kin T.1 0) (T.1 0) k = true := h
          by_cases e : t = k
          · subst e; rw [← ecb]; exact h
          · exact b2 t (by omega) hh
        · show upd T.1 (484 + k) (T.1 0) (484 + t) = _
          by_cases e : t = k
          · subst e; rw [pk_us, e0]; simp [hb]
          · rw [pk_un (by omega), b3 t ht]
            have : decide (t < k + 1) = decide (t < k) := by
              by_cases q : t < k
              · simp [q]; omega
              · simp [q]; omega
            rw [this]
        · have h : cbB (sta T.1 0) (fal T.1 0) (kin T.1 0) (T.1 0) k = false := h
          exact Or.inr ⟨k, by omega, hb, by rw [← ecb]; exact h⟩
/-- one choice more -/
theorem frS_at (h1 : 2 ≤ nr ∧ nr ≤ 8) (h2 : 2 ≤ nc ∧ nc ≤ 8) (hv : VaM nr nc C B F K n) (hs : SaM C B F K n (cel nw 0) (sta nw 0) (fal nw 0) (kin nw 0)) (hy : nw 0 = y) {yv : Nat} (hyv : y = nI yv) (hyv2 : yv ≤ 98) (hn : n ≤ 10) {a b st : Nat} (hst : st < 2 ^ n) {s : (Nat → Int32) × Int32} (hw : ∀ i, i < 462 → s.1 i = nw i) : (∀ i, i < 462 → (frS nr nc n a b st s).1 i = nw i) ∧ ((may st s.2 = true ∧ okSt nr nc C B F K y n a b st ∧ (frS nr nc n a b st s).2 = nI (cnt st.testBit n)) ∨ (¬ (may st s.2 = true ∧ okSt nr nc C B F K y n a b st) ∧ (frS nr nc n a b st s).2 = s.2)) := by
  have hst10 : st < 1024 := Nat.lt_of_lt_of_le hst (Nat.pow_le_pow_right (by decide) hn)
  have hyw : y.toInt < 1000 := by rw [hyv, nI_toInt (by omega)]; omega
  obtain ⟨a1, a2, a3, a4⟩ := tmA_at (st := st) (s := (cpM s.1 0 462 42, may st s.2)) n hn
  simp only at a1 a2 a3 a4
  -- the copied rows
  have c0 : ∀ i, i < 462 → cpM s.1 0 462 42 i = nw i := fun i hi => by rw [cpM_out _ (Or.inl hi), hw i hi]
  have c1 : ∀ i, i < 42 → cpM s.1 0 462 42 (462 + i) = nw i := fun i hi => by
    rw [cpM_in _ hi (Or.inl (by omega)), Nat.zero_add, hw i (by omega)]
  have ecb : ∀ t, t < n → cbB (sta (cpM s.1 0 462 42) 0) (fal (cpM s.1 0 462 42) 0) (kin (cpM s.1 0 462 42) 0) (cpM s.1 0 462 42 0) t = cbB B F K y t := fun t ht => by
    have : cbB (sta (cpM s.1 0 462 42) 0) (fal (cpM s.1 0 462 42) 0) (kin (cpM s.1 0 462 42) 0) (cpM s.1 0 462 42 0) t = cbB (sta nw 0) (fal nw 0) (kin nw 0) (nw 0) t := by
      unfold cbB stB sta fal kin
      rw [c0 0 (by decide), c0 _ (by omega), c0 _ (by omega), c0 _ (by omega)]
    rw [this, hy, cbB_same hv hs hyw ht]
  refine ⟨fun i hi => ?_, ?_⟩
  · show (tmA st (cpM s.1 0 462 42, may st s.2) n).1 i = nw i
    rw [a1 i (by omega), c0 i hi]
  · unfold frS frT
    simp only
    cases hT : (tmA st (cpM s.1 0 462 42, may st s.2) n).2 with
    | false =>
      right
      refine ⟨fun hok => ?_, by simp⟩
      rcases a4 hT with q | ⟨t, ht, q1, q2⟩
      · rw [q] at hok; exact absurd hok.1 (by decide)
      · rw [hbi_t hst10 (by omega)] at q1
        rw [ecb t ht, hok.2.1 t ht q1] at q2
        exact absurd q2 (by decide)
    | true =>
      obtain ⟨b1, b2, b3⟩ := a3 hT
      have hval : vSt B F K y n st := fun t ht hb => by
        have := b2 t ht (by rw [hbi_t hst10 (by omega)]; exact hb)
        rwa [ecb t ht] at this
      -- the rows that were tried
      have hE : drM nc (cel (tmA st (cpM s.1 0 462 42, may st s.2) n).1 462) (fal (tmA st (cpM s.1 0 462 42, may st s.2) n).1 462) (kin (tmA st (cpM s.1 0 462 42, may st s.2) n).1 462) ((tmA st (cpM s.1 0 462 42, may st s.2) n).1 0) n = wSt nr nc C F K y n st := by
        rw [a1 0 (by decide), c0 0 (by decide), hy]
        unfold wSt
        have hv2 : VaM nr nc C B (fSt F y st) K n := ⟨hv.1, hv.2.1, hv.2.2.1, fun k hk => by
          unfold fSt
          cases st.testBit k with
          | true => rw [if_pos rfl]; exact ⟨yv, by omega, hyv⟩
          | false => rw [if_neg (by decide)]; exact hv.2.2.2.1 k hk, hv.2.2.2.2⟩
        refine dr_same (B' := sta nw 0) h1 h2 hv2 (fun k hk => ?_) hyw
        obtain ⟨e1, e2, e3, e4⟩ := hs k hk
        refine ⟨?_, e2, ?_, ?_⟩
        · show (tmA st (cpM s.1 0 462 42, may st s.2) n).1 (462 + 2 + k) = C k
          rw [a1 _ (by omega), show 462 + 2 + k = 462 + (2 + k) by omega, c1 _ (by omega), ← e1, cel, Nat.zero_add]
        · show (tmA st (cpM s.1 0 462 42, may st s.2) n).1 (462 + 22 + k) = fM (fSt F y st k)
          have := b3 k (by omega)
          rw [show 462 + 22 + k = 484 + k by omega, this, hbi_t hst10 (by omega)]
          unfold fSt
          simp only [hk, decide_true, Bool.true_and]
          cases st.testBit k with
          | true => rw [if_pos rfl, if_pos rfl, c0 0 (by decide), hy, hyv, fM_id (by omega)]
          | false =>
            rw [if_neg (by decide), if_neg (by decide), show 484 + k = 462 + (22 + k) by omega, c1 _ (by omega), ← e3, fal, Nat.zero_add]
        · show (tmA st (cpM s.1 0 462 42, may st s.2) n).1 (462 + 32 + k) = K k
          rw [a2 _ (by omega), show 462 + 32 + k = 462 + (32 + k) by omega, c1 _ (by omega), ← e4, kin, Nat.zero_add]
      rw [hE]
      by_cases hX : stX nr nc (wSt nr nc C F K y n st) a b = -4
      · right
        refine ⟨fun hok => hok.2.2 hX, ?_⟩
        rw [hX]
        simp
      · left
        refine ⟨b1, ⟨hval, hX⟩, ?_⟩
        rw [if_pos (by simp [hX]), miM_c hst10 10 (Nat.le_refl _), cnt_more 10 hn (fun k hk _ => Nat.testBit_lt_two_pow (Nat.lt_of_lt_of_le hst (Nat.pow_le_pow_right (by decide) hk)))]
theorem frA_at (h1 : 2 ≤ nr ∧ nr ≤ 8) (h2 : 2 ≤ nc ∧ nc ≤ 8) (hv : VaM nr nc C B F K n) (hs : SaM C B F K n (cel nw 0) (sta nw 0) (fal nw 0) (kin nw 0)) (hy : nw 0 = y) {yv : Nat} (hyv : y = nI yv) (hyv2 : yv ≤ 98) (hn : n ≤ 10) {a b : Nat} : ∀ k, k ≤ 2 ^ n → (∀ i, i < 462 → (frA nr nc nw n a b k).1 i = nw i) ∧ (((frA nr nc nw n a b k).2 = -4 ∧ ∀ st, st < k → ¬ okSt nr nc C B F K y n a b st) ∨ ∃ m, m ≤ 10 ∧ (frA nr nc nw n a b k).2 = nI m ∧ (∃ st, st < k ∧ okSt nr nc C B F K y n a b st ∧ cnt st.testBit n = m) ∧ ∀ st, st < k → okSt nr nc C B F K y n a b st → m ≤ cnt st.testBit n)
  | 0, _ => ⟨fun _ _ => rfl, Or.inl ⟨rfl, fun _ h => absurd h (Nat.not_lt_zero _)⟩⟩
  | k + 1, hk => by
    obtain ⟨i1, i2⟩ := frA_at h1 h2 hv hs hy hyv hyv2 hn (a := a) (b := b) k (by omega)
    rw [frA_s]
    generalize frA nr nc nw n a b k = s at *
    have hk10 : k < 1024 := Nat.lt_of_lt_of_le (show k < 2 ^ n by omega) (Nat.pow_le_pow_right (by decide) hn)
    have hcn : cnt k.testBit n ≤ 10 := Nat.le_trans (cnt_le _ _) hn
    have hmi : miM (nI k) 10 = nI (cnt k.testBit n) := by
      rw [miM_c hk10 10 (Nat.le_refl _), cnt_more 10 hn (fun i hi _ => Nat.testBit_lt_two_pow (Nat.lt_of_lt_of_le (show k < 2 ^ n by omega) (Nat.pow_le_pow_right (by decide) hi)))]
    obtain ⟨j1, j2⟩ := frS_at h1 h2 hv hs hy hyv hyv2 hn (a := a) (b := b) (show k < 2 ^ n by omega) i1
    refine ⟨j1, ?_⟩
    rcases j2 with ⟨g1, g2, g3⟩ | ⟨g1, g2⟩
    · right
      refine ⟨cnt k.testBit n, hcn, g3, ⟨k, by omega, g2, rfl⟩, fun st hst hok => ?_⟩
      by_cases e : st = k
      · rw [e]; exact Nat.le_refl _
      · rcases i2 with ⟨_, q⟩ | ⟨m, hm, q1, _, q3⟩
        · exact absurd hok (q st (by omega))
        · have := q3 st (by omega) hok
          rw [may, q1, hmi] at g1
          simp only [Bool.or_eq_true, decide_eq_true_eq, Bool.not_eq_true', decide_eq_false_iff_not] at g1
          rcases g1 with z | z
          · exact absurd z (nI_ne4 (by omega))
          · have : ¬ m ≤ cnt k.testBit n := fun z2 => z (nI_le z2 (by omega))
            omega
    · rw [g2]
      rcases i2 with ⟨q1, q2⟩ | ⟨m, hm, q1, ⟨st0, s1, s2, s3⟩, q3⟩
      · left
        refine ⟨q1, fun st hst hok => ?_⟩
        by_cases e : st = k
        · rw [e] at hok
          exact g1 ⟨by rw [may, q1]; rfl, hok⟩
        · exact q2 st (by omega) hok
      · right
        refine ⟨m, hm, q1, ⟨st0, by omega, s2, s3⟩, fun st hst hok => ?_⟩
        by_cases e : st = k
        · rcases Nat.lt_or_ge (cnt st.testBit n) m with z | z
          · exfalso
            rw [e] at hok z
            refine g1 ⟨?_, hok⟩
            rw [may, q1, hmi]
            have : ¬ nI m ≤ nI (cnt k.testBit n) := fun z2 => by
              have := (nI_leI (by omega) (by omega)).mp z2
              omega
            simp [this]
          · exact z
        · exact q3 st (by omega) hok
theorem friend_same (h1 : 2 ≤ nr ∧ nr ≤ 8) (h2 : 2 ≤ nc ∧ nc ≤ 8) (hv : VaM nr nc C B F K n) (hs : SaM C B F K n (cel nw 0) (sta nw 0) (fal nw 0) (kin nw 0)) (hy : nw 0 = y) {yv : Nat} (hyv : y = nI yv) (hyv2 : yv ≤ 98) (hn : n ≤ 10) {a b : Nat} (ha : a < nr * nc) (hb : b < nr * nc) : (frA nr nc nw n a b (2 ^ n)).2 = plR (drC nr nc C F K y n) (buC nr nc C B F K y n) nr nc (nI a) (nI b) ∧ ∀ i, i < 462 → (frA nr nc nw n a b (2 ^ n)).1 i = nw i := by
  obtain ⟨i1, i2⟩ := frA_at h1 h2 hv hs hy hyv hyv2 hn (a := a) (b := b) (2 ^ n) (Nat.le_refl _)
  refine ⟨?_, i1⟩
  rcases friend_min h1 h2 hv (y := y) ha hb with ⟨p1, p2⟩ | ⟨m, p1, ⟨st, s1, s2, s3⟩, p3⟩
  · rcases i2 with ⟨q1, _⟩ | ⟨m, _, _, ⟨st, _, hok, _⟩, _⟩
    · rw [q1, p1]
    · exact absurd hok (p2 st)
  · rcases i2 with ⟨_, q2⟩ | ⟨m', _, q1, ⟨st', _, hok', hm'⟩, q3⟩
    · exact absurd s2 (q2 st s1)
    · have l1 := q3 st s1 s2
      have l2 := p3 st' hok'
      rw [q1, p1, show m' = m by omega]
end
