/-! writing, laying, seeing: both hold the same again -/
theorem sign_all : ∀ c, c < 127 → cwc (nI c) = nI c ∧ byt (nI c) = nI c ∧ (nI c).toUInt32.toUInt16.toUInt32.toInt32 = nI c := by decide +kernel
theorem sign_nar {c : Nat} (h : c < 127) : narrow .char (.int (nI c)) = .int (nI c) := by
  show Value.int ((nI c).toUInt32.toUInt16.toUInt32.toInt32) = .int (nI c)
  rw [(sign_all c h).2.2]
theorem wr_same {x : Int32} {tn : Nat} (ht : tn ≤ 200) : wrB x tn = (inn x 32 126 && !decide (tn = 200)) := by
  unfold wrB inn
  have e : decide (tn < 200) = !decide (tn = 200) := by
    by_cases q : tn = 200
    · subst q; rfl
    · simp [q]; omega
  have e2 : decide (x ≤ 126) = !decide (126 < x) := by
    by_cases q : x ≤ 126
    · simp [q, Int32.not_lt.mpr q]
    · simp [q, Int32.not_le.mp q]
  rw [e, e2]
  cases decide (x < 32) <;> cases decide (126 < x) <;> rfl
theorem write_ans {x : Int32} {tn : Nat} (ht : tn ≤ 200) : wrR x tn = if inn x 32 126 then (if tn = 200 then -3 else nI (tn + 1)) else -1 := by
  unfold wrR inn
  by_cases q1 : x < 32
  · simp [q1]
  · by_cases q2 : x ≤ 126
    · have q3 : ¬ 126 < x := Int32.not_lt.mpr q2
      by_cases q4 : tn = 200
      · subst q4; simp [q1, q2, q3]
      · have : tn < 200 := by omega
        simp [q1, q2, q3, q4, this]
    · have q3 : 126 < x := Int32.not_le.mp q2
      simp [q1, q2, q3]
theorem write_R {Sg tx : Nat → Int32} {tn ty : Nat} (h : TeR Sg tn tx ty) (x : Int32) : TeR (if wrB x tn then upd Sg tn (cwc x) else Sg) (if wrB x tn then tn + 1 else tn) (if inn x 32 126 && !decide (ty = 200) then upd tx ty (byt x) else tx) (if inn x 32 126 && !decide (ty = 200) then ty + 1 else ty) := by
  obtain ⟨h1, rfl, h3, h4⟩ := h
  rw [wr_same h1]
  cases hq : inn x 32 126 && !decide (ty = 200) with
  | false => exact ⟨h1, rfl, h3, h4⟩
  | true =>
    rw [if_pos rfl, if_pos rfl, if_pos rfl]
    rw [Bool.and_eq_true, Bool.not_eq_true', decide_eq_false_iff_not] at hq
    obtain ⟨c, hc1, hc2, rfl⟩ := inn_r (a := 32) (b := 126) (by decide) (by decide) hq.1
    obtain ⟨s1, s2, _⟩ := sign_all c (by omega)
    rw [s1, s2]
    refine ⟨by omega, rfl, fun p hp => ?_, fun j => ?_⟩
    · by_cases e : p = ty
      · subst e; rw [pk_us, pk_us]; exact ⟨c, hc1, hc2, rfl, rfl⟩
      · rw [pk_un e, pk_un e]; exact h3 p (by omega)
    · by_cases e : j = ty
      · subst e; rw [pk_us]; exact sign_nar (by omega)
      · rw [pk_un e]; exact h4 j
theorem wipe_R {Sg tx : Nat → Int32} {tn ty : Nat} (h : TeR Sg tn tx ty) : TeR Sg 0 tx 0 := ⟨by omega, rfl, fun p hp => absurd hp (Nat.not_lt_zero _), h.2.2.2⟩
theorem snM_s (sa : Nat → Int32) (n : Nat) : snM sa (n + 1) = snM sa n ||| bt (sa n) := by
  unfold snM
  exact it_s _ _ _
theorem snM_up (sa : Nat → Int32) (m : Nat) (x : Int32) (n : Nat) (h : n ≤ m) : snM (upd sa m x) n = snM sa n := by
  induction n with
  | zero =>
    unfold snM
    rw [it_0, it_0]
  | succ n ih => rw [snM_s, snM_s, ih (by omega), pk_un (by omega)]
theorem seen_R {sc : Int64} {sv sm nr nc : Nat} {sa : Nat → Int32} (h : SeR sc sv sa sm) (x : Int32) : SeR (if inG nr nc x && decide (sv < 12) then sc ||| bt x else sc) (if inG nr nc x && decide (sv < 12) then sv + 1 else sv) (if inG nr nc x && !decide (sm = 12) then upd sa sm x else sa) (if inG nr nc x && !decide (sm = 12) then sm + 1 else sm) ∧ (if inG nr nc x then (if sv < 12 then nI (sv + 1) else -3) else -1 : Int32) = (if inG nr nc x then (if sm = 12 then -3 else nI (sm + 1)) else -1) := by
  obtain ⟨h1, rfl, h3⟩ := h
  have e : (!decide (sm = 12)) = decide (sm < 12) := by
    by_cases q : sm = 12
    · subst q; rfl
    · simp [q]; omega
  rw [e]
  refine ⟨?_, ?_⟩
  · cases hq : inG nr nc x && decide (sm < 12) with
    | false => exact ⟨h1, rfl, h3⟩
    | true =>
      rw [Bool.and_eq_true, decide_eq_true_eq] at hq
      rw [if_pos rfl, if_pos rfl, if_pos rfl]
      exact ⟨by omega, rfl, by rw [snM_s, snM_up _ _ _ _ (Nat.le_refl _), pk_us, h3]⟩
  · by_cases q : sm = 12
    · subst q; rfl
    · rw [if_pos (show sm < 12 by omega), if_neg q]
theorem forget_R (sa : Nat → Int32) : SeR 0 0 sa 0 := ⟨by omega, rfl, rfl⟩
/-- a reading alone changes nothing of the land -/
theorem GrR_read {nr nc q : Nat} {Yr Dn Rt ro co mp my md mr : Nat → Int32} (h : GrR nr nc Yr Dn Rt q ro co mp my md mr) {my' md' mr' : Nat → Int32} (x9 z9 m9 : Int32) (e : ∀ i, i < 5 → my' i = my i ∧ md' i = md i ∧ mr' i = mr i) : GrR nr nc Yr Dn Rt q (upd ro 1 x9) (upd co 1 z9) (upd mp 1 m9) my' md' mr' := by
  obtain ⟨h1, h2, h3, h4, h5, h6, h7, h8⟩ := h
  refine ⟨h1, h2, by rw [pk_un (by decide)]; exact h3, by rw [pk_un (by decide)]; exact h4, by rw [pk_un (by decide)]; exact h5, h6, h7, fun k hk => ?_⟩
  obtain ⟨a1, a2, a3⟩ := h8 k hk
  obtain ⟨b1, b2, b3⟩ := e k (by omega)
  exact ⟨b1.trans a1, b2.trans a2, b3.trans a3⟩
theorem lyM_at (f : Nat → Int32) : ∀ n, n ≤ 5 → (∀ k, k < n → lyM f n k = f (5 + k)) ∧ ∀ k, n ≤ k → lyM f n k = f k
  | 0, _ => ⟨fun k hk => absurd hk (Nat.not_lt_zero _), fun _ _ => rfl⟩
  | n + 1, h => by
    obtain ⟨a1, a2⟩ := lyM_at f n (by omega)
    have e : lyM f (n + 1) = upd (lyM f n) (5 * 0 + n) (lyM f n (5 + n)) := by
      unfold lyM
      exact it_s _ _ _
    rw [e, show 5 * 0 + n = n by omega]
    refine ⟨fun k hk => ?_, fun k hk => ?_⟩
    · by_cases q : k = n
      · subst q; rw [pk_us]; exact a2 _ (by omega)
      · rw [pk_un q]; exact a1 k (by omega)
    · rw [pk_un (by omega)]; exact a2 k (by omega)
theorem lzM_at (dr f : Nat → Int32) : ∀ n i, lzM dr f n i = if 2 ≤ i ∧ i < 2 + n then dr (i - 2) else f i
  | 0, i => by rw [if_neg (by omega)]; rfl
  | n + 1, i => by
    have e : lzM dr f (n + 1) = upd (lzM dr f n) (2 + n) (dr n) := by
      unfold lzM
      exact it_s _ _ _
    rw [e]
    by_cases q : i = 2 + n
    · subst q; rw [pk_us, if_pos (by omega)]; congr 1; omega
    · rw [pk_un q, lzM_at dr f n]
      by_cases w : 2 ≤ i ∧ i < 2 + n
      · rw [if_pos w, if_pos (by omega)]
      · rw [if_neg w, if_neg (by omega)]
theorem Df0 (C B F K Yr Dn Rt nb dr my md mr : Nat → Int32) : DfR (5, 5, C, B, F, K, 0, Yr, Dn, Rt, 0, nb) (5, 5, dr, 0, my, md, mr, 0) :=
  ⟨⟨(by decide : 2 ≤ 5), (by decide : 5 ≤ 8)⟩, ⟨(by decide : 2 ≤ 5), (by decide : 5 ≤ 8)⟩, rfl, rfl, rfl, rfl, Nat.zero_le _, Nat.zero_le _, ⟨fun k hk => absurd hk (Nat.not_lt_zero _), fun k j hk => absurd hk (Nat.not_lt_zero _), fun k hk => absurd hk (Nat.not_lt_zero _), fun k hk => absurd hk (Nat.not_lt_zero _), fun k hk => absurd hk (Nat.not_lt_zero _)⟩, fun k hk => absurd hk (Nat.not_lt_zero _), fun k hk => absurd hk (Nat.not_lt_zero _), fun k hk => absurd hk (Nat.not_lt_zero _), fun k hk => absurd hk (Nat.not_lt_zero _)⟩
/-- a draft is laid -/
theorem lay_R {δ : Dr} {s : Ms} (h : DfR δ s) (hn : ¬ δ.2.2.2.2.2.2.1 = 0) (C B F K Yr Dn Rt nw ro co mp : Nat → Int32) : GrR δ.1 δ.2.1 (va_cpy δ.2.2.2.2.2.2.2.1 Yr 0 0 5) (va_cpy δ.2.2.2.2.2.2.2.2.1 Dn 0 0 5) (va_cpy δ.2.2.2.2.2.2.2.2.2.1 Rt 0 0 5) δ.2.2.2.2.2.2.2.2.2.2.1 (upd (upd ro 1 (nI s.1)) 0 (nI s.1)) (upd (upd co 1 (nI s.2.1)) 0 (nI s.2.1)) (upd (upd mp 1 (nI s.2.2.2.2.2.2.2)) 0 (nI s.2.2.2.2.2.2.2)) (lyM s.2.2.2.2.1 s.2.2.2.2.2.2.2) (lyM s.2.2.2.2.2.1 s.2.2.2.2.2.2.2) (lyM s.2.2.2.2.2.2.1 s.2.2.2.2.2.2.2) ∧ MoR δ.1 δ.2.1 (va_cpy δ.2.2.1 C 0 0 10) (va_cpy δ.2.2.2.1 B 0 0 10) (va_cpy δ.2.2.2.2.1 F 0 0 10) (va_cpy δ.2.2.2.2.2.1 K 0 0 10) δ.2.2.2.2.2.2.1 0 (lzM s.2.2.1 (upd (upd nw 0 0) 1 (nI s.2.2.2.1)) 40) 0 := by
  obtain ⟨nr, nc, eC, eB, eF, eK, n, eY, eD, eR, q, nb⟩ := δ
  obtain ⟨r1, c1, dr, dm, my, md, mr, q1⟩ := s
  obtain ⟨g1, g2, rfl, rfl, rfl, rfl, g7, g8, g9, gA, gB, gC, gD⟩ := h
  simp only at g1 g2 g7 g8 g9 gA gB gC gD hn ⊢
  refine ⟨⟨g1, g2, pk_us, pk_us, pk_us, g8, fun k hk => ?_, fun k hk => ?_⟩, ?_⟩
  · rw [cpy5 _ _ (by omega), cpy5 _ _ (by omega), cpy5 _ _ (by omega)]
    exact gC k hk
  · rw [cpy5 _ _ (by omega), cpy5 _ _ (by omega), cpy5 _ _ (by omega), (lyM_at my q1 g8).1 k hk, (lyM_at md q1 g8).1 k hk, (lyM_at mr q1 g8).1 k hk]
    exact gD k hk
  · refine MoR_cpy ⟨⟨by omega, g7⟩, ?_, ?_, ⟨0, by decide, rfl⟩, g9, gA, fun k hk => ?_⟩
    · rw [lzM_at, if_neg (by omega)]
      exact pk_us
    · rw [lzM_at, if_neg (by omega), pk_un (by decide)]
      exact pk_us
    · obtain ⟨a1, a2, a3, a4⟩ := gB k hk
      simp only at a1 a2 a3 a4
      refine ⟨?_, ?_, ?_, ?_⟩
      · show lzM dr (upd (upd nw 0 0) 1 (nI dm)) 40 (0 + 2 + k) = eC k
        rw [lzM_at, if_pos (by omega), show 0 + 2 + k - 2 = k by omega, a1]
      · show lzM dr (upd (upd nw 0 0) 1 (nI dm)) 40 (0 + 12 + k) = eB k
        rw [lzM_at, if_pos (by omega), show 0 + 12 + k - 2 = 10 + k by omega, a2]
      · show lzM dr (upd (upd nw 0 0) 1 (nI dm)) 40 (0 + 22 + k) = fM (eF k)
        rw [lzM_at, if_pos (by omega), show 0 + 22 + k - 2 = 20 + k by omega, a3]
      · show lzM dr (upd (upd nw 0 0) 1 (nI dm)) 40 (0 + 32 + k) = eK k
        rw [lzM_at, if_pos (by omega), show 0 + 32 + k - 2 = 30 + k by omega, a4]
