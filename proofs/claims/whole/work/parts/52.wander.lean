/-! one who wanders -/
/-- the prices that the reference keeps are told by what is remembered -/
def wdR (nr nc : Nat) (v rem : Int64) (c : Nat → Int32) : Prop := ∀ y, y < nr * nc → c y = if gb rem y then 100000 else if gb v y then 1 else 2
theorem bsA_s (nr nc : Nat) (x : Int32) (n : Nat) : bsA nr nc x (n + 1) = bsA nr nc x n ||| (if bsd nr nc x (nI n) = -1 then 0 else bt (bsd nr nc x (nI n))) := by
  unfold bsA
  exact it_s _ _ _
theorem cwP_R {nr nc x : Nat} {v rem S : Int64} {c : Nat → Int32} (h1 : 2 ≤ nr ∧ nr ≤ 8) (h2 : 2 ≤ nc ∧ nc ≤ 8) (hx : x < nr * nc) (h : wdR nr nc v rem c) : ∀ k, k ≤ 4 → wdR nr nc v (rem ||| (S &&& bsA nr nc (nI x) k)) (cwP S nr nc x c k) := by
  have hcl := cells_le h1 h2
  intro k hk
  induction k with
  | zero =>
    intro y hy
    show c y = _
    rw [h y hy, gb_or, gb_and, show bsA nr nc (nI x) 0 = 0 from rfl, gb_0, Bool.and_false, Bool.or_false]
  | succ k ih =>
    have ih := ih (by omega)
    intro y hy
    rw [cwP_s, bsA_s]
    unfold cwO
    have iy := ih y hy
    rw [gb_or, gb_and] at iy ⊢
    rcases nbN_at h1 h2 hx (show k < 4 by omega) with ⟨e1, e2, _⟩ | ⟨j, hj, e1, e2, _⟩
    · rw [e1, e2, if_pos rfl, gb_or, gb_0, Bool.or_false]
      simp only [decide_true, Bool.not_true, Bool.false_and]
      rw [if_neg (by decide)]
      exact iy
    · have n4 : ¬ nI j = -4 := nI_ne4 (by omega)
      have n1 : ¬ nI j = -1 := nI_nm1 (by omega)
      rw [e1, e2, if_neg n1, gb_or, gb_bt (by omega), hsN_b _ (by omega), nI_clamp (by omega)]
      simp only [n4, decide_false, Bool.not_false, Bool.true_and]
      by_cases e : j = y
      · subst e
        cases hS : gb S j with
        | false =>
          rw [if_neg (by decide)]
          rw [hS] at iy
          simpa using iy
        | true =>
          rw [if_pos rfl, pk_us]
          simp
      · cases hS : gb S j with
        | false => rw [if_neg (by decide), iy]; simp [e]
        | true => rw [if_pos rfl, pk_un (fun z => e z.symm), iy]; simp [e]
theorem wd_saP {nr nc : Nat} {v rem : Int64} {c : Nat → Int32} (h1 : 2 ≤ nr ∧ nr ≤ 8) (h2 : 2 ≤ nc ∧ nc ≤ 8) (h : wdR nr nc v rem c) : saP nr nc (wdP v rem) c ∧ ∀ y, y < nr * nc → (wdP v rem y = 1000000 ↔ gb rem y = true) := by
  have hcl := cells_le h1 h2
  have hP : ∀ y, y < nr * nc → wdP v rem y = if gb rem y then 1000000 else if gb v y then 1 else 2 := fun y hy => by
    rw [wdP, prF, hs_b _ (by omega), hs_b _ (by omega), gb_and, gb_not rem (by omega)]
    cases gb rem y <;> cases gb v y <;> rfl
  refine ⟨fun y hy => ?_, fun y hy => ?_⟩
  · rw [hP y hy, h y hy]
    cases gb rem y with
    | true => exact Or.inl ⟨rfl, rfl⟩
    | false =>
      right
      cases gb v y with
      | true => exact ⟨1, by decide, rfl, rfl⟩
      | false => exact ⟨2, by decide, rfl, rfl⟩
  · rw [hP y hy]
    cases gb rem y <;> cases gb v y <;> decide
theorem nxA_s (P R : Nat → Int32) (nr nc : Nat) (x : Int32) (n : Nat) : nxA P R nr nc x (n + 1) = if (nxA P R nr nc x n).2 ≤ atF P (bsd nr nc x (nI n)) + atF R (bsd nr nc x (nI n)) then nxA P R nr nc x n else (bsd nr nc x (nI n), atF P (bsd nr nc x (nI n)) + atF R (bsd nr nc x (nI n))) := by
  unfold nxA
  exact it_s _ _ _
theorem i32_1e6t : (1000000 : Int32).toInt = 1000000 := by decide
/-- the first of the cheapest directions -/
theorem nxA_min (P R : Nat → Int32) (nr nc : Nat) (x : Int32) : ∀ k, (nxA P R nr nc x k = (-1, 1000000) ∧ ∀ d, d < k → 1000000 ≤ (atF P (bsd nr nc x (nI d)) + atF R (bsd nr nc x (nI d))).toInt) ∨ ∃ e, e < k ∧ nxA P R nr nc x k = (bsd nr nc x (nI e), atF P (bsd nr nc x (nI e)) + atF R (bsd nr nc x (nI e))) ∧ (atF P (bsd nr nc x (nI e)) + atF R (bsd nr nc x (nI e))).toInt < 1000000 ∧ (∀ d, d < k → (atF P (bsd nr nc x (nI e)) + atF R (bsd nr nc x (nI e))).toInt ≤ (atF P (bsd nr nc x (nI d)) + atF R (bsd nr nc x (nI d))).toInt) ∧ ∀ d, d < e → (atF P (bsd nr nc x (nI e)) + atF R (bsd nr nc x (nI e))).toInt < (atF P (bsd nr nc x (nI d)) + atF R (bsd nr nc x (nI d))).toInt
  | 0 => Or.inl ⟨rfl, fun d hd => absurd hd (Nat.not_lt_zero _)⟩
  | k + 1 => by
    rw [nxA_s]
    rcases nxA_min P R nr nc x k with ⟨e1, e2⟩ | ⟨e, he, e1, e2, e3, e4⟩
    · rw [e1]
      by_cases z : (1000000 : Int32) ≤ atF P (bsd nr nc x (nI k)) + atF R (bsd nr nc x (nI k))
      · left
        rw [if_pos z]
        rw [Int32.le_iff_toInt_le, i32_1e6t] at z
        refine ⟨rfl, fun d hd => ?_⟩
        by_cases q : d = k
        · subst q; exact z
        · exact e2 d (by omega)
      · right
        rw [if_neg z]
        rw [Int32.le_iff_toInt_le, i32_1e6t] at z
        refine ⟨k, by omega, rfl, by omega, fun d hd => ?_, fun d hd => ?_⟩
        · by_cases q : d = k
          · subst q; exact Int.le_refl _
          · have := e2 d (by omega); omega
        · have := e2 d (by omega); omega
    · rw [e1]
      right
      by_cases z : atF P (bsd nr nc x (nI e)) + atF R (bsd nr nc x (nI e)) ≤ atF P (bsd nr nc x (nI k)) + atF R (bsd nr nc x (nI k))
      · rw [if_pos z]
        rw [Int32.le_iff_toInt_le] at z
        refine ⟨e, by omega, rfl, e2, fun d hd => ?_, e4⟩
        by_cases q : d = k
        · subst q; exact z
        · exact e3 d (by omega)
      · rw [if_neg z]
        rw [Int32.le_iff_toInt_le] at z
        refine ⟨k, by omega, rfl, by omega, fun d hd => ?_, fun d hd => ?_⟩
        · by_cases q : d = k
          · subst q; exact Int.le_refl _
          · have := e3 d (by omega); omega
        · have := e3 d (by omega); omega
theorem toO_at {nr nc : Nat} {c : Nat → Int32} {b x e : Nat} (he : e < 4) (ht : toB c (fnX nr nc c b) x (bsM nr nc (nI x) (nI e)) = true) (hn : ∀ d, d < e → toB c (fnX nr nc c b) x (bsM nr nc (nI x) (nI d)) = false) : toO nr nc c b x 4 = bsM nr nc (nI x) (nI e) := by
  rw [toO_s, toO_s, toO_s, toO_s, show 3 - 3 = 0 from rfl, show 3 - 2 = 1 from rfl, show 3 - 1 = 2 from rfl, show 3 - 0 = 3 from rfl]
  rcases (show e = 0 ∨ e = 1 ∨ e = 2 ∨ e = 3 by omega) with rfl | rfl | rfl | rfl
  · rw [if_pos ht]
  · rw [hn 0 (by decide), if_neg (by decide), if_pos ht]
  · rw [hn 0 (by decide), if_neg (by decide), hn 1 (by decide), if_neg (by decide), if_pos ht]
  · rw [hn 0 (by decide), if_neg (by decide), hn 1 (by decide), if_neg (by decide), hn 2 (by decide), if_neg (by decide), if_pos ht]
/-- one direction, on both sides -/
theorem dir_same {nr nc b x d : Nat} {P c : Nat → Int32} (h1 : 2 ≤ nr ∧ nr ≤ 8) (h2 : 2 ≤ nc ∧ nc ≤ 8) (h : saP nr nc P c) (hb : b < nr * nc) (hbo : ¬ P b = 1000000) (hx : x < nr * nc) (hd : d < 4) :
    (1000000 ≤ (atF P (bsd nr nc (nI x) (nI d)) + atF (rst P nr nc (nI b)) (bsd nr nc (nI x) (nI d))).toInt ∧ (∀ j, j < nr * nc → bsM nr nc (nI x) (nI d) = nI j → c j = 100000 ∨ (1 ≤ (c j).toInt + 1 ∧ (c j).toInt ≤ 2 ∧ fnX nr nc c b j = 100000))) ∨
    ∃ j u, j < nr * nc ∧ u ≤ 8194 ∧ bsd nr nc (nI x) (nI d) = nI j ∧ bsM nr nc (nI x) (nI d) = nI j ∧ ¬ P j = 1000000 ∧ atF P (bsd nr nc (nI x) (nI d)) + atF (rst P nr nc (nI b)) (bsd nr nc (nI x) (nI d)) = nI u ∧ (c j).toInt < 100000 ∧ (fnX nr nc c b j).toInt < 100000 ∧ c j + fnX nr nc c b j = nI u := by
  have hcl := cells_le h1 h2
  rcases nbN_at h1 h2 hx hd with ⟨e1, e2, _⟩ | ⟨j, hj, e1, e2, _⟩
  · left
    refine ⟨by rw [e1, atF_m1, atF_m1]; decide, fun j hj e => ?_⟩
    rw [e2] at e
    exact absurd e.symm (nI_ne4 (by omega))
  · rw [e1, e2, atF_nI (by omega), atF_nI (by omega)]
    rcases h j hj with ⟨q1, q2⟩ | ⟨p, hp, q1, q2⟩
    · left
      rw [q1, rst_far h1 h2 (saP_ok h) hb hj q1]
      refine ⟨by decide, fun i hi e => Or.inl ?_⟩
      rw [← (nI_eq (by omega) (by omega)).mp e]
      exact q2
    · have hjo : ¬ P j = 1000000 := by rw [q1]; exact nI_n6 (by omega)
      rcases search_same h1 h2 h hb hbo hj hjo with ⟨r1, r2⟩ | ⟨v, hv, r1, r2⟩
      · left
        rw [q1, r1, ← i32_1e6, nI_add, nI_toInt (by omega)]
        refine ⟨by omega, fun i hi e => Or.inr ?_⟩
        rw [← (nI_eq (by omega) (by omega)).mp e, q2, nI_toInt (by omega)]
        exact ⟨by omega, by omega, r2⟩
      · right
        refine ⟨j, p + v, hj, by omega, rfl, rfl, hjo, by rw [q1, r1, nI_add], by rw [q2, nI_toInt (by omega)]; omega, by rw [r2, nI_toInt (by omega)]; omega, by rw [q2, r2, nI_add]⟩
/-- the next cell, on both sides -/
theorem next_same {nr nc b x : Nat} {P c : Nat → Int32} (h1 : 2 ≤ nr ∧ nr ≤ 8) (h2 : 2 ≤ nc ∧ nc ≤ 8) (h : saP nr nc P c) (hb : b < nr * nc) (hbo : ¬ P b = 1000000) (hx : x < nr * nc) (hxb : ¬ x = b) : ((nxA P (rst P nr nc (nI b)) nr nc (nI x) 4).1 = -1 ∧ ¬ fnX nr nc c b x < 100000) ∨ ∃ j d, j < nr * nc ∧ d < 4 ∧ bsd nr nc (nI x) (nI d) = nI j ∧ ¬ P j = 1000000 ∧ (nxA P (rst P nr nc (nI b)) nr nc (nI x) 4).1 = nI j ∧ fnX nr nc c b x < 100000 ∧ toO nr nc c b x 4 = nI j := by
  have hcl := cells_le h1 h2
  have hnn := saP_nn h
  obtain ⟨⟨w1, w2, w3⟩, w4⟩ := fnX_ok h1 h2 hnn hb
  have hdir := fun d (hd : d < 4) => dir_same h1 h2 h hb hbo hx hd
  -- every good direction bounds what is left from x
  have hbd : ∀ d, d < 4 → ∀ j u, j < nr * nc → u ≤ 8194 → bsM nr nc (nI x) (nI d) = nI j → (c j).toInt < 100000 → (fnX nr nc c b j).toInt < 100000 → c j + fnX nr nc c b j = nI u → (fnX nr nc c b x).toInt ≤ u := by
    intro d hd j u hj hu e m1 m2 m3
    have h4 := w4 x hx d hd
    rw [rxB, e, nI_clamp (by omega)] at h4
    have n4 : ¬ nI j = -4 := nI_ne4 (by omega)
    have n1 : ¬ 100000 ≤ c j := by rw [Int32.le_iff_toInt_le, i32_1e5]; omega
    have n2 : ¬ 100000 ≤ fnX nr nc c b j := by rw [Int32.le_iff_toInt_le, i32_1e5]; omega
    simp only [n4, n1, n2, decide_false, Bool.not_false, Bool.true_and, Bool.not_eq_false', decide_eq_true_eq] at h4
    rw [m3, Int32.le_iff_toInt_le, nI_toInt (by omega)] at h4
    exact h4
  rcases nxA_min P (rst P nr nc (nI b)) nr nc (nI x) 4 with ⟨e1, e2⟩ | ⟨e, he, e1, e2, e3, e4⟩
  · left
    refine ⟨by rw [e1], fun hl => ?_⟩
    obtain ⟨d, hd, j, hj, ej, m1, m2, m3⟩ := fnX_nb h1 h2 hnn hb hx hxb hl
    rw [Int32.lt_iff_toInt_lt, i32_1e5] at m1 m2
    rcases hdir d hd with ⟨_, q⟩ | ⟨j', u, hj', hu, _, _, _, q1, _⟩
    · rcases q j hj ej with r | ⟨_, _, r⟩
      · rw [r, i32_1e5] at m1; omega
      · rw [r, i32_1e5] at m2; omega
    · have := e2 d hd
      rw [q1, nI_toInt (by omega)] at this
      omega
  · right
    rcases hdir e he with ⟨q, _⟩ | ⟨j, u, hj, hu, q1, q2, q3, q4, q5, q6, q7⟩
    · omega
    · have hle := hbd e he j u hj hu q2 q5 q6 q7
      have hl : fnX nr nc c b x < 100000 := by
        rw [Int32.lt_iff_toInt_lt, i32_1e5]; omega
      have hTx := w1 x hx
      -- the least direction is what is left from x
      have hge : (u : Int) ≤ (fnX nr nc c b x).toInt := by
        obtain ⟨d, hd, i, hi, ei, m1, m2, m3⟩ := fnX_nb h1 h2 hnn hb hx hxb hl
        rw [Int32.lt_iff_toInt_lt, i32_1e5] at m1 m2
        rcases hdir d hd with ⟨_, q⟩ | ⟨j', u', hj', hu', p1, p2, _, p4, _, _, p7⟩
        · rcases q i hi ei with r | ⟨_, _, r⟩
          · rw [r, i32_1e5] at m1; omega
          · rw [r, i32_1e5] at m2; omega
        · have := e3 d hd
          rw [q4, p4, nI_toInt (by omega), nI_toInt (by omega)] at this
          have ei2 : i = j' := (nI_eq (by omega) (by omega)).mp (ei.symm.trans p2)
          rw [ei2, p7] at m3
          rw [← m3, nI_toInt (by omega)]
          omega
      have hTe : fnX nr nc c b x = nI u := i32_ext (by omega) (by omega)
      refine ⟨j, e, hj, he, q1, q3, by rw [e1]; exact q1, hl, ?_⟩
      rw [← q2]
      refine toO_at he ?_ (fun d hd => ?_)
      · have n4 : ¬ nI j = -4 := nI_ne4 (by omega)
        have n1 : ¬ 100000 ≤ c j := by rw [Int32.le_iff_toInt_le, i32_1e5]; omega
        rw [toB, q2, nI_clamp (by omega), q7, hTe]
        simp [n4, n1]
      · have hd4 : d < 4 := by omega
        rw [toB]
        rcases nbN_at h1 h2 hx hd4 with ⟨_, r2, _⟩ | ⟨i, hi, _, r2, _⟩
        · rw [r2]; simp
        · rw [r2, nI_clamp (by omega), hTe]
          have hl2 := e4 d hd
          rcases hdir d hd4 with ⟨_, q⟩ | ⟨j', u', hj', hu', p1, p2, _, p4, _, _, p7⟩
          · rcases q i hi r2 with r | ⟨z1, z2, r⟩
            · rw [r]; simp
            · have : ¬ c i + fnX nr nc c b i = nI u := fun z => by
                have z3 := congrArg Int32.toInt z
                rw [r, i32_add (hnn i hi) (by rw [i32_1e5]; omega), i32_1e5, nI_toInt (by omega)] at z3
                omega
              simp [this]
          · have ei2 : i = j' := (nI_eq (by omega) (by omega)).mp (r2.symm.trans p2)
            rw [q4, p4, nI_toInt (by omega), nI_toInt (by omega)] at hl2
            have : ¬ nI u' = nI u := fun z => by
              have := (nI_eq (by omega) (by omega)).mp z
              omega
            rw [ei2, p7]
            simp [this]
theorem wander_go {nr nc b : Nat} {v S : Int64} (h1 : 2 ≤ nr ∧ nr ≤ 8) (h2 : 2 ≤ nc ∧ nc ≤ 8) (hb : b < nr * nc) (hSb : gb S b = false) : ∀ (f k x : Nat) (rem : Int64) (c : Nat → Int32), x < nr * nc → (∀ y, y < nr * nc → gb rem y = true → gb S y = true) → wdR nr nc v rem c → wdL nr nc v S (nI b) f k rem (nI x) = wdM nr nc S b f k c x
  | 0, _, _, _, _, _, _, _ => rfl
  | f + 1, k, x, rem, c, hx, hr, hc => by
    have hcl := cells_le h1 h2
    rw [wdL, wdM]
    by_cases e : x = b
    · subst e; rw [if_pos rfl, if_pos rfl]
    · rw [if_neg (fun z => e ((nI_eq (by omega) (by omega)).mp z)), if_neg e]
      have hR := cwP_R (S := S) h1 h2 hx hc 4 (Nat.le_refl _)
      have hr2 : ∀ y, y < nr * nc → gb (rem ||| (S &&& bsA nr nc (nI x) 4)) y = true → gb S y = true := fun y hy hh => by
        rw [gb_or, gb_and, Bool.or_eq_true, Bool.and_eq_true] at hh
        rcases hh with q | q
        · exact hr y hy q
        · exact q.1
      generalize hrm : rem ||| (S &&& bsA nr nc (nI x) 4) = rem2 at *
      generalize hcm : cwP S nr nc x c 4 = c2 at *
      obtain ⟨sa, hcl2⟩ := wd_saP h1 h2 hR
      have hbo : ¬ wdP v rem2 b = 1000000 := fun z => by
        have := hr2 b hb ((hcl2 b hb).mp z)
        rw [hSb] at this
        exact absurd this (by decide)
      unfold nx0
      rcases next_same h1 h2 sa hb hbo hx e with ⟨q1, q2⟩ | ⟨j, d, hj, hd, q1, q2, q3, q4, q5⟩
      · rw [q1, if_pos rfl, if_neg q2]
      · rw [q3, if_neg (nI_nm1 (by omega)), if_pos q4, q5, nI_clamp (by omega)]
        exact wander_go h1 h2 hb hSb f (k + 1) j rem2 c2 hj hr2 hR
theorem wander_same {nr nc a b : Nat} {v S : Int64} {c : Nat → Int32} (h1 : 2 ≤ nr ∧ nr ≤ 8) (h2 : 2 ≤ nc ∧ nc ≤ 8) (ha : a < nr * nc) (hb : b < nr * nc) (hSb : gb S b = false) (hc : ∀ y, y < nr * nc → c y = cst v 1 2 y) : wdL nr nc v ((S ^^^ (-1)) ^^^ (-1)) (nI b) 201 0 0 (nI a) = wdM nr nc S b 201 0 c a := by
  have hcl := cells_le h1 h2
  have e : (S ^^^ (-1)) ^^^ (-1) = S := gb_ext (fun i hi => by rw [gb_not _ hi, gb_not _ hi, Bool.not_not])
  rw [e]
  refine wander_go h1 h2 hb hSb 201 0 a 0 c ha (fun y _ h => absurd h (by rw [gb_0]; decide)) (fun y hy => ?_)
  rw [hc y hy, cst, hsM_b _ (by omega), gb_0, if_neg (by decide : ¬ (false = true))]
