/-! friends: as many as the cheapest walk costs -/
section
variable {nr nc n : Nat} {C B F K : Nat → Int32} {y : Int32}
/-- the prices of a friend's walk: 0 for what is drawn, 1 for what would be -/
def prB (nr nc : Nat) (C B F K : Nat → Int32) (y : Int32) (n : Nat) : Nat → Int32 := prF (drC nr nc C F K y n) 0 (buC nr nc C B F K y n) 1
theorem prB_at (h1 : 2 ≤ nr ∧ nr ≤ 8) (h2 : 2 ≤ nc ∧ nc ≤ 8) {x : Nat} (hx : x < nr * nc) : prB nr nc C B F K y n x = if gb (drC nr nc C F K y n) x then 0 else if gb (buC nr nc C B F K y n) x then 1 else 1000000 := by
  have hcl := cells_le h1 h2
  rw [prB, prF, hs_b _ (by omega), hs_b _ (by omega)]
theorem prB_ok (h1 : 2 ≤ nr ∧ nr ≤ 8) (h2 : 2 ≤ nc ∧ nc ≤ 8) : okP nr nc (prB nr nc C B F K y n) := fun x hx => by
  rw [prB_at h1 h2 hx]
  cases gb (drC nr nc C F K y n) x with
  | true => exact Or.inr ⟨0, by decide, rfl⟩
  | false =>
    cases gb (buC nr nc C B F K y n) x with
    | true => exact Or.inr ⟨1, by decide, rfl⟩
    | false => exact Or.inl rfl
/-- a cell of a friend's walk: drawn at 0, or chosen at 1 -/
theorem prB_in (h1 : 2 ≤ nr ∧ nr ≤ 8) (h2 : 2 ≤ nc ∧ nc ≤ 8) (hv : VaM nr nc C B F K n) {st x : Nat} (hst : vSt B F K y n st) (hx : x < nr * nc) (hw : gb (wSt nr nc C F K y n st) x = true) : opP nr nc (prB nr nc C B F K y n) x = true ∧ (coP (prB nr nc C B F K y n) x = 0 ∨ (coP (prB nr nc C B F K y n) x = 1 ∧ ∃ k, k < n ∧ st.testBit k = true ∧ plN nr nc C K k = x)) := by
  have hp := prB_at (C := C) (B := B) (F := F) (K := K) (y := y) (n := n) h1 h2 hx
  rw [opP, coP, hp]
  obtain ⟨k, hk, ⟨q1, q2⟩, q3⟩ := (wSt_bit h1 h2 hv st x).mp hw
  cases hD : gb (drC nr nc C F K y n) x with
  | true =>
    rw [if_pos rfl]
    exact ⟨by simp [hx], Or.inl rfl⟩
  | false =>
    rw [if_neg (by decide)]
    have hb : st.testBit k = true := by
      rcases q1 with q | q
      · exact q
      · have := (dr_bit h1 h2 hv F y x).mpr ⟨k, hk, ⟨q, q2⟩, q3⟩
        rw [hD] at this
        exact absurd this (by decide)
    have hB := (bu_bit h1 h2 hv y x).mpr ⟨k, hk, ⟨hst k hk hb, q2⟩, q3⟩
    rw [hB, if_pos rfl]
    exact ⟨by simp [hx], Or.inr ⟨rfl, k, hk, hb, q3⟩⟩
/-- every level up to a cell's cost is that of a chosen thing -/
theorem levels (h1 : 2 ≤ nr ∧ nr ≤ 8) (h2 : 2 ≤ nc ∧ nc ≤ 8) (hv : VaM nr nc C B F K n) {st b : Nat} (hst : vSt B F K y n st) {R : Nat → Nat}
    (e2 : ∀ z, z < nr * nc → R z < 1000000 → opP nr nc (prB nr nc C B F K y n) z = true ∧ (∃ m, wa (nr * nc) (opP nr nc (prB nr nc C B F K y n)) (coP (prB nr nc C B F K y n)) (nbN nr nc) b m z (R z)) ∧ R z ≤ 8192)
    (e3 : ∀ z, z < nr * nc → opP nr nc (prB nr nc C B F K y n) z = true → ∀ m v, wa (nr * nc) (opP nr nc (prB nr nc C B F K y n)) (coP (prB nr nc C B F K y n)) (nbN nr nc) b m z v → R z ≤ v) :
    ∀ (m x v : Nat), x < nr * nc → gb (wSt nr nc C F K y n st) x = true → wlk nr nc (gb (wSt nr nc C F K y n st)) (fun _ => 0) b m x v → R x ≤ 8192 ∧ ∀ l, 1 ≤ l → l ≤ R x + coP (prB nr nc C B F K y n) x → ∃ k, k < n ∧ st.testBit k = true ∧ R (plN nr nc C K k) + coP (prB nr nc C B F K y n) (plN nr nc C K k) = l
  | 0, x, v, hx, hw, h => by
    obtain ⟨ho, hc⟩ := prB_in h1 h2 hv hst hx hw
    have hR := e3 x hx ho 0 0 ⟨h.1, rfl⟩
    refine ⟨by omega, fun l hl1 hl2 => ?_⟩
    rcases hc with q | ⟨q, k, hk, hb, ek⟩
    · omega
    · exact ⟨k, hk, hb, by rw [ek]; omega⟩
  | m + 1, x, v, hx, hw, h => by
    obtain ⟨z, hz, hn, hoz, u, hu, _⟩ := h
    obtain ⟨hRz, hl⟩ := levels h1 h2 hv hst e2 e3 m z u hz hoz hu
    obtain ⟨ho, hc⟩ := prB_in h1 h2 hv hst hx hw
    obtain ⟨hoz2, hcz⟩ := prB_in h1 h2 hv hst hz hoz
    obtain ⟨_, ⟨i, hi⟩, _⟩ := e2 z hz (by omega)
    have hR := e3 x hx ho (i + 1) (coP (prB nr nc C B F K y n) z + R z) ⟨z, hz, (nbN_nbr h1 h2 hx hz).mpr hn, hoz2, R z, hi, rfl⟩
    have hcz2 : coP (prB nr nc C B F K y n) z ≤ 1 := by
      rcases hcz with q | ⟨q, _⟩ <;> omega
    refine ⟨(e2 x hx (by omega)).2.2, fun l hl1 hl2 => ?_⟩
    rcases Nat.lt_or_ge (R z + coP (prB nr nc C B F K y n) z) l with q | q
    · rcases hc with q2 | ⟨q2, k, hk, hb, ek⟩
      · omega
      · exact ⟨k, hk, hb, by rw [ek]; omega⟩
    · exact hl l hl1 q
theorem levels_cnt {st m : Nat} {f : Nat → Nat} (h : ∀ l, 1 ≤ l → l ≤ m → ∃ k, k < n ∧ st.testBit k = true ∧ f k = l) : m ≤ cnt st.testBit n := by
  have hh : ∀ l, l ≤ m → l ≤ cnt (fun k => st.testBit k && decide (f k ≤ l)) n := by
    intro l
    induction l with
    | zero => intro _; exact Nat.zero_le _
    | succ l ih =>
      intro hl
      obtain ⟨k, hk, hb, ek⟩ := h (l + 1) (by omega) hl
      have := cnt_lt (p := fun k => st.testBit k && decide (f k ≤ l)) (r := fun k => st.testBit k && decide (f k ≤ l + 1)) (n := n) (k := k) (fun i _ hi => by
        simp only [Bool.and_eq_true, decide_eq_true_eq] at hi ⊢
        exact ⟨hi.1, by omega⟩) hk (by simp [ek]) (by simp [ek, hb])
      have := ih (by omega)
      omega
  exact Nat.le_trans (hh m (Nat.le_refl _)) (cnt_mono (fun k _ hk => by
    rw [Bool.and_eq_true] at hk
    exact hk.1))
/-- one thing more, for one cell more -/
theorem choose1 (h1 : 2 ≤ nr ∧ nr ≤ 8) (h2 : 2 ≤ nc ∧ nc ≤ 8) (hv : VaM nr nc C B F K n) {st x : Nat} (hs : st < 2 ^ n) (hst : vSt B F K y n st) (hx : x < nr * nc) (ho : opP nr nc (prB nr nc C B F K y n) x = true) : ∃ st', st' < 2 ^ n ∧ vSt B F K y n st' ∧ cnt st'.testBit n ≤ cnt st.testBit n + coP (prB nr nc C B F K y n) x ∧ gb (wSt nr nc C F K y n st') x = true ∧ (∀ z, gb (wSt nr nc C F K y n st) z = true → gb (wSt nr nc C F K y n st') z = true) := by
  have hp := prB_at (C := C) (B := B) (F := F) (K := K) (y := y) (n := n) h1 h2 hx
  cases hD : gb (drC nr nc C F K y n) x with
  | true =>
    obtain ⟨k, hk, ⟨q1, q2⟩, q3⟩ := (dr_bit h1 h2 hv F y x).mp hD
    exact ⟨st, hs, hst, by omega, (wSt_bit h1 h2 hv st x).mpr ⟨k, hk, ⟨Or.inr q1, q2⟩, q3⟩, fun _ h => h⟩
  | false =>
    rw [hD, if_neg (by decide)] at hp
    cases hB : gb (buC nr nc C B F K y n) x with
    | false =>
      rw [hB, if_neg (by decide)] at hp
      rw [opP, hp] at ho
      simp at ho
    | true =>
      rw [hB, if_pos rfl] at hp
      have hc : coP (prB nr nc C B F K y n) x = 1 := by rw [coP, hp]; rfl
      obtain ⟨k, hk, ⟨q1, q2⟩, q3⟩ := (bu_bit h1 h2 hv y x).mp hB
      have hbit : ∀ i, (st ||| 2 ^ k).testBit i = (st.testBit i || decide (k = i)) := fun i => by
        rw [Nat.testBit_or, Nat.testBit_two_pow]
      refine ⟨st ||| 2 ^ k, Nat.or_lt_two_pow hs (Nat.pow_lt_pow_right (by decide) hk), fun i hi hb => ?_, ?_, ?_, fun z hz => ?_⟩
      · rw [hbit, Bool.or_eq_true, decide_eq_true_eq] at hb
        rcases hb with q | q
        · exact hst i hi q
        · rw [← q]; exact q1
      · have := cnt_on1 (p := st.testBit) (r := (st ||| 2 ^ k).testBit) (k := k) n (fun i _ hi => by rw [hbit, show decide (k = i) = false from decide_eq_false (fun z => hi z.symm), Bool.or_false])
        rw [if_pos hk] at this
        omega
      · exact (wSt_bit h1 h2 hv _ x).mpr ⟨k, hk, ⟨Or.inl (by rw [hbit]; simp), q2⟩, q3⟩
      · obtain ⟨i, hi, ⟨r1, r2⟩, r3⟩ := (wSt_bit h1 h2 hv st z).mp hz
        refine (wSt_bit h1 h2 hv _ z).mpr ⟨i, hi, ⟨?_, r2⟩, r3⟩
        rcases r1 with r | r
        · exact Or.inl (by rw [hbit, r]; rfl)
        · exact Or.inr r
theorem choose (h1 : 2 ≤ nr ∧ nr ≤ 8) (h2 : 2 ≤ nc ∧ nc ≤ 8) (hv : VaM nr nc C B F K n) {b : Nat} : ∀ (m x v : Nat), x < nr * nc → opP nr nc (prB nr nc C B F K y n) x = true → wlk nr nc (opP nr nc (prB nr nc C B F K y n)) (coP (prB nr nc C B F K y n)) b m x v → ∃ st, st < 2 ^ n ∧ vSt B F K y n st ∧ cnt st.testBit n ≤ v + coP (prB nr nc C B F K y n) x ∧ gb (wSt nr nc C F K y n st) x = true ∧ gb (wSt nr nc C F K y n st) b = true ∧ ∃ u, wlk nr nc (gb (wSt nr nc C F K y n st)) (fun _ => 0) b m x u
  | 0, x, v, hx, ho, h => by
    obtain ⟨rfl, rfl⟩ := h
    obtain ⟨st, s1, s2, s3, s4, _⟩ := choose1 (st := 0) h1 h2 hv (Nat.two_pow_pos n) (fun k _ hk => by rw [Nat.zero_testBit] at hk; exact absurd hk (by decide)) hx ho
    have : cnt (Nat.testBit 0) n = 0 := cnt_more n (Nat.zero_le _) (fun k _ _ => Nat.zero_testBit k)
    exact ⟨st, s1, s2, by omega, s4, s4, 0, rfl, rfl⟩
  | m + 1, x, v, hx, ho, h => by
    obtain ⟨z, hz, hn, hoz, u, hu, rfl⟩ := h
    obtain ⟨st, s1, s2, s3, s4, s5, u', hu'⟩ := choose h1 h2 hv m z u hz hoz hu
    obtain ⟨st', t1, t2, t3, t4, t5⟩ := choose1 h1 h2 hv s1 s2 hx ho
    obtain ⟨u2, hu2⟩ := wlk_cost (op' := gb (wSt nr nc C F K y n st')) (c' := fun _ => 0) (fun i _ hi => t5 i hi) m z u' hu'
    exact ⟨st', t1, t2, by omega, t4, t5 b s5, 0 + u2, z, hz, hn, t5 z s4, u2, hu2, rfl⟩
/-- who has chosen enough -/
def okSt (nr nc : Nat) (C B F K : Nat → Int32) (y : Int32) (n a b st : Nat) : Prop := vSt B F K y n st ∧ ¬ stX nr nc (wSt nr nc C F K y n st) a b = -4
theorem friend_min (h1 : 2 ≤ nr ∧ nr ≤ 8) (h2 : 2 ≤ nc ∧ nc ≤ 8) (hv : VaM nr nc C B F K n) {a b : Nat} (ha : a < nr * nc) (hb : b < nr * nc) : (plR (drC nr nc C F K y n) (buC nr nc C B F K y n) nr nc (nI a) (nI b) = -4 ∧ ∀ st, ¬ okSt nr nc C B F K y n a b st) ∨ ∃ m, plR (drC nr nc C F K y n) (buC nr nc C B F K y n) nr nc (nI a) (nI b) = nI m ∧ (∃ st, st < 2 ^ n ∧ okSt nr nc C B F K y n a b st ∧ cnt st.testBit n ≤ m) ∧ ∀ st, okSt nr nc C B F K y n a b st → m ≤ cnt st.testBit n := by
  have hcl := cells_le h1 h2
  have hok := prB_ok (C := C) (B := B) (F := F) (K := K) (y := y) (n := n) h1 h2
  have hpl : plR (drC nr nc C F K y n) (buC nr nc C B F K y n) nr nc (nI a) (nI b) = orN (rst (prB nr nc C B F K y n) nr nc (nI b) a + prB nr nc C B F K y n a) := by
    rw [plR, atF_nI (by omega), atF_nI (by omega)]
    rfl
  -- where it is far, it is -4
  have hfar : rst (prB nr nc C B F K y n) nr nc (nI b) a = 1000000 → plR (drC nr nc C F K y n) (buC nr nc C B F K y n) nr nc (nI a) (nI b) = -4 := fun e => by
    rw [hpl, e]
    rcases hok a ha with q | ⟨p, hp, q⟩
    · rw [q]; decide
    · rw [q, ← i32_1e6, nI_add, orN, if_pos]
      exact nI_le (a := 1000000) (by omega) (by omega)
  by_cases hbo : prB nr nc C B F K y n b = 1000000
  · left
    refine ⟨hfar (rst_shut (by omega) hbo a (by omega)), fun st hst => ?_⟩
    obtain ⟨s1, s2⟩ := hst
    obtain ⟨_, g2, _⟩ := (st_iff h1 h2 _ ha hb).mp s2
    have := (prB_in h1 h2 hv s1 hb g2).1
    rw [opP, hbo] at this
    simp at this
  · obtain ⟨R, e1, e2, e3, e4⟩ := rst_end h1 h2 hok hb hbo
    have hlow : ∀ st, okSt nr nc C B F K y n a b st → R a ≤ 8192 ∧ R a + coP (prB nr nc C B F K y n) a ≤ cnt st.testBit n := fun st hst => by
      obtain ⟨s1, s2⟩ := hst
      obtain ⟨g1, g2, m, v, hw⟩ := (st_iff h1 h2 _ ha hb).mp s2
      obtain ⟨l1, l2⟩ := levels h1 h2 hv s1 e2 e3 m a v ha g1 hw
      exact ⟨l1, levels_cnt l2⟩
    rcases Nat.lt_or_ge (R a) 1000000 with q | q
    · right
      obtain ⟨ho, ⟨m, hm⟩, hR⟩ := e2 a ha q
      obtain ⟨pc1, pc2⟩ := coP_at hok ho
      obtain ⟨st, s1, s2, s3, s4, s5, u, hu⟩ := choose h1 h2 hv m a (R a) ha ho ((wa_wlk (op' := opP nr nc (prB nr nc C B F K y n)) (c' := coP (prB nr nc C B F K y n)) h1 h2 (fun _ _ => rfl) (fun _ _ _ => rfl) m a _ ha).mp hm)
      refine ⟨R a + coP (prB nr nc C B F K y n) a, ?_, ⟨st, s1, ⟨s2, (st_iff h1 h2 _ ha hb).mpr ⟨s4, s5, m, u, hu⟩⟩, s3⟩, fun st' h' => (hlow st' h').2⟩
      rw [hpl, e1 a (by omega), pc1, nI_add, orN_nI (by omega)]
    · left
      have hR : R a = 1000000 := by have := e4 a; omega
      refine ⟨hfar (by rw [e1 a (by omega), hR]; rfl), fun st hst => ?_⟩
      have := (hlow st hst).1
      omega
end
