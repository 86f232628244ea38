/-! friends: bits of a choice; what is drawn when a choice has fallen -/
theorem bit_all : ∀ st, st < 1024 → ∀ t, t < 10 → ((nI st >>> (nI t &&& 31)) &&& 1) = if st.testBit t then 1 else 0 := by decide +kernel
theorem hbi_t {st t : Nat} (hs : st < 1024) (ht : t < 10) : hbi st t = st.testBit t := by
  rw [hbi, bit_all st hs t ht]
  cases st.testBit t <;> decide
theorem miM_c {st : Nat} (hs : st < 1024) : ∀ n, n ≤ 10 → miM (nI st) n = nI (cnt st.testBit n)
  | 0, _ => rfl
  | n + 1, h => by
    have e : miM (nI st) (n + 1) = miM (nI st) n + (nI st >>> (nI n &&& 31) &&& 1) := by
      unfold miM
      exact it_s _ _ _
    rw [e, miM_c hs n (by omega), bit_all st hs n (by omega), cnt_s]
    cases st.testBit n with
    | true => exact nI_1 _
    | false => exact Int32.add_zero _
theorem cnt_more {p : Nat → Bool} {n : Nat} : ∀ m, n ≤ m → (∀ k, n ≤ k → k < m → p k = false) → cnt p m = cnt p n
  | 0, h, _ => by rw [show n = 0 by omega]
  | m + 1, h, hp => by
    by_cases e : n = m + 1
    · rw [e]
    · rw [cnt_s, hp m (by omega) (by omega), cnt_more m (by omega) (fun k h1 h2 => hp k h1 (by omega))]
      rfl
theorem cnt_on1 {p r : Nat → Bool} {k : Nat} : ∀ n, (∀ i, i < n → ¬ i = k → r i = p i) → cnt r n ≤ cnt p n + (if k < n then 1 else 0)
  | 0, _ => Nat.zero_le _
  | n + 1, h => by
    have ih := cnt_on1 (k := k) n (fun i hi => h i (by omega))
    rw [cnt_s, cnt_s]
    by_cases e : n = k
    · subst e
      rw [if_neg (Nat.lt_irrefl n)] at ih
      rw [if_pos (show n < n + 1 by omega)]
      cases r n <;> cases p n <;> simp <;> omega
    · rw [h n (by omega) e]
      by_cases q : k < n
      · rw [if_pos q] at ih; rw [if_pos (show k < n + 1 by omega)]; omega
      · rw [if_neg q] at ih; rw [if_neg (show ¬ k < n + 1 by omega)]; omega
theorem gb_itn {p : Nat → Bool} {c : Nat → Nat} {f : Nat → Int32} : ∀ {n : Nat}, (∀ k, k < n → c k < 64 ∧ f k = nI (c k)) → ∀ i, (gb (it (fun k a => if p k then a ||| bt (f k) else a) 0 n) i = true ↔ ∃ k, k < n ∧ p k = true ∧ c k = i)
  | 0, _, i => by
    rw [it_0, gb_0]
    constructor
    · intro h; exact absurd h (by decide)
    · rintro ⟨k, hk, _⟩; omega
  | n + 1, hc, i => by
    have ih := gb_itn (p := p) (c := c) (f := f) (n := n) (fun k hk => hc k (by omega)) i
    obtain ⟨hn, en⟩ := hc n (by omega)
    rw [it_s]
    cases hp : p n with
    | false =>
      rw [if_neg (by decide), ih]
      constructor
      · rintro ⟨k, hk, h1, h2⟩; exact ⟨k, by omega, h1, h2⟩
      · rintro ⟨k, hk, h1, h2⟩
        by_cases e : k = n
        · subst e; rw [hp] at h1; exact absurd h1 (by decide)
        · exact ⟨k, by omega, h1, h2⟩
    | true =>
      rw [if_pos rfl, gb_or, Bool.or_eq_true, ih, en, gb_bt hn, decide_eq_true_eq]
      constructor
      · rintro (⟨k, hk, h1, h2⟩ | h)
        · exact ⟨k, by omega, h1, h2⟩
        · exact ⟨n, by omega, hp, h⟩
      · rintro ⟨k, hk, h1, h2⟩
        by_cases e : k = n
        · subst e; exact Or.inr h2
        · exact Or.inl ⟨k, by omega, h1, h2⟩
section
variable {nr nc n : Nat} {C B F K : Nat → Int32} {y : Int32}
/-- where a thing is drawn -/
def plN (nr nc : Nat) (C K : Nat → Int32) (k : Nat) : Nat := ix (plB nr nc C K k)
theorem plN_at (h1 : 2 ≤ nr ∧ nr ≤ 8) (h2 : 2 ≤ nc ∧ nc ≤ 8) (hv : VaM nr nc C B F K n) {k : Nat} (hk : k < n) : plN nr nc C K k < nr * nc ∧ plB nr nc C K k = nI (plN nr nc C K k) := by
  have hcl := cells_le h1 h2
  obtain ⟨c, hc, ec⟩ := hv.1 k hk
  have hex : ∃ j, j < nr * nc ∧ plB nr nc C K k = nI j := by
    unfold plB
    by_cases e : K k = 2
    · rw [if_pos e, ec]
      rcases shf_val h1 h2 (nI c) 0 1 with ⟨q, _⟩ | ⟨j, hj, q, _⟩
      · rw [if_pos q]; exact ⟨c, hc, rfl⟩
      · rw [q, if_neg (nI_nm1 (by omega))]; exact ⟨j, hj, rfl⟩
    · rw [if_neg e]; exact ⟨c, hc, ec⟩
  obtain ⟨j, hj, ej⟩ := hex
  have : plN nr nc C K k = j := by rw [plN, ej, ixx (by omega)]
  rw [this]
  exact ⟨hj, ej⟩
theorem dr_bit (h1 : 2 ≤ nr ∧ nr ≤ 8) (h2 : 2 ≤ nc ∧ nc ≤ 8) (hv : VaM nr nc C B F K n) (F2 : Nat → Int32) (w : Int32) (i : Nat) : gb (drC nr nc C F2 K w n) i = true ↔ ∃ k, k < n ∧ (loB F2 w k = true ∧ ¬ K k = 3) ∧ plN nr nc C K k = i := by
  have hcl := cells_le h1 h2
  unfold drC
  rw [gb_itn (c := plN nr nc C K) (fun k hk => by
    obtain ⟨q1, q2⟩ := plN_at h1 h2 hv hk
    exact ⟨by omega, q2⟩) i]
  simp
theorem bu_bit (h1 : 2 ≤ nr ∧ nr ≤ 8) (h2 : 2 ≤ nc ∧ nc ≤ 8) (hv : VaM nr nc C B F K n) (w : Int32) (i : Nat) : gb (buC nr nc C B F K w n) i = true ↔ ∃ k, k < n ∧ (cbB B F K w k = true ∧ ¬ K k = 3) ∧ plN nr nc C K k = i := by
  have hcl := cells_le h1 h2
  unfold buC
  rw [gb_itn (c := plN nr nc C K) (fun k hk => by
    obtain ⟨q1, q2⟩ := plN_at h1 h2 hv hk
    exact ⟨by omega, q2⟩) i]
  simp
/-- the falls when a choice has fallen -/
def fSt (F : Nat → Int32) (y : Int32) (st : Nat) : Nat → Int32 := fun k => if st.testBit k then y else F k
theorem loB_st (k st : Nat) : loB (fSt F y st) y k = (st.testBit k || loB F y k) := by
  unfold loB fSt
  cases st.testBit k with
  | true => rw [if_pos rfl]; simp
  | false => rw [if_neg (by decide)]; simp
def wSt (nr nc : Nat) (C F K : Nat → Int32) (y : Int32) (n st : Nat) : Int64 := drC nr nc C (fSt F y st) K y n
theorem wSt_bit (h1 : 2 ≤ nr ∧ nr ≤ 8) (h2 : 2 ≤ nc ∧ nc ≤ 8) (hv : VaM nr nc C B F K n) (st i : Nat) : gb (wSt nr nc C F K y n st) i = true ↔ ∃ k, k < n ∧ ((st.testBit k = true ∨ loB F y k = true) ∧ ¬ K k = 3) ∧ plN nr nc C K k = i := by
  unfold wSt
  rw [dr_bit h1 h2 hv]
  constructor
  · rintro ⟨k, hk, ⟨q1, q2⟩, q3⟩
    rw [loB_st, Bool.or_eq_true] at q1
    exact ⟨k, hk, ⟨q1, q2⟩, q3⟩
  · rintro ⟨k, hk, ⟨q1, q2⟩, q3⟩
    exact ⟨k, hk, ⟨by rw [loB_st, Bool.or_eq_true]; exact q1, q2⟩, q3⟩
/-- all that is chosen can burn -/
def vSt (B F K : Nat → Int32) (y : Int32) (n st : Nat) : Prop := ∀ k, k < n → st.testBit k = true → cbB B F K y k = true
end
/-! walks without their costs -/
theorem wlk_cost {nr nc b : Nat} {op op' : Nat → Bool} {c c' : Nat → Nat} (ho : ∀ z, z < nr * nc → op z = true → op' z = true) : ∀ (n x v : Nat), wlk nr nc op c b n x v → ∃ u, wlk nr nc op' c' b n x u
  | 0, x, v, h => ⟨0, h.1, rfl⟩
  | n + 1, x, v, h => by
    obtain ⟨z, hz, hn, hoz, u, hu, _⟩ := h
    obtain ⟨u', hu'⟩ := wlk_cost (c' := c') ho n z u hu
    exact ⟨c' z + u', z, hz, hn, ho z hz hoz, u', hu', rfl⟩
/-- who has a walk is reached -/
theorem rst_walk {nr nc b : Nat} {Pr : Nat → Int32} (h1 : 2 ≤ nr ∧ nr ≤ 8) (h2 : 2 ≤ nc ∧ nc ≤ 8) {R : Nat → Nat} (hb : opP nr nc Pr b = true) (e2 : ∀ z, z < nr * nc → R z < 1000000 → opP nr nc Pr z = true ∧ (∃ n, wa (nr * nc) (opP nr nc Pr) (coP Pr) (nbN nr nc) b n z (R z)) ∧ R z ≤ 8192) (e3 : ∀ z, z < nr * nc → opP nr nc Pr z = true → ∀ n v, wa (nr * nc) (opP nr nc Pr) (coP Pr) (nbN nr nc) b n z v → R z ≤ v) (hp : okP nr nc Pr) : ∀ (n x v : Nat), x < nr * nc → opP nr nc Pr x = true → wa (nr * nc) (opP nr nc Pr) (coP Pr) (nbN nr nc) b n x v → R x ≤ 8192
  | 0, x, v, hx, ho, h => by
    have := e3 x hx ho 0 v h
    obtain ⟨_, q⟩ := h
    omega
  | n + 1, x, v, hx, ho, h => by
    obtain ⟨z, hz, hn, hoz, u, hu, _⟩ := h
    have hR := rst_walk h1 h2 hb e2 e3 hp n z u hz hoz hu
    obtain ⟨_, ⟨m, hm⟩, _⟩ := e2 z hz (by omega)
    have hc := (coP_at hp hoz).2
    have := e3 x hx ho (m + 1) (coP Pr z + R z) ⟨z, hz, hn, hoz, R z, hm, rfl⟩
    exact (e2 x hx (by omega)).2.2
/-- a way through a set is there if there is a walk -/
theorem st_iff {nr nc a b : Nat} (h1 : 2 ≤ nr ∧ nr ≤ 8) (h2 : 2 ≤ nc ∧ nc ≤ 8) (w : Int64) (ha : a < nr * nc) (hb : b < nr * nc) : ¬ stX nr nc w a b = -4 ↔ gb w a = true ∧ gb w b = true ∧ ∃ n v, wlk nr nc (gb w) (fun _ => 0) b n a v := by
  have hcl := cells_le h1 h2
  have hP : ∀ x, x < nr * nc → prF w 1 0 0 x = if gb w x then 1 else 1000000 := fun x hx => by
    rw [prF, hs_b _ (by omega), hs_b _ (by omega), gb_0, if_neg (by decide : ¬ (false = true))]
  have hok : okP nr nc (prF w 1 0 0) := fun x hx => by
    rw [hP x hx]
    cases gb w x with
    | true => exact Or.inr ⟨1, by decide, rfl⟩
    | false => exact Or.inl rfl
  have hop : ∀ x, x < nr * nc → opP nr nc (prF w 1 0 0) x = gb w x := fun x hx => by
    rw [opP, hP x hx]
    cases gb w x <;> simp [hx]
  constructor
  · intro h
    have hg : gb w a = true ∧ gb w b = true := by
      rw [stX, hsM_b _ (by omega), hsM_b _ (by omega)] at h
      cases q1 : gb w a <;> cases q2 : gb w b <;> rw [q1, q2] at h <;> first | exact ⟨rfl, rfl⟩ | exact absurd rfl h
    refine ⟨hg.1, hg.2, ?_⟩
    obtain ⟨R, e1, e2, e3, e4⟩ := rst_end h1 h2 hok hb (by rw [hP b hb, hg.2]; decide)
    rcases sp_same h1 h2 w ha hb with ⟨_, q⟩ | ⟨v, hv, q, _⟩
    · exact absurd q h
    · rw [spX, atF_nI (by omega), e1 a (by omega)] at q
      have hR : R a = v := (nI_eq (by have := e4 a; omega) (by omega)).mp q
      obtain ⟨_, ⟨m, hm⟩, _⟩ := e2 a ha (by omega)
      obtain ⟨u, hu⟩ := wlk_cost (op' := gb w) (c' := fun _ => 0) (fun z hz hz2 => by rw [← hop z hz]; exact hz2) m a _ ((wa_wlk (op' := opP nr nc (prF w 1 0 0)) (c' := coP (prF w 1 0 0)) h1 h2 (fun _ _ => rfl) (fun _ _ _ => rfl) m a _ ha).mp hm)
      exact ⟨m, u, hu⟩
  · rintro ⟨ga, gb', m, v, hw⟩ h
    obtain ⟨R, e1, e2, e3, e4⟩ := rst_end h1 h2 hok hb (by rw [hP b hb, gb']; decide)
    obtain ⟨u, hu⟩ := wlk_cost (op' := opP nr nc (prF w 1 0 0)) (c' := coP (prF w 1 0 0)) (fun z hz hz2 => by rw [hop z hz]; exact hz2) m a v hw
    have hR := rst_walk h1 h2 (by rw [hop b hb]; exact gb') e2 e3 hok m a u ha (by rw [hop a ha]; exact ga) ((wa_wlk (op' := opP nr nc (prF w 1 0 0)) (c' := coP (prF w 1 0 0)) h1 h2 (fun _ _ => rfl) (fun _ _ _ => rfl) m a u ha).mpr hu)
    rcases sp_same h1 h2 w ha hb with ⟨q, _⟩ | ⟨v, hv, _, q⟩
    · rw [spX, atF_nI (by omega), e1 a (by omega)] at q
      have := (nI_eq (a := R a) (b := 1000000) (by omega) (by decide)).mp q
      omega
    · rw [h] at q
      exact absurd q.symm (nI_ne4 (by omega))
