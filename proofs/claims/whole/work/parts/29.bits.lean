/-! sets of cells by their bits -/
/-- the bit of a place -/
def gb (w : Int64) (i : Nat) : Bool := w.toBitVec.getLsbD i
theorem gb_ext {v w : Int64} (h : ∀ i, i < 64 → gb v i = gb w i) : v = w :=
  Int64.toBitVec_inj.mp (BitVec.eq_of_getLsbD_eq (fun i hi => h i hi))
theorem gb_big {w : Int64} {i : Nat} (h : 64 ≤ i) : gb w i = false := BitVec.getLsbD_of_ge _ _ h
theorem gb_0 (i : Nat) : gb 0 i = false := BitVec.getLsbD_zero
theorem gb_or (v w : Int64) (i : Nat) : gb (v ||| w) i = (gb v i || gb w i) := by
  unfold gb; rw [Int64.toBitVec_or, BitVec.getLsbD_or]
theorem gb_and (v w : Int64) (i : Nat) : gb (v &&& w) i = (gb v i && gb w i) := by
  unfold gb; rw [Int64.toBitVec_and, BitVec.getLsbD_and]
theorem gb_xor (v w : Int64) (i : Nat) : gb (v ^^^ w) i = (gb v i ^^ gb w i) := by
  unfold gb; rw [Int64.toBitVec_xor, BitVec.getLsbD_xor]
theorem gb_m1 : ∀ i, i < 64 → gb (-1) i = true := by decide +kernel
theorem gb_not (v : Int64) {i : Nat} (h : i < 64) : gb (v ^^^ (-1)) i = !gb v i := by
  rw [gb_xor, gb_m1 i h]; cases gb v i <;> rfl
theorem bt_bv : ∀ k, k < 64 → (bt (nI k)).toBitVec = BitVec.twoPow 64 k := by decide +kernel
theorem gb_bt {k : Nat} (hk : k < 64) (i : Nat) : gb (bt (nI k)) i = decide (k = i) := by
  unfold gb
  rw [bt_bv k hk, BitVec.getLsbD_twoPow]
  simp [hk]
theorem gb_1 (i : Nat) : gb 1 i = decide (0 = i) := by
  have h := gb_bt (k := 0) (by decide) i
  rwa [show bt (nI 0) = 1 by decide +kernel] at h
theorem hs_b (w : Int64) {k : Nat} (hk : k < 64) : hs w (nI k) = gb w k := by
  unfold hs
  cases h : gb w k with
  | true =>
    have : ¬ w &&& bt (nI k) = 0 := fun z => by
      have e := congrArg (fun v => gb v k) z
      simp only [gb_and, gb_bt hk, h, gb_0] at e
      simp at e
    simp [this]
  | false =>
    have : w &&& bt (nI k) = 0 := gb_ext (fun i _ => by
      rw [gb_and, gb_bt hk, gb_0]
      by_cases e : k = i
      · subst e; rw [h]; rfl
      · simp [e])
    simp [this]
theorem sh_all : ∀ k, k < 64 → ((((nI k).toInt64 &&& 63) : Int64).toBitVec.smod 64).toNat = k := by decide +kernel
theorem gb_shr (w : Int64) {k : Nat} (hk : k < 64) : gb (w >>> ((nI k).toInt64 &&& 63)) 0 = gb w k := by
  unfold gb
  rw [Int64.toBitVec_shiftRight, BitVec.sshiftRight', sh_all k hk, BitVec.getLsbD_sshiftRight]
  simp [hk]
theorem hsM_b (w : Int64) {k : Nat} (hk : k < 64) : hsM w k = gb w k := by
  rw [← gb_shr w hk, hsM]
  rcases and1 (w >>> ((nI k).toInt64 &&& 63)) with z | z
  · have e := congrArg (fun v => gb v 0) z
    simp only [gb_and, gb_1, gb_0, decide_true, Bool.and_true] at e
    rw [z, e]; rfl
  · have e := congrArg (fun v => gb v 0) z
    simp only [gb_and, gb_1, decide_true, Bool.and_true] at e
    rw [z, e]; rfl
theorem hsN_b (w : Int64) {k : Nat} (hk : k < 64) : hsN w (nI k) = gb w k := hsM_b w hk
theorem bi1_b (w : Int64) {k : Nat} (hk : k < 64) : bi1 w k = if gb w k then 1 else 0 := by
  rw [← hsM_b w hk, bi1, hsM]
  rcases and1 (w >>> ((nI k).toInt64 &&& 63)) with z | z <;> rw [z] <;> decide
theorem ssM_b (w : Int64) {k : Nat} (hk : k < 64) : ssM w (nI k) = if gb w k then 1 else 0 := bi1_b w hk
/-- a set gathered from the cells of things -/
theorem gb_it (p : Nat → Bool) (c : Nat → Nat) (hc : ∀ k, c k < 64) (n i : Nat) : gb (it (fun k a => a ||| (if p k then bt (nI (c k)) else 0)) 0 n) i = true ↔ ∃ k, k < n ∧ p k = true ∧ c k = i := by
  induction n with
  | zero =>
    rw [it_0, gb_0]
    constructor
    · intro h; exact absurd h (by decide)
    · rintro ⟨k, hk, _⟩; omega
  | succ n ih =>
    rw [it_s, gb_or, Bool.or_eq_true, ih]
    constructor
    · rintro (⟨k, hk, h1, h2⟩ | h)
      · exact ⟨k, by omega, h1, h2⟩
      · cases hp : p n with
        | false => rw [hp] at h; rw [if_neg (by decide), gb_0] at h; exact absurd h (by decide)
        | true =>
          rw [hp, if_pos rfl, gb_bt (hc n)] at h
          exact ⟨n, by omega, hp, of_decide_eq_true h⟩
    · rintro ⟨k, hk, h1, h2⟩
      by_cases e : k = n
      · subst e
        right
        rw [h1, if_pos rfl, gb_bt (hc k), h2]
        simp
      · exact Or.inl ⟨k, by omega, h1, h2⟩
/-- how many of the first n places hold -/
def cnt (p : Nat → Bool) (n : Nat) : Nat := it (fun k a => a + (if p k then 1 else 0)) 0 n
theorem cnt_s (p : Nat → Bool) (n : Nat) : cnt p (n + 1) = cnt p n + (if p n then 1 else 0) := by
  unfold cnt
  exact it_s _ _ _
theorem cnt_le (p : Nat → Bool) (n : Nat) : cnt p n ≤ n := by
  induction n with
  | zero => exact Nat.le_refl _
  | succ n ih => rw [cnt_s]; split <;> omega
theorem cnt_cong {p r : Nat → Bool} {n : Nat} (h : ∀ k, k < n → p k = r k) : cnt p n = cnt r n := by
  induction n with
  | zero => rfl
  | succ n ih => rw [cnt_s, cnt_s, ih (fun k hk => h k (by omega)), h n (by omega)]
theorem mnM_c (w : Int64) {n : Nat} (hn : n ≤ 64) : mnM w n = nI (cnt (gb w) n) := by
  induction n with
  | zero => rfl
  | succ n ih =>
    have e : mnM w (n + 1) = mnM w n + (if hsM w n then 1 else 0) := by
      unfold mnM
      exact it_s _ _ _
    rw [e, ih (by omega), cnt_s, hsM_b w (by omega)]
    split
    · rw [nI_1]
    · rw [Int32.add_zero]; rfl
