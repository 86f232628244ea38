/-! what a search answers does not depend on what its rows held before -/
theorem itupd (g : Nat → Int32) (R0 : Nat → Int32) (n i : Nat) : it (fun k R => upd R k (g k)) R0 n i = if i < n then g i else R0 i := by
  induction n with
  | zero => rfl
  | succ n ih =>
    rw [it_s]
    by_cases h : i = n
    · subst h
      rw [pk_us, if_pos (by omega)]
    · rw [pk_un h, ih]
      by_cases h2 : i < n
      · rw [if_pos h2, if_pos (by omega)]
      · rw [if_neg h2, if_neg (by omega)]
theorem fil_in (Rs : Nat → Int32) {i : Nat} (h : i < 64) : fil Rs 64 i = 1000000 := by
  rw [fil, itupd (fun _ => 1000000), if_pos h]
theorem prA_in (w1 : Int64) (p1 : Int32) (w2 : Int64) (p2 : Int32) (Pr : Nat → Int32) {i : Nat} (h : i < 64) : prA w1 p1 w2 p2 Pr 64 i = prF w1 p1 w2 p2 i := by
  rw [prA, itupd (prF w1 p1 w2 p2), if_pos h]
theorem ix_lt {x : Int32} {n : Nat} (h : inB x n = true) (hn : n < 2 ^ 31) : ix x < n := by
  obtain ⟨j, hj, rfl⟩ := inB_nat h hn
  rw [ixx (by omega)]
  exact hj
theorem atF_cong {X Y : Nat → Int32} (h : ∀ i, i < 64 → X i = Y i) (x : Int32) : atF X x = atF Y x := by
  unfold atF
  cases hb : inB x 64 with
  | false => rfl
  | true => rw [if_pos rfl, if_pos rfl, h _ (ix_lt hb (by decide))]
def eqv (σ τ : Pst) : Prop := (∀ i, i < 64 → σ.1 i = τ.1 i) ∧ σ.2.2 = τ.2.2 ∧ σ.2.2.2.1 < 64 ∧ σ.2.2.2.2 ≤ 64 ∧ ∀ j, j < σ.2.2.2.2 → σ.2.1 ((σ.2.2.2.1 + j) % 64) = τ.2.1 ((σ.2.2.2.1 + j) % 64)
theorem upd_cong {X Y : Nat → Int32} {k : Nat} {v : Int32} (h : ∀ i, i < 64 → X i = Y i) : ∀ i, i < 64 → upd X k v i = upd Y k v i := by
  intro i hi
  by_cases e : i = k
  · subst e; rw [pk_us, pk_us]
  · rw [pk_un e, pk_un e, h i hi]
theorem rch_eqv {P P' : Nat → Int32} (hp : ∀ i, i < 64 → P i = P' i) (x z : Int32) {σ τ : Pst} (h : eqv σ τ) : eqv (rch P x z σ) (rch P' x z τ) := by
  obtain ⟨R1, Q1, d1, h1, w1⟩ := σ
  obtain ⟨R2, Q2, d2, h2, w2⟩ := τ
  obtain ⟨e1, e2, e3, e4, e5⟩ := h
  simp only at e1 e2 e3 e4 e5
  cases e2
  unfold rch
  rw [atF_cong hp x]
  simp only
  rw [atF_cong e1 x]
  by_cases c1 : atF P' x = 1000000
  · rw [if_pos c1, if_pos c1]; exact ⟨e1, rfl, e3, e4, e5⟩
  · rw [if_neg c1, if_neg c1]
    by_cases c2 : z < atF R2 x
    · rw [if_pos c2, if_pos c2]
      by_cases c3 : hs d1 x = true
      · rw [if_pos c3, if_pos c3]; exact ⟨upd_cong e1, rfl, e3, e4, e5⟩
      · rw [if_neg c3, if_neg c3]
        by_cases c4 : w1 < 64
        · rw [if_pos c4, if_pos c4]
          refine ⟨upd_cong e1, rfl, e3, by show w1 + 1 ≤ 64; omega, ?_⟩
          intro j hj
          simp only at hj ⊢
          by_cases hjw : j = w1
          · subst hjw; rw [pk_us, pk_us]
          · rw [pk_un (by omega), pk_un (by omega)]
            exact e5 j (by omega)
        · rw [if_neg c4, if_neg c4]; exact ⟨upd_cong e1, rfl, e3, e4, e5⟩
    · rw [if_neg c2, if_neg c2]; exact ⟨e1, rfl, e3, e4, e5⟩
theorem tkq_eqv {σ τ : Pst} (h : eqv σ τ) (hw : 0 < σ.2.2.2.2) : eqv (tkq σ) (tkq τ) ∧ σ.2.1 σ.2.2.2.1 = τ.2.1 τ.2.2.2.1 := by
  obtain ⟨R1, Q1, d1, h1, w1⟩ := σ
  obtain ⟨R2, Q2, d2, h2, w2⟩ := τ
  obtain ⟨e1, e2, e3, e4, e5⟩ := h
  simp only at e1 e2 e3 e4 e5 hw
  cases e2
  have e6 : Q1 h1 = Q2 h1 := by
    have := e5 0 hw
    rwa [show (h1 + 0) % 64 = h1 by omega] at this
  refine ⟨⟨e1, ?_, ?_, ?_, ?_⟩, e6⟩
  · simp only [tkq, e6]
  · show (h1 + 1) % 64 < 64
    omega
  · show w1 - 1 ≤ 64
    omega
  · intro j hj
    simp only [tkq] at hj ⊢
    have := e5 (j + 1) (by omega)
    rwa [show (h1 + (j + 1)) % 64 = ((h1 + 1) % 64 + j) % 64 by omega] at this
theorem mtS_eqv {P P' : Nat → Int32} (hp : ∀ i, i < 64 → P i = P' i) (nr nc : Nat) {σ τ : Pst} (h : eqv σ τ) (hw : 0 < σ.2.2.2.2) : eqv (mtS P nr nc σ) (mtS P' nr nc τ) := by
  obtain ⟨h1, h2⟩ := tkq_eqv h hw
  unfold mtS
  rw [h2]
  refine it_rel (fun _ a b => eqv a b) h1 (fun k _ a b hab => ?_) 4 (Nat.le_refl 4)
  unfold mtI
  rw [atF_cong hab.1, atF_cong hp]
  exact rch_eqv hp _ _ hab
theorem mtR_eqv {P P' : Nat → Int32} (hp : ∀ i, i < 64 → P i = P' i) (nr nc : Nat) : ∀ (f : Nat) {σ τ : Pst}, eqv σ τ → eqv (mtR P nr nc f σ) (mtR P' nr nc f τ)
  | 0, σ, τ, h => h
  | f + 1, σ, τ, h => by
    rw [mtR, mtR, ← h.2.1]
    by_cases c : 0 < σ.2.2.2.2
    · rw [if_pos c, if_pos c]
      exact mtR_eqv hp nr nc f (mtS_eqv hp nr nc h c)
    · rw [if_neg c, if_neg c]
      exact h
theorem mtZ_eqv {P P' : Nat → Int32} (hp : ∀ i, i < 64 → P i = P' i) (nr nc : Nat) (goal : Int32) (Rs Qu Rs' Qu' : Nat → Int32) : eqv (mtZ P nr nc goal Rs Qu) (mtZ P' nr nc goal Rs' Qu') := by
  unfold mtZ
  refine mtR_eqv hp nr nc 4096 (rch_eqv hp goal 0 ⟨fun i hi => ?_, rfl, (show 0 < 64 by decide), (show 0 ≤ 64 by decide), fun j hj => absurd hj (Nat.not_lt_zero j)⟩)
  show fil Rs 64 i = fil Rs' 64 i
  rw [fil_in Rs hi, fil_in Rs' hi]
/-- what is left to go from each cell to the goal, by the prices P -/
def rst (P : Nat → Int32) (nr nc : Nat) (goal : Int32) : Nat → Int32 := (mtZ P nr nc goal (fun _ => 0) (fun _ => 0)).1
theorem rst_of {P P' : Nat → Int32} (hp : ∀ i, i < 64 → P i = P' i) (nr nc : Nat) (goal : Int32) (Rs Qu : Nat → Int32) : ∀ i, i < 64 → (mtZ P nr nc goal Rs Qu).1 i = rst P' nr nc goal i := (mtZ_eqv hp nr nc goal Rs Qu _ _).1
theorem atR_of {P P' : Nat → Int32} (hp : ∀ i, i < 64 → P i = P' i) (nr nc : Nat) (goal : Int32) (Rs Qu : Nat → Int32) (a : Int32) : atF (mtZ P nr nc goal Rs Qu).1 a = atF (rst P' nr nc goal) a := atF_cong (rst_of hp nr nc goal Rs Qu) a
theorem nxA_cong {P P' R R' : Nat → Int32} (hp : ∀ i, i < 64 → P i = P' i) (hr : ∀ i, i < 64 → R i = R' i) (nr nc : Nat) (x : Int32) (n : Nat) : nxA P R nr nc x n = nxA P' R' nr nc x n := by
  unfold nxA
  exact it_cong (fun k _ a => by rw [atF_cong hp, atF_cong hr])
/-- the fewest steps through a set of cells; 1000000 -/
def spX (w : Int64) (nr nc : Nat) (a b : Int32) : Int32 := atF (rst (prF w 1 0 0) nr nc b) a
theorem spX_of (w : Int64) (Pr : Nat → Int32) (nr nc : Nat) (a b : Int32) (Rs Qu : Nat → Int32) : atF (mtZ (prA w 1 0 0 Pr 64) nr nc b Rs Qu).1 a = spX w nr nc a b := atR_of (fun _ h => prA_in w 1 0 0 Pr h) nr nc b Rs Qu a
