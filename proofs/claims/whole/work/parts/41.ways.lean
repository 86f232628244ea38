/-! ways: what a search finds is the least cost of a walk -/
def nbr (nr nc x y : Nat) : Prop := ∃ d, d < 4 ∧ bsM nr nc (nI x) (nI d) = nI y
/-- a walk of so many steps from a cell to b, of such a cost: each cell that is come to is open and is paid -/
def wlk (nr nc : Nat) (op : Nat → Bool) (c : Nat → Nat) (b : Nat) : Nat → Nat → Nat → Prop
  | 0, x, v => x = b ∧ v = 0
  | n + 1, x, v => ∃ y, y < nr * nc ∧ nbr nr nc x y ∧ op y = true ∧ ∃ u, wlk nr nc op c b n y u ∧ v = c y + u
def opM (cs : Nat → Int32) (y : Nat) : Bool := decide ((cs y).toInt < 100000)
def coM (cs : Nat → Int32) (y : Nat) : Nat := (cs y).toInt.toNat
def fxV (cs : Nat → Int32) (nr nc b : Nat) (T : Nat → Int32) : Prop := nnT T (nr * nc) ∧ ∀ x, x < nr * nc → (T x).toInt < 100000 → ∃ n, wlk nr nc (opM cs) (coM cs) b n x (T x).toInt.toNat
theorem rxS_V {cs : Nat → Int32} {nr nc b : Nat} (h1 : 2 ≤ nr ∧ nr ≤ 8) (h2 : 2 ≤ nc ∧ nc ≤ 8) (hcs : nnT cs (nr * nc)) {x d : Nat} (hx : x < nr * nc) (hd : d < 4) {s : (Nat → Int32) × Bool} (h : fxV cs nr nc b s.1) : fxV cs nr nc b (rxS cs nr nc x d s).1 := by
  unfold rxS
  split
  · rename_i hc
    simp only [rxB, Bool.and_eq_true, Bool.not_eq_true', decide_eq_false_iff_not] at hc
    obtain ⟨c1, c2, c3, c4⟩ := hc
    obtain ⟨j, hj, ej⟩ := bsM_in h1 h2 c1
    have hcl := cells_le h1 h2
    rw [ej, nI_clamp (by omega)] at c2 c3 c4 ⊢
    obtain ⟨g1, g2⟩ := h
    have hs := g1 j hj
    have hc := hcs j hj
    have hsx := g1 x hx
    rw [Int32.not_le, Int32.lt_iff_toInt_lt, i32_1e5] at c2 c3
    rw [Int32.not_le, Int32.lt_iff_toInt_lt, i32_add hc hs] at c4
    have ex : (upd s.1 x (cs j + s.1 j) x).toInt = (cs j).toInt + (s.1 j).toInt := by rw [pk_us, i32_add hc hs]
    refine ⟨fun i hi => ?_, fun z hz hlt => ?_⟩
    · show 0 ≤ (upd s.1 x (cs j + s.1 j) i).toInt ∧ (upd s.1 x (cs j + s.1 j) i).toInt ≤ 100000
      by_cases e : i = x
      · subst e; rw [ex]; omega
      · rw [pk_un e]; exact g1 i hi
    · show ∃ n, wlk nr nc (opM cs) (coM cs) b n z (upd s.1 x (cs j + s.1 j) z).toInt.toNat
      by_cases e : z = x
      · subst e
        obtain ⟨n, hn⟩ := g2 j hj c3
        refine ⟨n + 1, j, hj, ⟨d, hd, ej⟩, decide_eq_true c2, (s.1 j).toInt.toNat, hn, ?_⟩
        rw [ex]
        show _ = (cs j).toInt.toNat + _
        omega
      · have ez : (upd s.1 x (cs j + s.1 j) z) = s.1 z := pk_un e
        have hlt : (upd s.1 x (cs j + s.1 j) z).toInt < 100000 := hlt
        rw [ez] at hlt ⊢
        exact g2 z hz hlt
  · exact h
theorem rxC_V {cs : Nat → Int32} {nr nc b : Nat} (h1 : 2 ≤ nr ∧ nr ≤ 8) (h2 : 2 ≤ nc ∧ nc ≤ 8) (hcs : nnT cs (nr * nc)) {x : Nat} (hx : x < nr * nc) {s : (Nat → Int32) × Bool} (h : fxV cs nr nc b s.1) {k : Nat} (hk : k ≤ 4) : fxV cs nr nc b (rxC cs nr nc x s k).1 := by
  induction k with
  | zero => exact h
  | succ k ih => rw [rxC_s]; exact rxS_V h1 h2 hcs hx (by omega) (ih (by omega))
theorem rxA_V {cs t : Nat → Int32} {nr nc b : Nat} (h1 : 2 ≤ nr ∧ nr ≤ 8) (h2 : 2 ≤ nc ∧ nc ≤ 8) (hcs : nnT cs (nr * nc)) (h : fxV cs nr nc b t) {k : Nat} (hk : k ≤ nr * nc) : fxV cs nr nc b (rxA cs nr nc t k).1 := by
  induction k with
  | zero => rw [rxA_0]; exact h
  | succ k ih => rw [rxA_s]; exact rxC_V h1 h2 hcs (by omega) (ih (by omega)) (Nat.le_refl _)
theorem fnL_V {cs : Nat → Int32} {nr nc b : Nat} (h1 : 2 ≤ nr ∧ nr ≤ 8) (h2 : 2 ≤ nc ∧ nc ≤ 8) (hcs : nnT cs (nr * nc)) {f : Nat} : ∀ {t : Nat → Int32}, fxV cs nr nc b t → fxV cs nr nc b (fnL cs nr nc f t) := by
  induction f with
  | zero => intro t h; exact h
  | succ f ih =>
    intro t h
    have h' := rxA_V h1 h2 hcs h (Nat.le_refl _)
    rw [fnL]
    split
    · exact ih h'
    · exact h'
theorem fnX_V {cs : Nat → Int32} {nr nc b : Nat} (h1 : 2 ≤ nr ∧ nr ≤ 8) (h2 : 2 ≤ nc ∧ nc ≤ 8) (hcs : nnT cs (nr * nc)) (hb : b < nr * nc) : fxV cs nr nc b (fnX nr nc cs b) := by
  have hcl := cells_le h1 h2
  refine fnL_V h1 h2 hcs ⟨?_, fun x hx hl => ?_⟩
  · intro i _
    show 0 ≤ (if nI i = nI b then (0 : Int32) else 100000).toInt ∧ (if nI i = nI b then (0 : Int32) else 100000).toInt ≤ 100000
    split <;> decide
  · have hl : (if nI x = nI b then (0 : Int32) else 100000).toInt < 100000 := hl
    show ∃ n, wlk nr nc (opM cs) (coM cs) b n x (if nI x = nI b then (0 : Int32) else 100000).toInt.toNat
    by_cases e : nI x = nI b
    · rw [if_pos e]
      exact ⟨0, (nI_eq (by omega) (by omega)).mp e, rfl⟩
    · rw [if_neg e, i32_1e5] at hl
      omega
/-- no walk of a cost below 100000 is cheaper -/
theorem fnX_le {cs : Nat → Int32} {nr nc b : Nat} (h1 : 2 ≤ nr ∧ nr ≤ 8) (h2 : 2 ≤ nc ∧ nc ≤ 8) (hcs : nnT cs (nr * nc)) (hb : b < nr * nc) : ∀ (n x v : Nat), x < nr * nc → wlk nr nc (opM cs) (coM cs) b n x v → v < 100000 → (fnX nr nc cs b x).toInt ≤ v := by
  have hcl := cells_le h1 h2
  obtain ⟨⟨w1, w2, w3⟩, w4⟩ := fnX_ok h1 h2 hcs hb
  intro n
  induction n with
  | zero =>
    intro x v hx h hv
    obtain ⟨rfl, rfl⟩ := h
    rw [w2 hb]
    decide
  | succ n ih =>
    intro x v hx h hv
    obtain ⟨y, hy, ⟨d, hd, ed⟩, ho, u, hu, rfl⟩ := h
    have hc := hcs y hy
    have ho := of_decide_eq_true ho
    have ec : (coM cs y : Int) = (cs y).toInt := by unfold coM; omega
    have hi := ih y u hy hu (by omega)
    have h4 := w4 x hx d hd
    rw [rxB, ed, nI_clamp (by omega)] at h4
    have n4 : ¬ nI y = -4 := nI_ne4 (by omega)
    have n1 : ¬ 100000 ≤ cs y := by rw [Int32.le_iff_toInt_le, i32_1e5]; omega
    have n2 : ¬ 100000 ≤ fnX nr nc cs b y := by rw [Int32.le_iff_toInt_le, i32_1e5]; omega
    simp only [n4, n1, n2, decide_false, Bool.not_false, Bool.true_and, Bool.not_eq_false', decide_eq_true_eq] at h4
    rw [Int32.le_iff_toInt_le, i32_add hc (w1 y hy)] at h4
    omega
