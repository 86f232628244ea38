/-! the reference: what a search has found, and the wanderer -/
theorem i32_add {a b : Int32} (ha : 0 ≤ a.toInt ∧ a.toInt ≤ 100000) (hb : 0 ≤ b.toInt ∧ b.toInt ≤ 100000) : (a + b).toInt = a.toInt + b.toInt := by
  rw [Int32.toInt_add]
  exact Int.bmod_eq_of_le (by omega) (by omega)
def fxB (cs : Nat → Int32) (nr nc : Nat) (T : Nat → Int32) : Prop := ∀ x, x < nr * nc → ∀ d, d < 4 → rxB cs T x (bsM nr nc (nI x) (nI d)) = false
def fxY (cs : Nat → Int32) (nr nc : Nat) (T : Nat → Int32) (x : Nat) : Prop := ∃ d, d < 4 ∧ ∃ y, y < nr * nc ∧ bsM nr nc (nI x) (nI d) = nI y ∧ (cs y).toInt < 100000 ∧ (T y).toInt < 100000 ∧ (cs y).toInt + (T y).toInt ≤ (T x).toInt
def fxW (cs : Nat → Int32) (nr nc b : Nat) (T : Nat → Int32) : Prop := nnT T (nr * nc) ∧ (b < nr * nc → T b = 0) ∧ ∀ x, x < nr * nc → (T x).toInt < 100000 → x = b ∨ fxY cs nr nc T x
theorem rxS_W {cs : Nat → Int32} {nr nc b : Nat} (h1 : 2 ≤ nr ∧ nr ≤ 8) (h2 : 2 ≤ nc ∧ nc ≤ 8) (hcs : nnT cs (nr * nc)) {x d : Nat} (hx : x < nr * nc) (hd : d < 4) {s : (Nat → Int32) × Bool} (h : fxW cs nr nc b s.1) : fxW cs nr nc b (rxS cs nr nc x d s).1 := by
  unfold rxS
  split
  · rename_i hc
    simp only [rxB, Bool.and_eq_true, Bool.not_eq_true', decide_eq_false_iff_not] at hc
    obtain ⟨c1, c2, c3, c4⟩ := hc
    obtain ⟨j, hj, ej⟩ := bsM_in h1 h2 c1
    have hcl := cells_le h1 h2
    rw [ej, nI_clamp (by omega)] at c2 c3 c4 ⊢
    obtain ⟨g1, g2, g3⟩ := h
    have hs := g1 j hj
    have hc := hcs j hj
    have hsx := g1 x hx
    rw [Int32.not_le, Int32.lt_iff_toInt_lt, i32_1e5] at c2 c3
    rw [Int32.not_le, Int32.lt_iff_toInt_lt, i32_add hc hs] at c4
    have hjx : ¬ j = x := fun z => by subst z; omega
    have ex : (upd s.1 x (cs j + s.1 j) x).toInt = (cs j).toInt + (s.1 j).toInt := by rw [pk_us, i32_add hc hs]
    have hle : ∀ i, i < nr * nc → (upd s.1 x (cs j + s.1 j) i).toInt ≤ (s.1 i).toInt := by
      intro i hi
      by_cases e : i = x
      · subst e; rw [ex]; omega
      · rw [pk_un e]; exact Int.le_refl _
    refine ⟨fun i hi => ?_, fun hb => ?_, fun z hz hlt => ?_⟩
    · show 0 ≤ (upd s.1 x (cs j + s.1 j) i).toInt ∧ (upd s.1 x (cs j + s.1 j) i).toInt ≤ 100000
      by_cases e : i = x
      · subst e; rw [ex]; omega
      · rw [pk_un e]; exact g1 i hi
    · show upd s.1 x (cs j + s.1 j) b = 0
      by_cases e : b = x
      · subst e
        have := g2 hb
        rw [this] at c4
        have e0 : (0 : Int32).toInt = 0 := rfl
        omega
      · rw [pk_un e]; exact g2 hb
    · by_cases e : z = x
      · subst e
        refine Or.inr ⟨d, hd, j, hj, ej, c2, ?_, ?_⟩
        · show (upd s.1 z (cs j + s.1 j) j).toInt < 100000
          rw [pk_un hjx]; exact c3
        · show (cs j).toInt + (upd s.1 z (cs j + s.1 j) j).toInt ≤ (upd s.1 z (cs j + s.1 j) z).toInt
          rw [ex, pk_un hjx]; exact Int.le_refl _
      · have ez : (upd s.1 x (cs j + s.1 j) z) = s.1 z := pk_un e
        have hlt : (upd s.1 x (cs j + s.1 j) z).toInt < 100000 := hlt
        rw [ez] at hlt
        rcases g3 z hz hlt with e2 | ⟨d2, hd2, y, hy, ey, k1, k2, k3⟩
        · exact Or.inl e2
        · have hl := hle y hy
          refine Or.inr ⟨d2, hd2, y, hy, ey, k1, ?_, ?_⟩
          · show (upd s.1 x (cs j + s.1 j) y).toInt < 100000
            omega
          · show (cs y).toInt + (upd s.1 x (cs j + s.1 j) y).toInt ≤ (upd s.1 x (cs j + s.1 j) z).toInt
            rw [ez]; omega
  · exact h
theorem rxC_W {cs : Nat → Int32} {nr nc b : Nat} (h1 : 2 ≤ nr ∧ nr ≤ 8) (h2 : 2 ≤ nc ∧ nc ≤ 8) (hcs : nnT cs (nr * nc)) {x : Nat} (hx : x < nr * nc) {s : (Nat → Int32) × Bool} (h : fxW cs nr nc b s.1) {k : Nat} (hk : k ≤ 4) : fxW cs nr nc b (rxC cs nr nc x s k).1 := by
  induction k with
  | zero => exact h
  | succ k ih => rw [rxC_s]; exact rxS_W h1 h2 hcs hx (by omega) (ih (by omega))
theorem rxA_W {cs t : Nat → Int32} {nr nc b : Nat} (h1 : 2 ≤ nr ∧ nr ≤ 8) (h2 : 2 ≤ nc ∧ nc ≤ 8) (hcs : nnT cs (nr * nc)) (h : fxW cs nr nc b t) {k : Nat} (hk : k ≤ nr * nc) : fxW cs nr nc b (rxA cs nr nc t k).1 := by
  induction k with
  | zero => rw [rxA_0]; exact h
  | succ k ih => rw [rxA_s]; exact rxC_W h1 h2 hcs (by omega) (ih (by omega)) (Nat.le_refl _)
theorem rxS_no {cs : Nat → Int32} {nr nc x d : Nat} {s : (Nat → Int32) × Bool} (h : (rxS cs nr nc x d s).2 = false) : rxS cs nr nc x d s = s ∧ rxB cs s.1 x (bsM nr nc (nI x) (nI d)) = false := by
  unfold rxS at h ⊢
  split at h
  · cases h
  · rename_i hc
    rw [if_neg hc]
    exact ⟨rfl, by simpa using hc⟩
theorem rxC_no {cs : Nat → Int32} {nr nc x : Nat} {s : (Nat → Int32) × Bool} {k : Nat} (h : (rxC cs nr nc x s k).2 = false) : rxC cs nr nc x s k = s ∧ ∀ d, d < k → rxB cs s.1 x (bsM nr nc (nI x) (nI d)) = false := by
  induction k with
  | zero => exact ⟨rfl, fun d hd => absurd hd (by omega)⟩
  | succ k ih =>
    rw [rxC_s] at h ⊢
    obtain ⟨e1, e2⟩ := rxS_no h
    rw [e1] at h
    obtain ⟨e3, e4⟩ := ih h
    rw [e3] at e2
    refine ⟨e1.trans e3, fun d hd => ?_⟩
    by_cases e : d = k
    · subst e; exact e2
    · exact e4 d (by omega)
theorem rxA_no {cs t : Nat → Int32} {nr nc : Nat} {k : Nat} (h : (rxA cs nr nc t k).2 = false) : rxA cs nr nc t k = (t, false) ∧ ∀ x, x < k → ∀ d, d < 4 → rxB cs t x (bsM nr nc (nI x) (nI d)) = false := by
  induction k with
  | zero => exact ⟨rxA_0 _ _ _ _, fun d hd => absurd hd (by omega)⟩
  | succ k ih =>
    rw [rxA_s] at h ⊢
    obtain ⟨e1, e2⟩ := rxC_no h
    rw [e1] at h
    obtain ⟨e3, e4⟩ := ih h
    rw [e3] at e2
    refine ⟨e1.trans e3, fun x hx => ?_⟩
    by_cases e : x = k
    · subst e; exact e2
    · exact e4 x (by omega)
theorem fnL_ok {cs : Nat → Int32} {nr nc b : Nat} (h1 : 2 ≤ nr ∧ nr ≤ 8) (h2 : 2 ≤ nc ∧ nc ≤ 8) (hcs : nnT cs (nr * nc)) {f : Nat} : ∀ {t : Nat → Int32}, fxW cs nr nc b t → tkW t (nr * nc) < f → fxW cs nr nc b (fnL cs nr nc f t) ∧ fxB cs nr nc (fnL cs nr nc f t) := by
  induction f with
  | zero => intro t _ hf; omega
  | succ f ih =>
    intro t ht hf
    have hI := rxA_I h1 h2 hcs ht.1
    have hW := rxA_W h1 h2 hcs ht (Nat.le_refl (nr * nc))
    rw [fnL]
    split
    · rename_i hc
      have := hI.2.1 hc
      exact ih hW (by omega)
    · rename_i hc
      have hc : (rxA cs nr nc t (nr * nc)).2 = false := by simpa using hc
      obtain ⟨e1, e2⟩ := rxA_no hc
      rw [e1]
      exact ⟨ht, e2⟩
theorem fnX_ok {cs : Nat → Int32} {nr nc b : Nat} (h1 : 2 ≤ nr ∧ nr ≤ 8) (h2 : 2 ≤ nc ∧ nc ≤ 8) (hcs : nnT cs (nr * nc)) (hb : b < nr * nc) : fxW cs nr nc b (fnX nr nc cs b) ∧ fxB cs nr nc (fnX nr nc cs b) := by
  have hcl := cells_le h1 h2
  have hn : nnT (fun i => if nI i = nI b then 0 else 100000) (nr * nc) := by
    intro i _
    show 0 ≤ (if nI i = nI b then (0 : Int32) else 100000).toInt ∧ (if nI i = nI b then (0 : Int32) else 100000).toInt ≤ 100000
    split <;> decide
  refine fnL_ok h1 h2 hcs ⟨hn, fun _ => if_pos rfl, fun x hx hl => ?_⟩ ?_
  · by_cases e : nI x = nI b
    · exact Or.inl ((nI_eq (by omega) (by omega)).mp e)
    · have hl : (if nI x = nI b then (0 : Int32) else 100000).toInt < 100000 := hl
      rw [if_neg e, i32_1e5] at hl
      omega
  · have := tkW_le hn
    rw [fuF]
    omega
/-- a cell from which there is a way has a neighbour on it -/
theorem fnX_nb {cs : Nat → Int32} {nr nc b : Nat} (h1 : 2 ≤ nr ∧ nr ≤ 8) (h2 : 2 ≤ nc ∧ nc ≤ 8) (hcs : nnT cs (nr * nc)) (hb : b < nr * nc) {x : Nat} (hx : x < nr * nc) (hxb : ¬ x = b) (hl : fnX nr nc cs b x < 100000) : ∃ d, d < 4 ∧ ∃ y, y < nr * nc ∧ bsM nr nc (nI x) (nI d) = nI y ∧ cs y < 100000 ∧ fnX nr nc cs b y < 100000 ∧ cs y + fnX nr nc cs b y = fnX nr nc cs b x := by
  have hcl := cells_le h1 h2
  obtain ⟨⟨w1, w2, w3⟩, w4⟩ := fnX_ok h1 h2 hcs hb
  rw [Int32.lt_iff_toInt_lt, i32_1e5] at hl
  obtain ⟨d, hd, y, hy, ey, k1, k2, k3⟩ := (w3 x hx hl).resolve_left hxb
  have h4 := w4 x hx d hd
  have c1 : cs y < 100000 := by rw [Int32.lt_iff_toInt_lt, i32_1e5]; exact k1
  have c2 : fnX nr nc cs b y < 100000 := by rw [Int32.lt_iff_toInt_lt, i32_1e5]; exact k2
  refine ⟨d, hd, y, hy, ey, c1, c2, ?_⟩
  rw [rxB, ey, nI_clamp (by omega)] at h4
  have n4 : ¬ nI y = -4 := nI_ne4 (by omega)
  have n1 : ¬ 100000 ≤ cs y := Int32.not_le.mpr c1
  have n2 : ¬ 100000 ≤ fnX nr nc cs b y := Int32.not_le.mpr c2
  simp only [n4, n1, n2, decide_false, Bool.not_false, Bool.true_and, Bool.not_eq_false', decide_eq_true_eq] at h4
  rw [Int32.le_iff_toInt_le, i32_add (hcs y hy) (w1 y hy)] at h4
  apply Int32.toInt_inj.mp
  rw [i32_add (hcs y hy) (w1 y hy)]
  omega
def toB (c T : Nat → Int32) (x : Nat) (y : Int32) : Bool := !decide (y = -4) && (!decide (100000 ≤ c y.toNatClampNeg) && decide (c y.toNatClampNeg + T y.toNatClampNeg = T x))
def toO (nr nc : Nat) (c : Nat → Int32) (b x n : Nat) : Int32 := it (fun i a => if toB c (fnX nr nc c b) x (bsM nr nc (nI x) (nI (3 - i))) then bsM nr nc (nI x) (nI (3 - i)) else a) (-4) n
theorem toO_s (nr nc : Nat) (c : Nat → Int32) (b x n : Nat) : toO nr nc c b x (n + 1) = if toB c (fnX nr nc c b) x (bsM nr nc (nI x) (nI (3 - n))) then bsM nr nc (nI x) (nI (3 - n)) else toO nr nc c b x n := by
  unfold toO
  exact it_s _ _ _
theorem toO_in {nr nc : Nat} {c : Nat → Int32} {b x : Nat} {n : Nat} : (toO nr nc c b x n = -4 ∧ ∀ i, i < n → toB c (fnX nr nc c b) x (bsM nr nc (nI x) (nI (3 - i))) = false) ∨ (∃ i, i < n ∧ toO nr nc c b x n = bsM nr nc (nI x) (nI (3 - i)) ∧ toB c (fnX nr nc c b) x (bsM nr nc (nI x) (nI (3 - i))) = true) := by
  induction n with
  | zero => exact Or.inl ⟨by unfold toO; exact it_0 _ _, fun i hi => absurd hi (by omega)⟩
  | succ n ih =>
    rw [toO_s]
    cases hb : toB c (fnX nr nc c b) x (bsM nr nc (nI x) (nI (3 - n))) with
    | true => exact Or.inr ⟨n, by omega, by rw [if_pos rfl], hb⟩
    | false =>
      rw [if_neg (by decide)]
      rcases ih with ⟨e1, e2⟩ | ⟨i, hi, e1, e2⟩
      · refine Or.inl ⟨e1, fun i hi => ?_⟩
        by_cases e : i = n
        · subst e; exact hb
        · exact e2 i (by omega)
      · exact Or.inr ⟨i, by omega, e1, e2⟩
theorem toO_ok {cs : Nat → Int32} {nr nc b : Nat} (h1 : 2 ≤ nr ∧ nr ≤ 8) (h2 : 2 ≤ nc ∧ nc ≤ 8) (hcs : nnT cs (nr * nc)) (hb : b < nr * nc) {x : Nat} (hx : x < nr * nc) (hxb : ¬ x = b) (hl : fnX nr nc cs b x < 100000) : ∃ y, y < nr * nc ∧ toO nr nc cs b x 4 = nI y := by
  have hcl := cells_le h1 h2
  rcases toO_in (nr := nr) (nc := nc) (c := cs) (b := b) (x := x) (n := 4) with ⟨_, e2⟩ | ⟨i, hi, e1, e2⟩
  · obtain ⟨d, hd, y, hy, ey, c1, c2, c3⟩ := fnX_nb h1 h2 hcs hb hx hxb hl
    have h9 := e2 (3 - d) (by omega)
    rw [show 3 - (3 - d) = d by omega, ey, toB, nI_clamp (by omega), c3] at h9
    have n4 : ¬ nI y = -4 := nI_ne4 (by omega)
    have n1 : ¬ 100000 ≤ cs y := Int32.not_le.mpr c1
    simp [n4, n1] at h9
  · rw [e1]
    refine bsM_in h1 h2 (fun z => ?_)
    rw [z, toB] at e2
    simp at e2
def cwO (w : Int64) (nr nc x : Nat) (d : Nat) (c : Nat → Int32) : Nat → Int32 := if !decide (bsM nr nc (nI x) (nI d) = -4) && hsN w (bsM nr nc (nI x) (nI d)) then upd c (bsM nr nc (nI x) (nI d)).toNatClampNeg 100000 else c
def cwP (w : Int64) (nr nc x : Nat) (c : Nat → Int32) (n : Nat) : Nat → Int32 := it (cwO w nr nc x) c n
theorem cwP_s (w : Int64) (nr nc x : Nat) (c : Nat → Int32) (n : Nat) : cwP w nr nc x c (n + 1) = cwO w nr nc x n (cwP w nr nc x c n) := by
  unfold cwP
  exact it_s _ _ _
theorem cwO_cong (w : Int64) (nr nc x d : Nat) {c c' : Nat → Int32} {n : Nat} (h : ∀ i, i < n → c i = c' i) : ∀ i, i < n → cwO w nr nc x d c i = cwO w nr nc x d c' i := by
  intro i hi
  unfold cwO
  split
  · by_cases e : i = (bsM nr nc (nI x) (nI d)).toNatClampNeg
    · rw [e, pk_us, pk_us]
    · rw [pk_un e, pk_un e]; exact h i hi
  · exact h i hi
theorem cwP_cong (w : Int64) (nr nc x : Nat) {c c' : Nat → Int32} {n : Nat} (h : ∀ i, i < n → c i = c' i) (k : Nat) : ∀ i, i < n → cwP w nr nc x c k i = cwP w nr nc x c' k i := by
  induction k with
  | zero => exact h
  | succ k ih => rw [cwP_s, cwP_s]; exact cwO_cong w nr nc x k ih
theorem cwO_nn (w : Int64) (nr nc x d : Nat) {c : Nat → Int32} {n : Nat} (h : nnT c n) : nnT (cwO w nr nc x d c) n := by
  intro i hi
  unfold cwO
  split
  · by_cases e : i = (bsM nr nc (nI x) (nI d)).toNatClampNeg
    · rw [e, pk_us]; decide
    · rw [pk_un e]; exact h i hi
  · exact h i hi
theorem cwP_nn (w : Int64) (nr nc x : Nat) {c : Nat → Int32} {n : Nat} (h : nnT c n) (k : Nat) : nnT (cwP w nr nc x c k) n := by
  induction k with
  | zero => exact h
  | succ k ih => rw [cwP_s]; exact cwO_nn w nr nc x k ih
def wdM (nr nc : Nat) (w : Int64) (b : Nat) : Nat → Nat → (Nat → Int32) → Nat → Int32
  | 0, _, _, _ => -4
  | f + 1, k, c, x => if x = b then nI k else if fnX nr nc (cwP w nr nc x c 4) b x < 100000 then wdM nr nc w b f (k + 1) (cwP w nr nc x c 4) (toO nr nc (cwP w nr nc x c 4) b x 4).toNatClampNeg else -4
theorem nnT_cong {c c' : Nat → Int32} {n : Nat} (h : ∀ i, i < n → c i = c' i) (hn : nnT c' n) : nnT c n := fun i hi => by rw [h i hi]; exact hn i hi
theorem cst_nn' {v : Int64} {x y : Int32} (hx : 0 ≤ x.toInt ∧ x.toInt ≤ 100000) (hy : 0 ≤ y.toInt ∧ y.toInt ≤ 100000) (n : Nat) : nnT (cst v x y) n := fun i _ => by
  rw [cst]
  split
  · exact hx
  · exact hy
theorem m1e {e : Nat} (h : 0 < e) : (nI e - 1) + (-1) = nI (e - 1) - 1 := by
  rw [nI_sub1 h, Int32.sub_eq_add_neg]

set_option maxHeartbeats 4000000 in
set_option maxRecDepth 100000 in
theorem c_X10_wander_y (l : Launch) (G : Gv) (q0 : Nat) (q1 : Nat) (q2 : Nat) (q3 : Nat) (q4 : Nat) (q5 : Nat) (q6 : Nat) (q7 : Nat) (q8 : Nat) (q9 : Nat) (q10 : Nat) (q11 : Nat) (q12 : Nat) (q13 : Nat) (q14 : Nat) (tx : Nat → Int32) (ro : Nat → Int32) (co : Nat → Int32) (mp : Nat → Int32) (my : Nat → Int32) (md : Nat → Int32) (mr : Nat → Int32) (dr : Nat → Int32) (nw : Nat → Int32) (tk : Nat → Int32) (cs : Nat → Int32) (sa : Nat → Int32) (go : Nat → Int32) (to : Nat → Int32) (ty : Nat) (dm : Nat) (at_ : Nat) (so : Bool) (de : Nat) (ke : Nat) (sm : Nat) (nr : Nat) (nc : Nat) (n : Nat) (q : Nat) (j : Nat) (av : Nat) (bv : Nat) (hro : ro 0 = nI nr) (hco : co 0 = nI nc) (hg1 : 2 ≤ nr ∧ nr ≤ 8) (hg2 : 2 ≤ nc ∧ nc ≤ 8) (hn1 : nw 1 = nI n) (hn : n ≤ 10) (hmp : mp 0 = nI q) (hq : q ≤ 5) (hj : j < q) (hav : av < nr * nc) (hbv : bv < nr * nc) (hca : hsM (stC (cel nw 0) (sta nw 0) (fal nw 0) (nw 0) n) av = false) (hcb : hsM (stC (cel nw 0) (sta nw 0) (fal nw 0) (nw 0) n) bv = false) : Ct l yX10_wander cX10_wander 13 (some .int) (rmz 3 73) G [.ref q0, .int (nI j), .int (nI av), .int (nI bv)] [(q0, .inr (10, [.ref q1, .int (nI ty), .ref q2, .ref q3, .ref q4, .ref q5, .ref q6, .ref q7, .ref q8, .int (nI dm), .int (nI at_), .int (zb so), .ref q9, .int (nI de), .int (nI ke), .ref q10, .ref q11, .ref q12, .int (nI sm), .ref q13, .ref q14])), (q1, .inl (kB G, 200, .inl tx)), (q2, .inl (kI G, 2, .inl ro)), (q3, .inl (kI G, 2, .inl co)), (q4, .inl (kI G, 2, .inl mp)), (q5, .inl (kI G, 10, .inl my)), (q6, .inl (kI G, 10, .inl md)), (q7, .inl (kI G, 10, .inl mr)), (q8, .inl (kI G, 40, .inl dr)), (q9, .inl (kI G, 504, .inl nw)), (q10, .inl (kI G, 64, .inl tk)), (q11, .inl (kI G, 64, .inl cs)), (q12, .inl (kI G, 12, .inl sa)), (q13, .inl (kI G, 8, .inl go)), (q14, .inl (kI G, 2048, .inl to))] (fun v9 w9 => v9 = (some (.int (wdM nr nc (stC (cel nw 0) (sta nw 0) (fal nw 0) (nw 0) n) bv 201 0 (cst (swM nr nc nw my md mr n j) 1 2) av))) ∧ ∃ (tk9 : Nat → Int32) (cs9 : Nat → Int32), w9 = [(q0, .inr (10, [.ref q1, .int (nI ty), .ref q2, .ref q3, .ref q4, .ref q5, .ref q6, .ref q7, .ref q8, .int (nI dm), .int (nI at_), .int (zb so), .ref q9, .int (nI de), .int (nI ke), .ref q10, .ref q11, .ref q12, .int (nI sm), .ref q13, .ref q14])), (q1, .inl (kB G, 200, .inl tx)), (q2, .inl (kI G, 2, .inl ro)), (q3, .inl (kI G, 2, .inl co)), (q4, .inl (kI G, 2, .inl mp)), (q5, .inl (kI G, 10, .inl my)), (q6, .inl (kI G, 10, .inl md)), (q7, .inl (kI G, 10, .inl mr)), (q8, .inl (kI G, 40, .inl dr)), (q9, .inl (kI G, 504, .inl nw)), (q10, .inl (kI G, 64, .inl tk9)), (q11, .inl (kI G, 64, .inl cs9)), (q12, .inl (kI G, 12, .inl sa)), (q13, .inl (kI G, 8, .inl go)), (q14, .inl (kI G, 2048, .inl to))]) := by
  refine Ct.ofW (by decide) (Nat.le_of_ble_eq_true rfl) ?_
  intro p e s m below meth c ls A hx hb hml hr hown hts hlk hnm hP hD hA hE hS hl
  obtain ⟨H, eH⟩ : ∃ H : Heap, H = s.heap := ⟨_, rfl⟩
  obtain ⟨locs, eL⟩ : ∃ ll : List Loc, ll = [] := ⟨_, rfl⟩
  rw [← eH] at hP
  have hS : va_S A s.heap H locs := by rw [eH, eL]; exact hS
  show WC p l e _ s m _ below meth c G A _ s.heap [] 0 0 _
  rw [← eH, ← eL]
  clear eH eL
  have hl : lv_has ls 13 [(0, .ref q0), (1, .int (nI j)), (2, .int (nI av)), (3, .int (nI bv))] := hl
  have hcl := cells_le hg1 hg2
  have J_120 : ∀ (n_ : Nat) (k : Nat) (x : Nat) (c1 : Nat → Int32) (t1 : Nat → Int32) (cc : Nat → Int32) (hk : k ≤ 201) (hxN : x < nr * nc) (hcc : ∀ i, i < nr * nc → c1 i = cc i) (hnn : nnT cc (nr * nc)) (hW : wdM nr nc (stC (cel nw 0) (sta nw 0) (fal nw 0) (nw 0) n) bv 201 0 (cst (swM nr nc nw my md mr n j) 1 2) av = wdM nr nc (stC (cel nw 0) (sta nw 0) (fal nw 0) (nw 0) n) bv (201 - k) k cc x) (hm_120 : 201 - k < n_), ∀ (H : Heap) (locs : List Loc), va_P G.1 vwCl [(q0, .inr (10, [.ref q1, .int (nI ty), .ref q2, .ref q3, .ref q4, .ref q5, .ref q6, .ref q7, .ref q8, .int (nI dm), .int (nI at_), .int (zb so), .ref q9, .int (nI de), .int (nI ke), .ref q10, .ref q11, .ref q12, .int (nI sm), .ref q13, .ref q14])), (q1, .inl (kB G, 200, .inl tx)), (q2, .inl (kI G, 2, .inl ro)), (q3, .inl (kI G, 2, .inl co)), (q4, .inl (kI G, 2, .inl mp)), (q5, .inl (kI G, 10, .inl my)), (q6, .inl (kI G, 10, .inl md)), (q7, .inl (kI G, 10, .inl mr)), (q8, .inl (kI G, 40, .inl dr)), (q9, .inl (kI G, 504, .inl nw)), (q10, .inl (kI G, 64, .inl t1)), (q11, .inl (kI G, 64, .inl c1)), (q12, .inl (kI G, 12, .inl sa)), (q13, .inl (kI G, 8, .inl go)), (q14, .inl (kI G, 2048, .inl to))] H → va_D A [(q0, .inr (10, [.ref q1, .int (nI ty), .ref q2, .ref q3, .ref q4, .ref q5, .ref q6, .ref q7, .ref q8, .int (nI dm), .int (nI at_), .int (zb so), .ref q9, .int (nI de), .int (nI ke), .ref q10, .ref q11, .ref q12, .int (nI sm), .ref q13, .ref q14])), (q1, .inl (kB G, 200, .inl tx)), (q2, .inl (kI G, 2, .inl ro)), (q3, .inl (kI G, 2, .inl co)), (q4, .inl (kI G, 2, .inl mp)), (q5, .inl (kI G, 10, .inl my)), (q6, .inl (kI G, 10, .inl md)), (q7, .inl (kI G, 10, .inl mr)), (q8, .inl (kI G, 40, .inl dr)), (q9, .inl (kI G, 504, .inl nw)), (q10, .inl (kI G, 64, .inl t1)), (q11, .inl (kI G, 64, .inl c1)), (q12, .inl (kI G, 12, .inl sa)), (q13, .inl (kI G, 8, .inl go)), (q14, .inl (kI G, 2048, .inl to))] → va_S A s.heap H locs → ∀ ls : Array Slot, lv_has ls 13 [(0, .ref q0), (1, .int (nI j)), (2, .int (nI av)), (3, .int (nI bv)), (4, .long (stC (cel nw 0) (sta nw 0) (fal nw 0) (nw 0) n)), (6, .long (swM nr nc nw my md mr n j)), (8, .int (nI x)), (9, .int (nI k))] → WC p l e (rmz 3 73) s m [.ref q0, .int (nI j), .int (nI av), .int (nI bv)] below meth c G A (fun v9 w9 => v9 = (some (.int (wdM nr nc (stC (cel nw 0) (sta nw 0) (fal nw 0) (nw 0) n) bv 201 0 (cst (swM nr nc nw my md mr n j) 1 2) av))) ∧ ∃ (tk9 : Nat → Int32) (cs9 : Nat → Int32), w9 = [(q0, .inr (10, [.ref q1, .int (nI ty), .ref q2, .ref q3, .ref q4, .ref q5, .ref q6, .ref q7, .ref q8, .int (nI dm), .int (nI at_), .int (zb so), .ref q9, .int (nI de), .int (nI ke), .ref q10, .ref q11, .ref q12, .int (nI sm), .ref q13, .ref q14])), (q1, .inl (kB G, 200, .inl tx)), (q2, .inl (kI G, 2, .inl ro)), (q3, .inl (kI G, 2, .inl co)), (q4, .inl (kI G, 2, .inl mp)), (q5, .inl (kI G, 10, .inl my)), (q6, .inl (kI G, 10, .inl md)), (q7, .inl (kI G, 10, .inl mr)), (q8, .inl (kI G, 40, .inl dr)), (q9, .inl (kI G, 504, .inl nw)), (q10, .inl (kI G, 64, .inl tk9)), (q11, .inl (kI G, 64, .inl cs9)), (q12, .inl (kI G, 12, .inl sa)), (q13, .inl (kI G, 8, .inl go)), (q14, .inl (kI G, 2048, .inl to))]) H locs 0 0 (F0 m 120 ls []) := by
    intro n_
    induction n_ with
    | zero =>
      intro k x c1 t1 cc hk hxN hcc hnn hW hm_120
      exact absurd hm_120 (Nat.not_lt_zero _)
    | succ n_ ih_120 =>
      intro k x c1 t1 cc hk hxN hcc hnn hW hm_120 H locs hP hD hS ls hl
      have J_217 : ∀ (n_ : Nat) (ee : Nat) (sd : Int32) (to_ : Int32) (c2 : Nat → Int32) (t2 : Nat → Int32) (hkn : k < 201) (hxb : ¬ x = bv) (hlt : fnX nr nc (cwP (stC (cel nw 0) (sta nw 0) (fal nw 0) (nw 0) n) nr nc x cc 4) bv x < 100000) (he : ee ≤ 4) (hsd : sd = nI ee - 1) (hc2 : ∀ i, i < nr * nc → c2 i = (cwP (stC (cel nw 0) (sta nw 0) (fal nw 0) (nw 0) n) nr nc x cc 4) i) (hT : ∀ i, i < nr * nc → t2 i = fnX nr nc (cwP (stC (cel nw 0) (sta nw 0) (fal nw 0) (nw 0) n) nr nc x cc 4) bv i) (hto : to_ = toO nr nc (cwP (stC (cel nw 0) (sta nw 0) (fal nw 0) (nw 0) n) nr nc x cc 4) bv x (4 - ee)) (hm_217 : ee < n_), ∀ (H : Heap) (locs : List Loc), va_P G.1 vwCl [(q0, .inr (10, [.ref q1, .int (nI ty), .ref q2, .ref q3, .ref q4, .ref q5, .ref q6, .ref q7, .ref q8, .int (nI dm), .int (nI at_), .int (zb so), .ref q9, .int (nI de), .int (nI ke), .ref q10, .ref q11, .ref q12, .int (nI sm), .ref q13, .ref q14])), (q1, .inl (kB G, 200, .inl tx)), (q2, .inl (kI G, 2, .inl ro)), (q3, .inl (kI G, 2, .inl co)), (q4, .inl (kI G, 2, .inl mp)), (q5, .inl (kI G, 10, .inl my)), (q6, .inl (kI G, 10, .inl md)), (q7, .inl (kI G, 10, .inl mr)), (q8, .inl (kI G, 40, .inl dr)), (q9, .inl (kI G, 504, .inl nw)), (q10, .inl (kI G, 64, .inl t2)), (q11, .inl (kI G, 64, .inl c2)), (q12, .inl (kI G, 12, .inl sa)), (q13, .inl (kI G, 8, .inl go)), (q14, .inl (kI G, 2048, .inl to))] H → va_D A [(q0, .inr (10, [.ref q1, .int (nI ty), .ref q2, .ref q3, .ref q4, .ref q5, .ref q6, .ref q7, .ref q8, .int (nI dm), .int (nI at_), .int (zb so), .ref q9, .int (nI de), .int (nI ke), .ref q10, .ref q11, .ref q12, .int (nI sm), .ref q13, .ref q14])), (q1, .inl (kB G, 200, .inl tx)), (q2, .inl (kI G, 2, .inl ro)), (q3, .inl (kI G, 2, .inl co)), (q4, .inl (kI G, 2, .inl mp)), (q5, .inl (kI G, 10, .inl my)), (q6, .inl (kI G, 10, .inl md)), (q7, .inl (kI G, 10, .inl mr)), (q8, .inl (kI G, 40, .inl dr)), (q9, .inl (kI G, 504, .inl nw)), (q10, .inl (kI G, 64, .inl t2)), (q11, .inl (kI G, 64, .inl c2)), (q12, .inl (kI G, 12, .inl sa)), (q13, .inl (kI G, 8, .inl go)), (q14, .inl (kI G, 2048, .inl to))] → va_S A s.heap H locs → ∀ ls : Array Slot, lv_has ls 13 [(0, .ref q0), (1, .int (nI j)), (2, .int (nI av)), (3, .int (nI bv)), (4, .long (stC (cel nw 0) (sta nw 0) (fal nw 0) (nw 0) n)), (6, .long (swM nr nc nw my md mr n j)), (8, .int (nI x)), (9, .int (nI k)), (10, .int to_), (11, .int sd)] → WC p l e (rmz 3 73) s m [.ref q0, .int (nI j), .int (nI av), .int (nI bv)] below meth c G A (fun v9 w9 => v9 = (some (.int (wdM nr nc (stC (cel nw 0) (sta nw 0) (fal nw 0) (nw 0) n) bv 201 0 (cst (swM nr nc nw my md mr n j) 1 2) av))) ∧ ∃ (tk9 : Nat → Int32) (cs9 : Nat → Int32), w9 = [(q0, .inr (10, [.ref q1, .int (nI ty), .ref q2, .ref q3, .ref q4, .ref q5, .ref q6, .ref q7, .ref q8, .int (nI dm), .int (nI at_), .int (zb so), .ref q9, .int (nI de), .int (nI ke), .ref q10, .ref q11, .ref q12, .int (nI sm), .ref q13, .ref q14])), (q1, .inl (kB G, 200, .inl tx)), (q2, .inl (kI G, 2, .inl ro)), (q3, .inl (kI G, 2, .inl co)), (q4, .inl (kI G, 2, .inl mp)), (q5, .inl (kI G, 10, .inl my)), (q6, .inl (kI G, 10, .inl md)), (q7, .inl (kI G, 10, .inl mr)), (q8, .inl (kI G, 40, .inl dr)), (q9, .inl (kI G, 504, .inl nw)), (q10, .inl (kI G, 64, .inl tk9)), (q11, .inl (kI G, 64, .inl cs9)), (q12, .inl (kI G, 12, .inl sa)), (q13, .inl (kI G, 8, .inl go)), (q14, .inl (kI G, 2048, .inl to))]) H locs 0 0 (F0 m 217 ls []) := by
        intro n_
        induction n_ with
        | zero =>
          intro ee sd to_ c2 t2 hkn hxb hlt he hsd hc2 hT hto hm_217
          exact absurd hm_217 (Nat.not_lt_zero _)
        | succ n_ ih_217 =>
          intro ee sd to_ c2 t2 hkn hxb hlt he hsd hc2 hT hto hm_217 H locs hP hD hS ls hl
          refine lv_iload hx hb dX10_wander_217 (lv_at hl 9 rfl) ?_
          refine lv_if_lt (tgt := 291) hx hb dX10_wander_219 (by decide) (fun c219 => ?_) (fun c219 => ?_)
          · have he0 : ee = 0 := by rcases Nat.eq_zero_or_pos ee with z | z; exact z; rw [hsd, nI_sub1 z] at c219; exact absurd c219 (nI_pos (by omega))
            obtain ⟨x2, hx2, ex2⟩ := toO_ok hg1 hg2 (cwP_nn (stC (cel nw 0) (sta nw 0) (fal nw 0) (nw 0) n) nr nc x hnn 4) hbv hxN hxb hlt
            rw [he0, show 4 - 0 = 4 from rfl, ex2] at hto
            subst hto
            refine lv_iload hx hb dX10_wander_291 (lv_at hl 8 rfl) ?_
            refine lv_istore (lv' := [(8, .int (nI x2)), (0, .ref q0), (1, .int (nI j)), (2, .int (nI av)), (3, .int (nI bv)), (4, .long (stC (cel nw 0) (sta nw 0) (fal nw 0) (nw 0) n)), (6, .long (swM nr nc nw my md mr n j)), (9, .int (nI k)), (10, .int (nI x2)), (11, .int sd)]) hx hb dX10_wander_293 hl (by decide) rfl (fun ls hl => ?_)
            refine lv_iinc (v := nI (k + 1)) (lv' := [(9, .int (nI (k + 1))), (8, .int (nI x2)), (0, .ref q0), (1, .int (nI j)), (2, .int (nI av)), (3, .int (nI bv)), (4, .long (stC (cel nw 0) (sta nw 0) (fal nw 0) (nw 0) n)), (6, .long (swM nr nc nw my md mr n j)), (10, .int (nI x2)), (11, .int sd)]) hx hb dX10_wander_295 hl (k := 7) rfl (nI_1 k) (by decide) rfl (fun ls hl => ?_)
            refine lv_goto (tgt := 120) hx hb dX10_wander_298 (by decide) ?_
            exact ih_120 (k + 1) x2 c2 t2 (cwP (stC (cel nw 0) (sta nw 0) (fal nw 0) (nw 0) n) nr nc x cc 4) (by omega) hx2 hc2 (cwP_nn _ _ _ _ hnn 4) (by rw [hW, show 201 - k = (201 - (k + 1)) + 1 by omega, wdM, if_neg hxb, if_pos hlt, ex2, nI_clamp (by omega)]) (by omega) _ _ hP hD hS ls (lv_sub hl [2, 3, 4, 5, 6, 7, 1, 0] rfl)
          · have he0 : 0 < ee := by rcases Nat.eq_zero_or_pos ee with z | z; (rw [hsd, z] at c219; exact absurd (show nI 0 - 1 < 0 by decide) c219); exact z
            have hs1 : sd = nI (ee - 1) := by rw [hsd, nI_sub1 he0]
            refine lv_aload_n hx hb dX10_wander_222 rfl (lv_at hl 0 rfl) ?_
            refine lv_iload hx hb dX10_wander_223 (lv_at hl 6 rfl) ?_
            refine lv_iload hx hb dX10_wander_225 (lv_at hl 9 rfl) ?_
            refine rd_callV (As := [.int (nI x), .int sd]) (rest := []) hx hb hml hown hts (hE.at0 hS) hl.1 (c_X10_beside l G q0 q1 q2 q3 q4 q5 q6 q7 q8 q9 q10 q11 q12 q13 q14 tx ro co mp my md mr dr nw t2 c2 sa go to ty dm at_ so de ke sm nr nc (nI x) sd (by first | assumption | omega) (by first | assumption | omega) (by first | assumption | omega) (by first | assumption | omega)) (cw_X10_155 hts) ⟨(Nat.le_of_ble_eq_true rfl), (Nat.le_of_ble_eq_true rfl)⟩ ⟨Nat.zero_le _, Nat.zero_le _⟩ rfl (sub_P hP [0, 1, 2, 3, 4, 5, 6, 7, 8, 9, 10, 11, 12, 13, 14] rfl) rfl rfl rfl rfl (Nat.le_of_ble_eq_true rfl) dX10_wander_227 ?_
            refine lv_istore (lv' := [(12, .int (bsM nr nc (nI x) sd)), (0, .ref q0), (1, .int (nI j)), (2, .int (nI av)), (3, .int (nI bv)), (4, .long (stC (cel nw 0) (sta nw 0) (fal nw 0) (nw 0) n)), (6, .long (swM nr nc nw my md mr n j)), (8, .int (nI x)), (9, .int (nI k)), (10, .int to_), (11, .int sd)]) hx hb dX10_wander_230 hl (by decide) rfl (fun ls hl => ?_)
            refine lv_iload hx hb dX10_wander_232 (lv_at hl 0 rfl) ?_
            refine lv_bipush (v := -4) hx hb dX10_wander_234 (by decide) ?_
            refine lv_icmp_eq (tgt := 281) hx hb dX10_wander_236 (by decide) (fun c236 => ?_) (fun c236 => ?_)
            · refine lv_iload hx hb dX10_wander_281 (lv_at hl 9 rfl) ?_
              refine lv_istore (lv' := [(10, .int to_), (12, .int (bsM nr nc (nI x) sd)), (0, .ref q0), (1, .int (nI j)), (2, .int (nI av)), (3, .int (nI bv)), (4, .long (stC (cel nw 0) (sta nw 0) (fal nw 0) (nw 0) n)), (6, .long (swM nr nc nw my md mr n j)), (8, .int (nI x)), (9, .int (nI k)), (11, .int sd)]) hx hb dX10_wander_283 hl (by decide) rfl (fun ls hl => ?_)
              refine lv_iinc (v := sd + (-1)) (lv' := [(11, .int (sd + (-1))), (10, .int to_), (12, .int (bsM nr nc (nI x) sd)), (0, .ref q0), (1, .int (nI j)), (2, .int (nI av)), (3, .int (nI bv)), (4, .long (stC (cel nw 0) (sta nw 0) (fal nw 0) (nw 0) n)), (6, .long (swM nr nc nw my md mr n j)), (8, .int (nI x)), (9, .int (nI k))]) hx hb dX10_wander_285 hl (k := 10) rfl rfl (by decide) rfl (fun ls hl => ?_)
              refine lv_goto (tgt := 217) hx hb dX10_wander_288 (by decide) ?_
              exact ih_217 (ee - 1) (sd + (-1)) to_ c2 t2 (by first | assumption | omega | rfl) (by first | assumption | omega | rfl) hlt (by omega) (by rw [hsd]; exact m1e he0) hc2 hT (by rw [show 4 - (ee - 1) = (4 - ee) + 1 by omega, toO_s, ← hto, show 3 - (4 - ee) = ee - 1 by omega, ← hs1]; simp [toB, c219, c236]) (by omega) _ _ hP hD hS ls (lv_sub hl [3, 4, 5, 6, 7, 8, 9, 10, 1, 0] rfl)
            · obtain ⟨y, hy, ej⟩ := bsM_in hg1 hg2 c236
              have ec : c2 (bsM nr nc (nI x) sd).toNatClampNeg = (cwP (stC (cel nw 0) (sta nw 0) (fal nw 0) (nw 0) n) nr nc x cc 4) (bsM nr nc (nI x) sd).toNatClampNeg := hc2 _ (by rw [ej, nI_clamp (by omega)]; exact hy)
              have ey : t2 (bsM nr nc (nI x) sd).toNatClampNeg = fnX nr nc (cwP (stC (cel nw 0) (sta nw 0) (fal nw 0) (nw 0) n) nr nc x cc 4) bv (bsM nr nc (nI x) sd).toNatClampNeg := hT _ (by rw [ej, nI_clamp (by omega)]; exact hy)
              refine lv_aload_n hx hb dX10_wander_239 rfl (lv_at hl 1 rfl) ?_
              refine va_get hx hb hts inlX10 hown hE.1 hP 0 rfl rfl 16 (by decide) (fl_X10_41 hts) (fun _ h9 => h9) rfl dX10_wander_240 ?_
              refine lv_iload hx hb dX10_wander_243 (lv_at hl 0 rfl) ?_
              refine va_iald hx hb hE.1 hP 11 0 rfl rfl (by rw [ej]; exact vp_in_nI (by omega) (by omega)) dX10_wander_245 ?_
              refine lv_ldc hx hb hown (cn_X10_57 hts) dX10_wander_246 ?_
              refine lv_icmp_ge (tgt := 281) hx hb dX10_wander_248 (by decide) (fun c248 => ?_) (fun c248 => ?_)
              · rw [ec] at c248
                refine lv_iload hx hb dX10_wander_281 (lv_at hl 9 rfl) ?_
                refine lv_istore (lv' := [(10, .int to_), (12, .int (bsM nr nc (nI x) sd)), (0, .ref q0), (1, .int (nI j)), (2, .int (nI av)), (3, .int (nI bv)), (4, .long (stC (cel nw 0) (sta nw 0) (fal nw 0) (nw 0) n)), (6, .long (swM nr nc nw my md mr n j)), (8, .int (nI x)), (9, .int (nI k)), (11, .int sd)]) hx hb dX10_wander_283 hl (by decide) rfl (fun ls hl => ?_)
                refine lv_iinc (v := sd + (-1)) (lv' := [(11, .int (sd + (-1))), (10, .int to_), (12, .int (bsM nr nc (nI x) sd)), (0, .ref q0), (1, .int (nI j)), (2, .int (nI av)), (3, .int (nI bv)), (4, .long (stC (cel nw 0) (sta nw 0) (fal nw 0) (nw 0) n)), (6, .long (swM nr nc nw my md mr n j)), (8, .int (nI x)), (9, .int (nI k))]) hx hb dX10_wander_285 hl (k := 10) rfl rfl (by decide) rfl (fun ls hl => ?_)
                refine lv_goto (tgt := 217) hx hb dX10_wander_288 (by decide) ?_
                exact ih_217 (ee - 1) (sd + (-1)) to_ c2 t2 (by first | assumption | omega | rfl) (by first | assumption | omega | rfl) hlt (by omega) (by rw [hsd]; exact m1e he0) hc2 hT (by rw [show 4 - (ee - 1) = (4 - ee) + 1 by omega, toO_s, ← hto, show 3 - (4 - ee) = ee - 1 by omega, ← hs1]; simp [toB, c219, c236, c248]) (by omega) _ _ hP hD hS ls (lv_sub hl [3, 4, 5, 6, 7, 8, 9, 10, 1, 0] rfl)
              · rw [ec] at c248
                refine lv_aload_n hx hb dX10_wander_251 rfl (lv_at hl 1 rfl) ?_
                refine va_get hx hb hts inlX10 hown hE.1 hP 0 rfl rfl 16 (by decide) (fl_X10_41 hts) (fun _ h9 => h9) rfl dX10_wander_252 ?_
                refine lv_iload hx hb dX10_wander_255 (lv_at hl 0 rfl) ?_
                refine va_iald hx hb hE.1 hP 11 0 rfl rfl (by rw [ej]; exact vp_in_nI (by omega) (by omega)) dX10_wander_257 ?_
                refine lv_aload_n hx hb dX10_wander_258 rfl (lv_at hl 1 rfl) ?_
                refine va_get hx hb hts inlX10 hown hE.1 hP 0 rfl rfl 15 (by decide) (fl_X10_38 hts) (fun _ h9 => h9) rfl dX10_wander_259 ?_
                refine lv_iload hx hb dX10_wander_262 (lv_at hl 0 rfl) ?_
                refine va_iald hx hb hE.1 hP 10 0 rfl rfl (by rw [ej]; exact vp_in_nI (by omega) (by omega)) dX10_wander_264 ?_
                refine lv_iadd hx hb dX10_wander_265 ?_
                refine lv_aload_n hx hb dX10_wander_266 rfl (lv_at hl 1 rfl) ?_
                refine va_get hx hb hts inlX10 hown hE.1 hP 0 rfl rfl 15 (by decide) (fl_X10_38 hts) (fun _ h9 => h9) rfl dX10_wander_267 ?_
                refine lv_iload hx hb dX10_wander_270 (lv_at hl 7 rfl) ?_
                refine va_iald hx hb hE.1 hP 10 0 rfl rfl (vp_in_nI (by omega) (by omega)) dX10_wander_272 ?_
                rw [nI_clamp (show x < 2 ^ 31 by omega)]
                refine lv_icmp_ne (tgt := 281) hx hb dX10_wander_273 (by decide) (fun c273 => ?_) (fun c273 => ?_)
                · rw [ec, ey, hT _ hxN] at c273
                  refine lv_iload hx hb dX10_wander_281 (lv_at hl 9 rfl) ?_
                  refine lv_istore (lv' := [(10, .int to_), (12, .int (bsM nr nc (nI x) sd)), (0, .ref q0), (1, .int (nI j)), (2, .int (nI av)), (3, .int (nI bv)), (4, .long (stC (cel nw 0) (sta nw 0) (fal nw 0) (nw 0) n)), (6, .long (swM nr nc nw my md mr n j)), (8, .int (nI x)), (9, .int (nI k)), (11, .int sd)]) hx hb dX10_wander_283 hl (by decide) rfl (fun ls hl => ?_)
                  refine lv_iinc (v := sd + (-1)) (lv' := [(11, .int (sd + (-1))), (10, .int to_), (12, .int (bsM nr nc (nI x) sd)), (0, .ref q0), (1, .int (nI j)), (2, .int (nI av)), (3, .int (nI bv)), (4, .long (stC (cel nw 0) (sta nw 0) (fal nw 0) (nw 0) n)), (6, .long (swM nr nc nw my md mr n j)), (8, .int (nI x)), (9, .int (nI k))]) hx hb dX10_wander_285 hl (k := 10) rfl rfl (by decide) rfl (fun ls hl => ?_)
                  refine lv_goto (tgt := 217) hx hb dX10_wander_288 (by decide) ?_
                  exact ih_217 (ee - 1) (sd + (-1)) to_ c2 t2 (by first | assumption | omega | rfl) (by first | assumption | omega | rfl) hlt (by omega) (by rw [hsd]; exact m1e he0) hc2 hT (by rw [show 4 - (ee - 1) = (4 - ee) + 1 by omega, toO_s, ← hto, show 3 - (4 - ee) = ee - 1 by omega, ← hs1]; simp [toB, c219, c236, c248, c273]) (by omega) _ _ hP hD hS ls (lv_sub hl [3, 4, 5, 6, 7, 8, 9, 10, 1, 0] rfl)
                · rw [ec, ey, hT _ hxN] at c273
                  refine lv_iload hx hb dX10_wander_276 (lv_at hl 0 rfl) ?_
                  refine lv_goto (tgt := 283) hx hb dX10_wander_278 (by decide) ?_
                  refine lv_istore (lv' := [(10, .int (bsM nr nc (nI x) sd)), (12, .int (bsM nr nc (nI x) sd)), (0, .ref q0), (1, .int (nI j)), (2, .int (nI av)), (3, .int (nI bv)), (4, .long (stC (cel nw 0) (sta nw 0) (fal nw 0) (nw 0) n)), (6, .long (swM nr nc nw my md mr n j)), (8, .int (nI x)), (9, .int (nI k)), (11, .int sd)]) hx hb dX10_wander_283 hl (by decide) rfl (fun ls hl => ?_)
                  refine lv_iinc (v := sd + (-1)) (lv' := [(11, .int (sd + (-1))), (10, .int (bsM nr nc (nI x) sd)), (12, .int (bsM nr nc (nI x) sd)), (0, .ref q0), (1, .int (nI j)), (2, .int (nI av)), (3, .int (nI bv)), (4, .long (stC (cel nw 0) (sta nw 0) (fal nw 0) (nw 0) n)), (6, .long (swM nr nc nw my md mr n j)), (8, .int (nI x)), (9, .int (nI k))]) hx hb dX10_wander_285 hl (k := 10) rfl rfl (by decide) rfl (fun ls hl => ?_)
                  refine lv_goto (tgt := 217) hx hb dX10_wander_288 (by decide) ?_
                  exact ih_217 (ee - 1) (sd + (-1)) (bsM nr nc (nI x) sd) c2 t2 (by first | assumption | omega | rfl) (by first | assumption | omega | rfl) hlt (by omega) (by rw [hsd]; exact m1e he0) hc2 hT (by rw [show 4 - (ee - 1) = (4 - ee) + 1 by omega, toO_s, ← hto, show 3 - (4 - ee) = ee - 1 by omega, ← hs1]; simp [toB, c219, c236, c248, c273]) (by omega) _ _ hP hD hS ls (lv_sub hl [3, 4, 5, 6, 7, 8, 9, 10, 1, 0] rfl)
      have J_140 : ∀ (n_ : Nat) (d : Nat) (c2 : Nat → Int32) (hkn : k < 201) (hxb : ¬ x = bv) (hd : d ≤ 4) (hc : c2 = cwP (stC (cel nw 0) (sta nw 0) (fal nw 0) (nw 0) n) nr nc x c1 d) (hm_140 : 4 - d < n_), ∀ (H : Heap) (locs : List Loc), va_P G.1 vwCl [(q0, .inr (10, [.ref q1, .int (nI ty), .ref q2, .ref q3, .ref q4, .ref q5, .ref q6, .ref q7, .ref q8, .int (nI dm), .int (nI at_), .int (zb so), .ref q9, .int (nI de), .int (nI ke), .ref q10, .ref q11, .ref q12, .int (nI sm), .ref q13, .ref q14])), (q1, .inl (kB G, 200, .inl tx)), (q2, .inl (kI G, 2, .inl ro)), (q3, .inl (kI G, 2, .inl co)), (q4, .inl (kI G, 2, .inl mp)), (q5, .inl (kI G, 10, .inl my)), (q6, .inl (kI G, 10, .inl md)), (q7, .inl (kI G, 10, .inl mr)), (q8, .inl (kI G, 40, .inl dr)), (q9, .inl (kI G, 504, .inl nw)), (q10, .inl (kI G, 64, .inl t1)), (q11, .inl (kI G, 64, .inl c2)), (q12, .inl (kI G, 12, .inl sa)), (q13, .inl (kI G, 8, .inl go)), (q14, .inl (kI G, 2048, .inl to))] H → va_D A [(q0, .inr (10, [.ref q1, .int (nI ty), .ref q2, .ref q3, .ref q4, .ref q5, .ref q6, .ref q7, .ref q8, .int (nI dm), .int (nI at_), .int (zb so), .ref q9, .int (nI de), .int (nI ke), .ref q10, .ref q11, .ref q12, .int (nI sm), .ref q13, .ref q14])), (q1, .inl (kB G, 200, .inl tx)), (q2, .inl (kI G, 2, .inl ro)), (q3, .inl (kI G, 2, .inl co)), (q4, .inl (kI G, 2, .inl mp)), (q5, .inl (kI G, 10, .inl my)), (q6, .inl (kI G, 10, .inl md)), (q7, .inl (kI G, 10, .inl mr)), (q8, .inl (kI G, 40, .inl dr)), (q9, .inl (kI G, 504, .inl nw)), (q10, .inl (kI G, 64, .inl t1)), (q11, .inl (kI G, 64, .inl c2)), (q12, .inl (kI G, 12, .inl sa)), (q13, .inl (kI G, 8, .inl go)), (q14, .inl (kI G, 2048, .inl to))] → va_S A s.heap H locs → ∀ ls : Array Slot, lv_has ls 13 [(0, .ref q0), (1, .int (nI j)), (2, .int (nI av)), (3, .int (nI bv)), (4, .long (stC (cel nw 0) (sta nw 0) (fal nw 0) (nw 0) n)), (6, .long (swM nr nc nw my md mr n j)), (8, .int (nI x)), (9, .int (nI k)), (10, .int (nI d))] → WC p l e (rmz 3 73) s m [.ref q0, .int (nI j), .int (nI av), .int (nI bv)] below meth c G A (fun v9 w9 => v9 = (some (.int (wdM nr nc (stC (cel nw 0) (sta nw 0) (fal nw 0) (nw 0) n) bv 201 0 (cst (swM nr nc nw my md mr n j) 1 2) av))) ∧ ∃ (tk9 : Nat → Int32) (cs9 : Nat → Int32), w9 = [(q0, .inr (10, [.ref q1, .int (nI ty), .ref q2, .ref q3, .ref q4, .ref q5, .ref q6, .ref q7, .ref q8, .int (nI dm), .int (nI at_), .int (zb so), .ref q9, .int (nI de), .int (nI ke), .ref q10, .ref q11, .ref q12, .int (nI sm), .ref q13, .ref q14])), (q1, .inl (kB G, 200, .inl tx)), (q2, .inl (kI G, 2, .inl ro)), (q3, .inl (kI G, 2, .inl co)), (q4, .inl (kI G, 2, .inl mp)), (q5, .inl (kI G, 10, .inl my)), (q6, .inl (kI G, 10, .inl md)), (q7, .inl (kI G, 10, .inl mr)), (q8, .inl (kI G, 40, .inl dr)), (q9, .inl (kI G, 504, .inl nw)), (q10, .inl (kI G, 64, .inl tk9)), (q11, .inl (kI G, 64, .inl cs9)), (q12, .inl (kI G, 12, .inl sa)), (q13, .inl (kI G, 8, .inl go)), (q14, .inl (kI G, 2048, .inl to))]) H locs 0 0 (F0 m 140 ls []) := by
        intro n_
        induction n_ with
        | zero =>
          intro d c2 hkn hxb hd hc hm_140
          exact absurd hm_140 (Nat.not_lt_zero _)
        | succ n_ ih_140 =>
          intro d c2 hkn hxb hd hc hm_140 H locs hP hD hS ls hl
          refine lv_iload hx hb dX10_wander_140 (lv_at hl 8 rfl) ?_
          refine lv_iconst (v := 4) hx hb dX10_wander_142 (by decide) ?_
          refine lv_icmp_ge (tgt := 190) hx hb dX10_wander_143 (by decide) (fun c143 => ?_) (fun c143 => ?_)
          · have hdn : 4 ≤ d := le_of_le (n := 4) (by omega) (by omega) c143
            have hc9 : ∀ i, i < nr * nc → c2 i = (cwP (stC (cel nw 0) (sta nw 0) (fal nw 0) (nw 0) n) nr nc x cc 4) i := by intro i hi; rw [hc, show d = 4 by omega]; exact cwP_cong _ _ _ _ hcc 4 i hi
            refine lv_aload_n hx hb dX10_wander_190 rfl (lv_at hl 0 rfl) ?_
            refine lv_iload_n hx hb dX10_wander_191 rfl (lv_at hl 3 rfl) ?_
            refine ct_callV (w1 := [(q0, .inr (10, [.ref q1, .int (nI ty), .ref q2, .ref q3, .ref q4, .ref q5, .ref q6, .ref q7, .ref q8, .int (nI dm), .int (nI at_), .int (zb so), .ref q9, .int (nI de), .int (nI ke), .ref q10, .ref q11, .ref q12, .int (nI sm), .ref q13, .ref q14])), (q1, .inl (kB G, 200, .inl tx)), (q2, .inl (kI G, 2, .inl ro)), (q3, .inl (kI G, 2, .inl co)), (q4, .inl (kI G, 2, .inl mp)), (q5, .inl (kI G, 10, .inl my)), (q6, .inl (kI G, 10, .inl md)), (q7, .inl (kI G, 10, .inl mr)), (q8, .inl (kI G, 40, .inl dr)), (q9, .inl (kI G, 504, .inl nw)), (q10, .inl (kI G, 64, .inl (fnL c2 nr nc fuF (fiI t1 (nI bv) (nr * nc))))), (q11, .inl (kI G, 64, .inl c2)), (q12, .inl (kI G, 12, .inl sa)), (q13, .inl (kI G, 8, .inl go)), (q14, .inl (kI G, 2048, .inl to))]) (wr := []) (wn := [(q0, .inr (10, [.ref q1, .int (nI ty), .ref q2, .ref q3, .ref q4, .ref q5, .ref q6, .ref q7, .ref q8, .int (nI dm), .int (nI at_), .int (zb so), .ref q9, .int (nI de), .int (nI ke), .ref q10, .ref q11, .ref q12, .int (nI sm), .ref q13, .ref q14])), (q1, .inl (kB G, 200, .inl tx)), (q2, .inl (kI G, 2, .inl ro)), (q3, .inl (kI G, 2, .inl co)), (q4, .inl (kI G, 2, .inl mp)), (q5, .inl (kI G, 10, .inl my)), (q6, .inl (kI G, 10, .inl md)), (q7, .inl (kI G, 10, .inl mr)), (q8, .inl (kI G, 40, .inl dr)), (q9, .inl (kI G, 504, .inl nw)), (q10, .inl (kI G, 64, .inl (fnL c2 nr nc fuF (fiI t1 (nI bv) (nr * nc))))), (q11, .inl (kI G, 64, .inl c2)), (q12, .inl (kI G, 12, .inl sa)), (q13, .inl (kI G, 8, .inl go)), (q14, .inl (kI G, 2048, .inl to))]) (As := [.int (nI bv)]) (rest := []) hx hb hml hown hts hE hA hl.1 hP hD hS (c_X10_findTo l G q0 q1 q2 q3 q4 q5 q6 q7 q8 q9 q10 q11 q12 q13 q14 tx ro co mp my md mr dr nw t1 c2 sa go to ty dm at_ so de ke sm nr nc (nI bv) (by first | assumption | omega) (by first | assumption | omega) (by first | assumption | omega) (by first | assumption | omega) (nnT_cong hc9 (cwP_nn _ _ _ _ hnn 4))) (cw_X10_159 hts) ⟨(Nat.le_of_ble_eq_true rfl), (Nat.le_of_ble_eq_true rfl)⟩ ⟨(Nat.le_of_ble_eq_true rfl), (Nat.le_of_ble_eq_true rfl)⟩ rfl [0, 1, 2, 3, 4, 5, 6, 7, 8, 9, 10, 11, 12, 13, 14] [] [0, 1, 2, 3, 4, 5, 6, 7, 8, 9, 10, 11, 12, 13, 14] rfl rfl ⟨by decide, by decide, by decide, by decide⟩ rfl rfl rfl rfl rfl (Nat.le_of_ble_eq_true rfl) dX10_wander_192 (fun H locs hP hD hS => ?_)
            show WC p l e _ s m _ below meth c G A _ H locs 0 0 (F0 m 195 ls [])
            refine lv_aload_n hx hb dX10_wander_195 rfl (lv_at hl 0 rfl) ?_
            refine va_get hx hb hts inlX10 hown hE.1 hP 0 rfl rfl 15 (by decide) (fl_X10_38 hts) (fun _ h9 => h9) rfl dX10_wander_196 ?_
            refine lv_iload hx hb dX10_wander_199 (lv_at hl 6 rfl) ?_
            refine va_iald hx hb hE.1 hP 10 0 rfl rfl (vp_in_nI (by omega) (by omega)) dX10_wander_201 ?_
            rw [show ((fnL c2 nr nc fuF (fiI t1 (nI bv) (nr * nc))) (nI x).toNatClampNeg) = fnX nr nc (cwP (stC (cel nw 0) (sta nw 0) (fal nw 0) (nw 0) n) nr nc x cc 4) bv x from by rw [nI_clamp (by omega)]; exact fnL_of hg1 hg2 hc9 t1 bv hxN]
            refine lv_ldc hx hb hown (cn_X10_57 hts) dX10_wander_202 ?_
            refine lv_icmp_lt (tgt := 210) hx hb dX10_wander_204 (by decide) (fun c204 => ?_) (fun c204 => ?_)
            · refine lv_bipush (v := -4) hx hb dX10_wander_210 (by decide) ?_
              refine lv_istore (lv' := [(10, .int (-4)), (0, .ref q0), (1, .int (nI j)), (2, .int (nI av)), (3, .int (nI bv)), (4, .long (stC (cel nw 0) (sta nw 0) (fal nw 0) (nw 0) n)), (6, .long (swM nr nc nw my md mr n j)), (8, .int (nI x)), (9, .int (nI k))]) hx hb dX10_wander_212 hl (by decide) rfl (fun ls hl => ?_)
              refine lv_iconst (v := 3) hx hb dX10_wander_214 (by decide) ?_
              refine lv_istore (lv' := [(11, .int 3), (10, .int (-4)), (0, .ref q0), (1, .int (nI j)), (2, .int (nI av)), (3, .int (nI bv)), (4, .long (stC (cel nw 0) (sta nw 0) (fal nw 0) (nw 0) n)), (6, .long (swM nr nc nw my md mr n j)), (8, .int (nI x)), (9, .int (nI k))]) hx hb dX10_wander_215 hl (by decide) rfl (fun ls hl => ?_)
              exact J_217 (4 + 1) 4 3 (-4) c2 (fnL c2 nr nc fuF (fiI t1 (nI bv) (nr * nc))) (by first | assumption | omega | rfl) (by first | assumption | omega | rfl) c204 (by omega) (by decide) hc9 (fun i hi => fnL_of hg1 hg2 hc9 t1 bv hi) rfl (Nat.lt_succ_self _) _ _ hP hD hS ls (lv_sub hl [2, 3, 4, 5, 6, 7, 8, 9, 1, 0] rfl)
            · refine lv_bipush (v := -4) hx hb dX10_wander_207 (by decide) ?_
              exact ct_iret hx hb hr hlk dX10_wander_209 hP hD hS (by exact ⟨by rw [hW, show 201 - k = (201 - (k + 1)) + 1 by omega, wdM, if_neg hxb, if_neg c204], _, _, rfl⟩)
          · have hdn : d < 4 := lt_of_nle (n := 4) (by omega) (by omega) c143
            refine lv_aload_n hx hb dX10_wander_146 rfl (lv_at hl 0 rfl) ?_
            refine lv_iload hx hb dX10_wander_147 (lv_at hl 6 rfl) ?_
            refine lv_iload hx hb dX10_wander_149 (lv_at hl 8 rfl) ?_
            refine rd_callV (As := [.int (nI x), .int (nI d)]) (rest := []) hx hb hml hown hts (hE.at0 hS) hl.1 (c_X10_beside l G q0 q1 q2 q3 q4 q5 q6 q7 q8 q9 q10 q11 q12 q13 q14 tx ro co mp my md mr dr nw t1 c2 sa go to ty dm at_ so de ke sm nr nc (nI x) (nI d) (by first | assumption | omega) (by first | assumption | omega) (by first | assumption | omega) (by first | assumption | omega)) (cw_X10_155 hts) ⟨(Nat.le_of_ble_eq_true rfl), (Nat.le_of_ble_eq_true rfl)⟩ ⟨Nat.zero_le _, Nat.zero_le _⟩ rfl (sub_P hP [0, 1, 2, 3, 4, 5, 6, 7, 8, 9, 10, 11, 12, 13, 14] rfl) rfl rfl rfl rfl (Nat.le_of_ble_eq_true rfl) dX10_wander_151 ?_
            refine lv_istore (lv' := [(11, .int (bsM nr nc (nI x) (nI d))), (0, .ref q0), (1, .int (nI j)), (2, .int (nI av)), (3, .int (nI bv)), (4, .long (stC (cel nw 0) (sta nw 0) (fal nw 0) (nw 0) n)), (6, .long (swM nr nc nw my md mr n j)), (8, .int (nI x)), (9, .int (nI k)), (10, .int (nI d))]) hx hb dX10_wander_154 hl (by decide) rfl (fun ls hl => ?_)
            refine lv_iload hx hb dX10_wander_156 (lv_at hl 0 rfl) ?_
            refine lv_bipush (v := -4) hx hb dX10_wander_158 (by decide) ?_
            refine lv_icmp_eq (tgt := 184) hx hb dX10_wander_160 (by decide) (fun c160 => ?_) (fun c160 => ?_)
            · refine lv_iinc (v := nI (d + 1)) (lv' := [(10, .int (nI (d + 1))), (11, .int (bsM nr nc (nI x) (nI d))), (0, .ref q0), (1, .int (nI j)), (2, .int (nI av)), (3, .int (nI bv)), (4, .long (stC (cel nw 0) (sta nw 0) (fal nw 0) (nw 0) n)), (6, .long (swM nr nc nw my md mr n j)), (8, .int (nI x)), (9, .int (nI k))]) hx hb dX10_wander_184 hl (k := 9) rfl (nI_1 d) (by decide) rfl (fun ls hl => ?_)
              refine lv_goto (tgt := 140) hx hb dX10_wander_187 (by decide) ?_
              exact ih_140 (d + 1) c2 (by first | assumption | omega | rfl) hxb (by omega) (by rw [cwP_s, ← hc, cwO]; simp [c143, c160]) (by omega) _ _ hP hD hS ls (lv_sub hl [2, 3, 4, 5, 6, 7, 8, 9, 0] rfl)
            · obtain ⟨y, hy, ej⟩ := bsM_in hg1 hg2 c160
              refine lv_lload hx hb dX10_wander_163 (lv_at hl 5 rfl) ?_
              refine lv_iload hx hb dX10_wander_165 (lv_at hl 0 rfl) ?_
              refine lv_lshr hx hb dX10_wander_167 rfl ?_
              refine lv_lconst (v := 1) hx hb dX10_wander_168 (by decide) ?_
              refine lv_land hx hb dX10_wander_169 ?_
              refine lv_lconst (v := 1) hx hb dX10_wander_170 (by decide) ?_
              refine W.lcmp hx hb dX10_wander_171 ?_
              refine lv_if_ne (tgt := 184) hx hb dX10_wander_172 (by decide) (fun c172 => ?_) (fun c172 => ?_)
              · have c172 := lgc_ne.mp c172
                have c172 : hsN (stC (cel nw 0) (sta nw 0) (fal nw 0) (nw 0) n) (bsM nr nc (nI x) (nI d)) = false := by simp [hsN, c172]
                refine lv_iinc (v := nI (d + 1)) (lv' := [(10, .int (nI (d + 1))), (11, .int (bsM nr nc (nI x) (nI d))), (0, .ref q0), (1, .int (nI j)), (2, .int (nI av)), (3, .int (nI bv)), (4, .long (stC (cel nw 0) (sta nw 0) (fal nw 0) (nw 0) n)), (6, .long (swM nr nc nw my md mr n j)), (8, .int (nI x)), (9, .int (nI k))]) hx hb dX10_wander_184 hl (k := 9) rfl (nI_1 d) (by decide) rfl (fun ls hl => ?_)
                refine lv_goto (tgt := 140) hx hb dX10_wander_187 (by decide) ?_
                exact ih_140 (d + 1) c2 (by first | assumption | omega | rfl) hxb (by omega) (by rw [cwP_s, ← hc, cwO]; simp [c143, c160, c172]) (by omega) _ _ hP hD hS ls (lv_sub hl [2, 3, 4, 5, 6, 7, 8, 9, 0] rfl)
              · have c172 := lgc_eq.mp c172
                have c172 : hsN (stC (cel nw 0) (sta nw 0) (fal nw 0) (nw 0) n) (bsM nr nc (nI x) (nI d)) = true := by simp [hsN, c172]
                refine lv_aload_n hx hb dX10_wander_175 rfl (lv_at hl 1 rfl) ?_
                refine va_get hx hb hts inlX10 hown hE.1 hP 0 rfl rfl 16 (by decide) (fl_X10_41 hts) (fun _ h9 => h9) rfl dX10_wander_176 ?_
                refine lv_iload hx hb dX10_wander_179 (lv_at hl 0 rfl) ?_
                refine lv_ldc hx hb hown (cn_X10_57 hts) dX10_wander_181 ?_
                refine va_iast hx hb hE.1 hP hD hS 11 0 rfl rfl (by rw [ej]; exact vp_in_nI (by omega) (by omega)) dX10_wander_183 (fun H locs hP hD hS => ?_)
                have hP : va_P G.1 vwCl [(q0, .inr (10, [.ref q1, .int (nI ty), .ref q2, .ref q3, .ref q4, .ref q5, .ref q6, .ref q7, .ref q8, .int (nI dm), .int (nI at_), .int (zb so), .ref q9, .int (nI de), .int (nI ke), .ref q10, .ref q11, .ref q12, .int (nI sm), .ref q13, .ref q14])), (q1, .inl (kB G, 200, .inl tx)), (q2, .inl (kI G, 2, .inl ro)), (q3, .inl (kI G, 2, .inl co)), (q4, .inl (kI G, 2, .inl mp)), (q5, .inl (kI G, 10, .inl my)), (q6, .inl (kI G, 10, .inl md)), (q7, .inl (kI G, 10, .inl mr)), (q8, .inl (kI G, 40, .inl dr)), (q9, .inl (kI G, 504, .inl nw)), (q10, .inl (kI G, 64, .inl t1)), (q11, .inl (kI G, 64, .inl (upd c2 (bsM nr nc (nI x) (nI d)).toNatClampNeg 100000))), (q12, .inl (kI G, 12, .inl sa)), (q13, .inl (kI G, 8, .inl go)), (q14, .inl (kI G, 2048, .inl to))] H := hP
                have hD : va_D A [(q0, .inr (10, [.ref q1, .int (nI ty), .ref q2, .ref q3, .ref q4, .ref q5, .ref q6, .ref q7, .ref q8, .int (nI dm), .int (nI at_), .int (zb so), .ref q9, .int (nI de), .int (nI ke), .ref q10, .ref q11, .ref q12, .int (nI sm), .ref q13, .ref q14])), (q1, .inl (kB G, 200, .inl tx)), (q2, .inl (kI G, 2, .inl ro)), (q3, .inl (kI G, 2, .inl co)), (q4, .inl (kI G, 2, .inl mp)), (q5, .inl (kI G, 10, .inl my)), (q6, .inl (kI G, 10, .inl md)), (q7, .inl (kI G, 10, .inl mr)), (q8, .inl (kI G, 40, .inl dr)), (q9, .inl (kI G, 504, .inl nw)), (q10, .inl (kI G, 64, .inl t1)), (q11, .inl (kI G, 64, .inl (upd c2 (bsM nr nc (nI x) (nI d)).toNatClampNeg 100000))), (q12, .inl (kI G, 12, .inl sa)), (q13, .inl (kI G, 8, .inl go)), (q14, .inl (kI G, 2048, .inl to))] := hD
                refine lv_iinc (v := nI (d + 1)) (lv' := [(10, .int (nI (d + 1))), (11, .int (bsM nr nc (nI x) (nI d))), (0, .ref q0), (1, .int (nI j)), (2, .int (nI av)), (3, .int (nI bv)), (4, .long (stC (cel nw 0) (sta nw 0) (fal nw 0) (nw 0) n)), (6, .long (swM nr nc nw my md mr n j)), (8, .int (nI x)), (9, .int (nI k))]) hx hb dX10_wander_184 hl (k := 9) rfl (nI_1 d) (by decide) rfl (fun ls hl => ?_)
                refine lv_goto (tgt := 140) hx hb dX10_wander_187 (by decide) ?_
                exact ih_140 (d + 1) (upd c2 (bsM nr nc (nI x) (nI d)).toNatClampNeg 100000) (by first | assumption | omega | rfl) hxb (by omega) (by rw [cwP_s, ← hc, cwO]; simp [c143, c160, c172]) (by omega) _ _ hP hD hS ls (lv_sub hl [2, 3, 4, 5, 6, 7, 8, 9, 0] rfl)
      refine lv_iload hx hb dX10_wander_120 (lv_at hl 7 rfl) ?_
      refine lv_sipush (v := 200) hx hb dX10_wander_122 (by decide) ?_
      refine lv_icmp_gt (tgt := 301) hx hb dX10_wander_125 (by decide) (fun c125 => ?_) (fun c125 => ?_)
      · have hZ : wdM nr nc (stC (cel nw 0) (sta nw 0) (fal nw 0) (nw 0) n) bv 201 0 (cst (swM nr nc nw my md mr n j) 1 2) av = -4 := by rw [hW, show 201 - k = 0 by have := gt_of_nI (a := 200) (b := k) (by omega) (by omega) c125; omega]; rfl
        refine lv_bipush (v := -4) hx hb dX10_wander_301 (by decide) ?_
        exact ct_iret hx hb hr hlk dX10_wander_303 hP hD hS (by exact ⟨by rw [hZ], _, _, rfl⟩)
      · have hkn : k < 201 := by have := ngt_of_nI (a := 200) (b := k) (by omega) (by omega) c125; omega
        refine lv_iload hx hb dX10_wander_128 (lv_at hl 6 rfl) ?_
        refine lv_iload_n hx hb dX10_wander_130 rfl (lv_at hl 3 rfl) ?_
        refine lv_icmp_ne (tgt := 137) hx hb dX10_wander_131 (by decide) (fun c131 => ?_) (fun c131 => ?_)
        · have c131 : ¬ x = bv := fun z => c131 (by rw [z])
          refine lv_iconst (v := 0) hx hb dX10_wander_137 (by decide) ?_
          refine lv_istore (lv' := [(10, .int 0), (0, .ref q0), (1, .int (nI j)), (2, .int (nI av)), (3, .int (nI bv)), (4, .long (stC (cel nw 0) (sta nw 0) (fal nw 0) (nw 0) n)), (6, .long (swM nr nc nw my md mr n j)), (8, .int (nI x)), (9, .int (nI k))]) hx hb dX10_wander_138 hl (by decide) rfl (fun ls hl => ?_)
          exact J_140 (4 - 0 + 1) 0 c1 (by first | assumption | omega | rfl) c131 (by omega) rfl (Nat.lt_succ_self _) _ _ hP hD hS ls (lv_sub hl [1, 2, 3, 4, 5, 6, 7, 8, 0] rfl)
        · have c131 : x = bv := (nI_eq (by omega) (by omega)).mp c131
          refine lv_iload hx hb dX10_wander_134 (lv_at hl 7 rfl) ?_
          exact ct_iret hx hb hr hlk dX10_wander_136 hP hD hS (by exact ⟨by rw [hW, show 201 - k = (201 - (k + 1)) + 1 by omega, wdM, if_pos c131], _, _, rfl⟩)
  have J_74 : ∀ (n_ : Nat) (k : Nat) (c1 : Nat → Int32) (hk : k ≤ nr * nc) (ha : c1 = csI (swM nr nc nw my md mr n j) 1 2 cs k) (hm_74 : nr * nc - k < n_), ∀ (H : Heap) (locs : List Loc), va_P G.1 vwCl [(q0, .inr (10, [.ref q1, .int (nI ty), .ref q2, .ref q3, .ref q4, .ref q5, .ref q6, .ref q7, .ref q8, .int (nI dm), .int (nI at_), .int (zb so), .ref q9, .int (nI de), .int (nI ke), .ref q10, .ref q11, .ref q12, .int (nI sm), .ref q13, .ref q14])), (q1, .inl (kB G, 200, .inl tx)), (q2, .inl (kI G, 2, .inl ro)), (q3, .inl (kI G, 2, .inl co)), (q4, .inl (kI G, 2, .inl mp)), (q5, .inl (kI G, 10, .inl my)), (q6, .inl (kI G, 10, .inl md)), (q7, .inl (kI G, 10, .inl mr)), (q8, .inl (kI G, 40, .inl dr)), (q9, .inl (kI G, 504, .inl nw)), (q10, .inl (kI G, 64, .inl tk)), (q11, .inl (kI G, 64, .inl c1)), (q12, .inl (kI G, 12, .inl sa)), (q13, .inl (kI G, 8, .inl go)), (q14, .inl (kI G, 2048, .inl to))] H → va_D A [(q0, .inr (10, [.ref q1, .int (nI ty), .ref q2, .ref q3, .ref q4, .ref q5, .ref q6, .ref q7, .ref q8, .int (nI dm), .int (nI at_), .int (zb so), .ref q9, .int (nI de), .int (nI ke), .ref q10, .ref q11, .ref q12, .int (nI sm), .ref q13, .ref q14])), (q1, .inl (kB G, 200, .inl tx)), (q2, .inl (kI G, 2, .inl ro)), (q3, .inl (kI G, 2, .inl co)), (q4, .inl (kI G, 2, .inl mp)), (q5, .inl (kI G, 10, .inl my)), (q6, .inl (kI G, 10, .inl md)), (q7, .inl (kI G, 10, .inl mr)), (q8, .inl (kI G, 40, .inl dr)), (q9, .inl (kI G, 504, .inl nw)), (q10, .inl (kI G, 64, .inl tk)), (q11, .inl (kI G, 64, .inl c1)), (q12, .inl (kI G, 12, .inl sa)), (q13, .inl (kI G, 8, .inl go)), (q14, .inl (kI G, 2048, .inl to))] → va_S A s.heap H locs → ∀ ls : Array Slot, lv_has ls 13 [(0, .ref q0), (1, .int (nI j)), (2, .int (nI av)), (3, .int (nI bv)), (4, .long (stC (cel nw 0) (sta nw 0) (fal nw 0) (nw 0) n)), (6, .long (swM nr nc nw my md mr n j)), (8, .int (nI k))] → WC p l e (rmz 3 73) s m [.ref q0, .int (nI j), .int (nI av), .int (nI bv)] below meth c G A (fun v9 w9 => v9 = (some (.int (wdM nr nc (stC (cel nw 0) (sta nw 0) (fal nw 0) (nw 0) n) bv 201 0 (cst (swM nr nc nw my md mr n j) 1 2) av))) ∧ ∃ (tk9 : Nat → Int32) (cs9 : Nat → Int32), w9 = [(q0, .inr (10, [.ref q1, .int (nI ty), .ref q2, .ref q3, .ref q4, .ref q5, .ref q6, .ref q7, .ref q8, .int (nI dm), .int (nI at_), .int (zb so), .ref q9, .int (nI de), .int (nI ke), .ref q10, .ref q11, .ref q12, .int (nI sm), .ref q13, .ref q14])), (q1, .inl (kB G, 200, .inl tx)), (q2, .inl (kI G, 2, .inl ro)), (q3, .inl (kI G, 2, .inl co)), (q4, .inl (kI G, 2, .inl mp)), (q5, .inl (kI G, 10, .inl my)), (q6, .inl (kI G, 10, .inl md)), (q7, .inl (kI G, 10, .inl mr)), (q8, .inl (kI G, 40, .inl dr)), (q9, .inl (kI G, 504, .inl nw)), (q10, .inl (kI G, 64, .inl tk9)), (q11, .inl (kI G, 64, .inl cs9)), (q12, .inl (kI G, 12, .inl sa)), (q13, .inl (kI G, 8, .inl go)), (q14, .inl (kI G, 2048, .inl to))]) H locs 0 0 (F0 m 74 ls []) := by
    intro n_
    induction n_ with
    | zero =>
      intro k c1 hk ha hm_74
      exact absurd hm_74 (Nat.not_lt_zero _)
    | succ n_ ih_74 =>
      intro k c1 hk ha hm_74 H locs hP hD hS ls hl
      refine lv_iload hx hb dX10_wander_74 (lv_at hl 6 rfl) ?_
      refine lv_aload_n hx hb dX10_wander_76 rfl (lv_at hl 0 rfl) ?_
      refine lv_iconst (v := 0) hx hb dX10_wander_77 (by decide) ?_
      refine rd_callV (As := [.int 0]) (rest := [.int (nI k)]) hx hb hml hown hts (hE.at0 hS) hl.1 (c_X10_cells l G q0 q1 q2 q3 q4 q5 q6 q7 q8 q9 q10 q11 q12 q13 q14 tx ro co mp my md mr dr nw tk c1 sa go to ty dm at_ so de ke sm nr nc (by first | assumption | omega) (by first | assumption | omega) (by first | assumption | omega) (by first | assumption | omega)) (cw_X10_87 hts) ⟨(Nat.le_of_ble_eq_true rfl), (Nat.le_of_ble_eq_true rfl)⟩ ⟨Nat.zero_le _, Nat.zero_le _⟩ rfl (sub_P hP [0, 1, 2, 3, 4, 5, 6, 7, 8, 9, 10, 11, 12, 13, 14] rfl) rfl rfl rfl rfl (Nat.le_of_ble_eq_true rfl) dX10_wander_78 ?_
      refine lv_icmp_ge (tgt := 114) hx hb dX10_wander_81 (by decide) (fun c81 => ?_) (fun c81 => ?_)
      · have hkn : nr * nc ≤ k := le_of_le (by omega) (by omega) c81
        have ha9 : c1 = csI (swM nr nc nw my md mr n j) 1 2 cs (nr * nc) := by rw [ha, show k = nr * nc by omega]
        refine lv_iload_n hx hb dX10_wander_114 rfl (lv_at hl 2 rfl) ?_
        refine lv_istore (lv' := [(8, .int (nI av)), (0, .ref q0), (1, .int (nI j)), (2, .int (nI av)), (3, .int (nI bv)), (4, .long (stC (cel nw 0) (sta nw 0) (fal nw 0) (nw 0) n)), (6, .long (swM nr nc nw my md mr n j))]) hx hb dX10_wander_115 hl (by decide) rfl (fun ls hl => ?_)
        refine lv_iconst (v := 0) hx hb dX10_wander_117 (by decide) ?_
        refine lv_istore (lv' := [(9, .int 0), (8, .int (nI av)), (0, .ref q0), (1, .int (nI j)), (2, .int (nI av)), (3, .int (nI bv)), (4, .long (stC (cel nw 0) (sta nw 0) (fal nw 0) (nw 0) n)), (6, .long (swM nr nc nw my md mr n j))]) hx hb dX10_wander_118 hl (by decide) rfl (fun ls hl => ?_)
        exact J_120 (201 - 0 + 1) 0 av c1 tk (cst (swM nr nc nw my md mr n j) 1 2) (by omega) hav (fun i hi => by rw [ha9]; exact csI_in _ _ _ _ _ i hi) (cst_nn' (by decide) (by decide) _) rfl (Nat.lt_succ_self _) _ _ hP hD hS ls (lv_sub hl [2, 3, 4, 5, 6, 7, 1, 0] rfl)
      · have hkn : k < nr * nc := lt_of_nle (by omega) (by omega) c81
        refine lv_aload_n hx hb dX10_wander_84 rfl (lv_at hl 0 rfl) ?_
        refine va_get hx hb hts inlX10 hown hE.1 hP 0 rfl rfl 16 (by decide) (fl_X10_41 hts) (fun _ h9 => h9) rfl dX10_wander_85 ?_
        refine lv_iload hx hb dX10_wander_88 (lv_at hl 6 rfl) ?_
        refine lv_lload hx hb dX10_wander_90 (lv_at hl 5 rfl) ?_
        refine lv_iload hx hb dX10_wander_92 (lv_at hl 6 rfl) ?_
        refine lv_lshr hx hb dX10_wander_94 rfl ?_
        refine lv_lconst (v := 1) hx hb dX10_wander_95 (by decide) ?_
        refine lv_land hx hb dX10_wander_96 ?_
        refine lv_lconst (v := 1) hx hb dX10_wander_97 (by decide) ?_
        refine W.lcmp hx hb dX10_wander_98 ?_
        refine lv_if_ne (tgt := 106) hx hb dX10_wander_99 (by decide) (fun c99 => ?_) (fun c99 => ?_)
        · have c99 := lgc_ne.mp c99
          have c99 : hsM (swM nr nc nw my md mr n j) k = false := by simp [hsM, c99]
          refine lv_iconst (v := 2) hx hb dX10_wander_106 (by decide) ?_
          refine va_iast hx hb hE.1 hP hD hS 11 0 rfl rfl (vp_in_nI (by omega) (by omega)) dX10_wander_107 (fun H locs hP hD hS => ?_)
          rw [nI_clamp (show k < 2 ^ 31 by omega)] at hP hD
          have hP : va_P G.1 vwCl [(q0, .inr (10, [.ref q1, .int (nI ty), .ref q2, .ref q3, .ref q4, .ref q5, .ref q6, .ref q7, .ref q8, .int (nI dm), .int (nI at_), .int (zb so), .ref q9, .int (nI de), .int (nI ke), .ref q10, .ref q11, .ref q12, .int (nI sm), .ref q13, .ref q14])), (q1, .inl (kB G, 200, .inl tx)), (q2, .inl (kI G, 2, .inl ro)), (q3, .inl (kI G, 2, .inl co)), (q4, .inl (kI G, 2, .inl mp)), (q5, .inl (kI G, 10, .inl my)), (q6, .inl (kI G, 10, .inl md)), (q7, .inl (kI G, 10, .inl mr)), (q8, .inl (kI G, 40, .inl dr)), (q9, .inl (kI G, 504, .inl nw)), (q10, .inl (kI G, 64, .inl tk)), (q11, .inl (kI G, 64, .inl (upd c1 k 2))), (q12, .inl (kI G, 12, .inl sa)), (q13, .inl (kI G, 8, .inl go)), (q14, .inl (kI G, 2048, .inl to))] H := hP
          have hD : va_D A [(q0, .inr (10, [.ref q1, .int (nI ty), .ref q2, .ref q3, .ref q4, .ref q5, .ref q6, .ref q7, .ref q8, .int (nI dm), .int (nI at_), .int (zb so), .ref q9, .int (nI de), .int (nI ke), .ref q10, .ref q11, .ref q12, .int (nI sm), .ref q13, .ref q14])), (q1, .inl (kB G, 200, .inl tx)), (q2, .inl (kI G, 2, .inl ro)), (q3, .inl (kI G, 2, .inl co)), (q4, .inl (kI G, 2, .inl mp)), (q5, .inl (kI G, 10, .inl my)), (q6, .inl (kI G, 10, .inl md)), (q7, .inl (kI G, 10, .inl mr)), (q8, .inl (kI G, 40, .inl dr)), (q9, .inl (kI G, 504, .inl nw)), (q10, .inl (kI G, 64, .inl tk)), (q11, .inl (kI G, 64, .inl (upd c1 k 2))), (q12, .inl (kI G, 12, .inl sa)), (q13, .inl (kI G, 8, .inl go)), (q14, .inl (kI G, 2048, .inl to))] := hD
          refine lv_iinc (v := nI (k + 1)) (lv' := [(8, .int (nI (k + 1))), (0, .ref q0), (1, .int (nI j)), (2, .int (nI av)), (3, .int (nI bv)), (4, .long (stC (cel nw 0) (sta nw 0) (fal nw 0) (nw 0) n)), (6, .long (swM nr nc nw my md mr n j))]) hx hb dX10_wander_108 hl (k := 6) rfl (nI_1 k) (by decide) rfl (fun ls hl => ?_)
          refine lv_goto (tgt := 74) hx hb dX10_wander_111 (by decide) ?_
          have ha0 := ha
          rw [csI] at ha0
          exact ih_74 (k + 1) (upd c1 k 2) (by first | assumption | omega | rfl) (by rw [csI, it_s]; simp only [← ha0]; simp [cst, c81, c99]) (by omega) _ _ hP hD hS ls (lv_sub hl [1, 2, 3, 4, 5, 6, 0] rfl)
        · have c99 := lgc_eq.mp c99
          have c99 : hsM (swM nr nc nw my md mr n j) k = true := by simp [hsM, c99]
          refine lv_iconst (v := 1) hx hb dX10_wander_102 (by decide) ?_
          refine lv_goto (tgt := 107) hx hb dX10_wander_103 (by decide) ?_
          refine va_iast hx hb hE.1 hP hD hS 11 0 rfl rfl (vp_in_nI (by omega) (by omega)) dX10_wander_107 (fun H locs hP hD hS => ?_)
          rw [nI_clamp (show k < 2 ^ 31 by omega)] at hP hD
          have hP : va_P G.1 vwCl [(q0, .inr (10, [.ref q1, .int (nI ty), .ref q2, .ref q3, .ref q4, .ref q5, .ref q6, .ref q7, .ref q8, .int (nI dm), .int (nI at_), .int (zb so), .ref q9, .int (nI de), .int (nI ke), .ref q10, .ref q11, .ref q12, .int (nI sm), .ref q13, .ref q14])), (q1, .inl (kB G, 200, .inl tx)), (q2, .inl (kI G, 2, .inl ro)), (q3, .inl (kI G, 2, .inl co)), (q4, .inl (kI G, 2, .inl mp)), (q5, .inl (kI G, 10, .inl my)), (q6, .inl (kI G, 10, .inl md)), (q7, .inl (kI G, 10, .inl mr)), (q8, .inl (kI G, 40, .inl dr)), (q9, .inl (kI G, 504, .inl nw)), (q10, .inl (kI G, 64, .inl tk)), (q11, .inl (kI G, 64, .inl (upd c1 k 1))), (q12, .inl (kI G, 12, .inl sa)), (q13, .inl (kI G, 8, .inl go)), (q14, .inl (kI G, 2048, .inl to))] H := hP
          have hD : va_D A [(q0, .inr (10, [.ref q1, .int (nI ty), .ref q2, .ref q3, .ref q4, .ref q5, .ref q6, .ref q7, .ref q8, .int (nI dm), .int (nI at_), .int (zb so), .ref q9, .int (nI de), .int (nI ke), .ref q10, .ref q11, .ref q12, .int (nI sm), .ref q13, .ref q14])), (q1, .inl (kB G, 200, .inl tx)), (q2, .inl (kI G, 2, .inl ro)), (q3, .inl (kI G, 2, .inl co)), (q4, .inl (kI G, 2, .inl mp)), (q5, .inl (kI G, 10, .inl my)), (q6, .inl (kI G, 10, .inl md)), (q7, .inl (kI G, 10, .inl mr)), (q8, .inl (kI G, 40, .inl dr)), (q9, .inl (kI G, 504, .inl nw)), (q10, .inl (kI G, 64, .inl tk)), (q11, .inl (kI G, 64, .inl (upd c1 k 1))), (q12, .inl (kI G, 12, .inl sa)), (q13, .inl (kI G, 8, .inl go)), (q14, .inl (kI G, 2048, .inl to))] := hD
          refine lv_iinc (v := nI (k + 1)) (lv' := [(8, .int (nI (k + 1))), (0, .ref q0), (1, .int (nI j)), (2, .int (nI av)), (3, .int (nI bv)), (4, .long (stC (cel nw 0) (sta nw 0) (fal nw 0) (nw 0) n)), (6, .long (swM nr nc nw my md mr n j))]) hx hb dX10_wander_108 hl (k := 6) rfl (nI_1 k) (by decide) rfl (fun ls hl => ?_)
          refine lv_goto (tgt := 74) hx hb dX10_wander_111 (by decide) ?_
          have ha0 := ha
          rw [csI] at ha0
          exact ih_74 (k + 1) (upd c1 k 1) (by first | assumption | omega | rfl) (by rw [csI, it_s]; simp only [← ha0]; simp [cst, c81, c99]) (by omega) _ _ hP hD hS ls (lv_sub hl [1, 2, 3, 4, 5, 6, 0] rfl)
  refine lv_aload_n hx hb dX10_wander_0 rfl (lv_at hl 0 rfl) ?_
  refine lv_iload_n hx hb dX10_wander_1 rfl (lv_at hl 1 rfl) ?_
  refine rd_callV (As := [.int (nI j)]) (rest := []) hx hb hml hown hts (hE.at0 hS) hl.1 (c_X10_isMap l G q0 q1 q2 q3 q4 q5 q6 q7 q8 q9 q10 q11 q12 q13 q14 tx ro co mp my md mr dr nw tk cs sa go to ty dm at_ so de ke sm q (nI j) (by first | assumption | omega) (by first | assumption | omega)) (cw_X10_133 hts) ⟨(Nat.le_of_ble_eq_true rfl), (Nat.le_of_ble_eq_true rfl)⟩ ⟨Nat.zero_le _, Nat.zero_le _⟩ rfl (sub_P hP [0, 1, 2, 3, 4, 5, 6, 7, 8, 9, 10, 11, 12, 13, 14] rfl) rfl rfl rfl rfl (Nat.le_of_ble_eq_true rfl) dX10_wander_2 ?_
  refine lv_if_eq (tgt := 24) hx hb dX10_wander_5 (by decide) (fun c5 => ?_) (fun c5 => ?_)
  · have c5 := zb_0.mp c5
    exact absurd c5 (by rw [inB_nI (by omega)]; simp [hj])
  · have c5 := zb_n0.mp c5
    refine lv_aload_n hx hb dX10_wander_8 rfl (lv_at hl 0 rfl) ?_
    refine lv_iload_n hx hb dX10_wander_9 rfl (lv_at hl 2 rfl) ?_
    refine rd_callV (As := [.int (nI av)]) (rest := []) hx hb hml hown hts (hE.at0 hS) hl.1 (c_X10_isCell l G q0 q1 q2 q3 q4 q5 q6 q7 q8 q9 q10 q11 q12 q13 q14 tx ro co mp my md mr dr nw tk cs sa go to ty dm at_ so de ke sm nr nc (nI av) (by first | assumption | omega) (by first | assumption | omega) (by first | assumption | omega) (by first | assumption | omega)) (cw_X10_116 hts) ⟨(Nat.le_of_ble_eq_true rfl), (Nat.le_of_ble_eq_true rfl)⟩ ⟨Nat.zero_le _, Nat.zero_le _⟩ rfl (sub_P hP [0, 1, 2, 3, 4, 5, 6, 7, 8, 9, 10, 11, 12, 13, 14] rfl) rfl rfl rfl rfl (Nat.le_of_ble_eq_true rfl) dX10_wander_10 ?_
    refine lv_if_eq (tgt := 24) hx hb dX10_wander_13 (by decide) (fun c13 => ?_) (fun c13 => ?_)
    · have c13 := zb_0.mp c13
      exact absurd c13 (by rw [inG, inB_nI (by omega)]; simp [hav])
    · have c13 := zb_n0.mp c13
      refine lv_aload_n hx hb dX10_wander_16 rfl (lv_at hl 0 rfl) ?_
      refine lv_iload_n hx hb dX10_wander_17 rfl (lv_at hl 3 rfl) ?_
      refine rd_callV (As := [.int (nI bv)]) (rest := []) hx hb hml hown hts (hE.at0 hS) hl.1 (c_X10_isCell l G q0 q1 q2 q3 q4 q5 q6 q7 q8 q9 q10 q11 q12 q13 q14 tx ro co mp my md mr dr nw tk cs sa go to ty dm at_ so de ke sm nr nc (nI bv) (by first | assumption | omega) (by first | assumption | omega) (by first | assumption | omega) (by first | assumption | omega)) (cw_X10_116 hts) ⟨(Nat.le_of_ble_eq_true rfl), (Nat.le_of_ble_eq_true rfl)⟩ ⟨Nat.zero_le _, Nat.zero_le _⟩ rfl (sub_P hP [0, 1, 2, 3, 4, 5, 6, 7, 8, 9, 10, 11, 12, 13, 14] rfl) rfl rfl rfl rfl (Nat.le_of_ble_eq_true rfl) dX10_wander_18 ?_
      refine lv_if_ne (tgt := 26) hx hb dX10_wander_21 (by decide) (fun c21 => ?_) (fun c21 => ?_)
      · have c21 := zb_n0.mp c21
        refine lv_aload_n hx hb dX10_wander_26 rfl (lv_at hl 0 rfl) ?_
        refine lv_iconst (v := 0) hx hb dX10_wander_27 (by decide) ?_
        refine lv_aload_n hx hb dX10_wander_28 rfl (lv_at hl 0 rfl) ?_
        refine va_get hx hb hts inlX10 hown hE.1 hP 0 rfl rfl 12 (by decide) (fl_X10_35 hts) (fun _ h9 => h9) rfl dX10_wander_29 ?_
        refine lv_iconst (v := 0) hx hb dX10_wander_32 (by decide) ?_
        refine va_iald hx hb hE.1 hP 9 0 rfl rfl (inB_iff.mp (by decide)) dX10_wander_33 ?_
        rw [show (0 : Int32).toNatClampNeg = 0 from rfl]
        refine rd_callV (As := [.int 0, .int (nw 0)]) (rest := []) hx hb hml hown hts (hE.at0 hS) hl.1 (c_X10_taken l G q0 q1 q2 q3 q4 q5 q6 q7 q8 q9 q10 q11 q12 q13 q14 tx ro co mp my md mr dr nw tk cs sa go to ty dm at_ so de ke sm 0 n (nw 0) (by decide) (by first | assumption | omega) (by first | assumption | omega)) (cw_X10_122 hts) ⟨(Nat.le_of_ble_eq_true rfl), (Nat.le_of_ble_eq_true rfl)⟩ ⟨Nat.zero_le _, Nat.zero_le _⟩ rfl (sub_P hP [0, 1, 2, 3, 4, 5, 6, 7, 8, 9, 10, 11, 12, 13, 14] rfl) rfl rfl rfl rfl (Nat.le_of_ble_eq_true rfl) dX10_wander_34 ?_
        refine lv_lstore (lv' := [(4, .long (stC (cel nw 0) (sta nw 0) (fal nw 0) (nw 0) n)), (0, .ref q0), (1, .int (nI j)), (2, .int (nI av)), (3, .int (nI bv))]) hx hb dX10_wander_37 hl (by decide) rfl (fun ls hl => ?_)
        refine lv_lload hx hb dX10_wander_39 (lv_at hl 0 rfl) ?_
        refine lv_iload_n hx hb dX10_wander_41 rfl (lv_at hl 3 rfl) ?_
        refine lv_lshr hx hb dX10_wander_42 rfl ?_
        refine lv_lconst (v := 1) hx hb dX10_wander_43 (by decide) ?_
        refine lv_land hx hb dX10_wander_44 ?_
        refine lv_lconst (v := 1) hx hb dX10_wander_45 (by decide) ?_
        refine W.lcmp hx hb dX10_wander_46 ?_
        refine lv_if_eq (tgt := 61) hx hb dX10_wander_47 (by decide) (fun c47 => ?_) (fun c47 => ?_)
        · have c47 := lgc_eq.mp c47
          exact absurd ((show hsM (stC (cel nw 0) (sta nw 0) (fal nw 0) (nw 0) n) av = true by simp [hsM, c47]).symm.trans hca) (by decide)
        · have c47 := lgc_ne.mp c47
          refine lv_lload hx hb dX10_wander_50 (lv_at hl 0 rfl) ?_
          refine lv_iload_n hx hb dX10_wander_52 rfl (lv_at hl 4 rfl) ?_
          refine lv_lshr hx hb dX10_wander_53 rfl ?_
          refine lv_lconst (v := 1) hx hb dX10_wander_54 (by decide) ?_
          refine lv_land hx hb dX10_wander_55 ?_
          refine lv_lconst (v := 1) hx hb dX10_wander_56 (by decide) ?_
          refine W.lcmp hx hb dX10_wander_57 ?_
          refine lv_if_ne (tgt := 64) hx hb dX10_wander_58 (by decide) (fun c58 => ?_) (fun c58 => ?_)
          · have c58 := lgc_ne.mp c58
            refine lv_aload_n hx hb dX10_wander_64 rfl (lv_at hl 1 rfl) ?_
            refine lv_iload_n hx hb dX10_wander_65 rfl (lv_at hl 2 rfl) ?_
            refine rd_callV (As := [.int (nI j)]) (rest := []) hx hb hml hown hts (hE.at0 hS) hl.1 (c_X10_shown l G q0 q1 q2 q3 q4 q5 q6 q7 q8 q9 q10 q11 q12 q13 q14 tx ro co mp my md mr dr nw tk cs sa go to ty dm at_ so de ke sm nr nc n j (by first | assumption | omega) (by first | assumption | omega) (by first | assumption | omega) (by first | assumption | omega) (by first | assumption | omega) (by first | assumption | omega) (by first | assumption | omega)) (cw_X10_136 hts) ⟨(Nat.le_of_ble_eq_true rfl), (Nat.le_of_ble_eq_true rfl)⟩ ⟨Nat.zero_le _, Nat.zero_le _⟩ rfl (sub_P hP [0, 1, 2, 3, 4, 5, 6, 7, 8, 9, 10, 11, 12, 13, 14] rfl) rfl rfl rfl rfl (Nat.le_of_ble_eq_true rfl) dX10_wander_66 ?_
            refine lv_lstore (lv' := [(6, .long (swM nr nc nw my md mr n j)), (4, .long (stC (cel nw 0) (sta nw 0) (fal nw 0) (nw 0) n)), (0, .ref q0), (1, .int (nI j)), (2, .int (nI av)), (3, .int (nI bv))]) hx hb dX10_wander_69 hl (by decide) rfl (fun ls hl => ?_)
            refine lv_iconst (v := 0) hx hb dX10_wander_71 (by decide) ?_
            refine lv_istore (lv' := [(8, .int 0), (6, .long (swM nr nc nw my md mr n j)), (4, .long (stC (cel nw 0) (sta nw 0) (fal nw 0) (nw 0) n)), (0, .ref q0), (1, .int (nI j)), (2, .int (nI av)), (3, .int (nI bv))]) hx hb dX10_wander_72 hl (by decide) rfl (fun ls hl => ?_)
            exact J_74 (nr * nc - 0 + 1) 0 cs (by first | assumption | omega | rfl) rfl (Nat.lt_succ_self _) _ _ hP hD hS ls (lv_sub hl [3, 4, 5, 6, 2, 1, 0] rfl)
          · have c58 := lgc_eq.mp c58
            exact absurd ((show hsM (stC (cel nw 0) (sta nw 0) (fal nw 0) (nw 0) n) bv = true by simp [hsM, c58]).symm.trans hcb) (by decide)
      · have c21 := zb_0.mp c21
        exact absurd c21 (by rw [inG, inB_nI (by omega)]; simp [hbv])

set_option maxHeartbeats 4000000 in
set_option maxRecDepth 100000 in
theorem c_X10_wander_n (l : Launch) (G : Gv) (q0 : Nat) (q1 : Nat) (q2 : Nat) (q3 : Nat) (q4 : Nat) (q5 : Nat) (q6 : Nat) (q7 : Nat) (q8 : Nat) (q9 : Nat) (q10 : Nat) (q11 : Nat) (q12 : Nat) (q13 : Nat) (q14 : Nat) (tx : Nat → Int32) (ro : Nat → Int32) (co : Nat → Int32) (mp : Nat → Int32) (my : Nat → Int32) (md : Nat → Int32) (mr : Nat → Int32) (dr : Nat → Int32) (nw : Nat → Int32) (tk : Nat → Int32) (cs : Nat → Int32) (sa : Nat → Int32) (go : Nat → Int32) (to : Nat → Int32) (ty : Nat) (dm : Nat) (at_ : Nat) (so : Bool) (de : Nat) (ke : Nat) (sm : Nat) (nr : Nat) (nc : Nat) (n : Nat) (q : Nat) (t : Int32) (a : Int32) (b : Int32) (hro : ro 0 = nI nr) (hco : co 0 = nI nc) (hg1 : 2 ≤ nr ∧ nr ≤ 8) (hg2 : 2 ≤ nc ∧ nc ≤ 8) (hn1 : nw 1 = nI n) (hn : n ≤ 10) (hmp : mp 0 = nI q) (hq : q ≤ 5) (hno : ¬ (inB t q = true ∧ inG nr nc a = true ∧ inG nr nc b = true)) : Rd l yX10_wander cX10_wander 13 (some .int) (rmz 2 43) G [.ref q0, .int t, .int a, .int b] [(q0, .inr (10, [.ref q1, .int (nI ty), .ref q2, .ref q3, .ref q4, .ref q5, .ref q6, .ref q7, .ref q8, .int (nI dm), .int (nI at_), .int (zb so), .ref q9, .int (nI de), .int (nI ke), .ref q10, .ref q11, .ref q12, .int (nI sm), .ref q13, .ref q14])), (q1, .inl (kB G, 200, .inl tx)), (q2, .inl (kI G, 2, .inl ro)), (q3, .inl (kI G, 2, .inl co)), (q4, .inl (kI G, 2, .inl mp)), (q5, .inl (kI G, 10, .inl my)), (q6, .inl (kI G, 10, .inl md)), (q7, .inl (kI G, 10, .inl mr)), (q8, .inl (kI G, 40, .inl dr)), (q9, .inl (kI G, 504, .inl nw)), (q10, .inl (kI G, 64, .inl tk)), (q11, .inl (kI G, 64, .inl cs)), (q12, .inl (kI G, 12, .inl sa)), (q13, .inl (kI G, 8, .inl go)), (q14, .inl (kI G, 2048, .inl to))] (.int (-1)) := by
  refine Rd.ofW (by decide) (Nat.le_of_ble_eq_true rfl) ?_
  intro p e s m below meth c ls hx hb hml hr hown hts hlk hP hE hl
  have hl : lv_has ls 13 [(0, .ref q0), (1, .int t), (2, .int a), (3, .int b)] := hl
  refine lv_aload_n hx hb dX10_wander_0 rfl (lv_at hl 0 rfl) ?_
  refine lv_iload_n hx hb dX10_wander_1 rfl (lv_at hl 1 rfl) ?_
  refine rd_callV (As := [.int t]) (rest := []) hx hb hml hown hts hE hl.1 (c_X10_isMap l G q0 q1 q2 q3 q4 q5 q6 q7 q8 q9 q10 q11 q12 q13 q14 tx ro co mp my md mr dr nw tk cs sa go to ty dm at_ so de ke sm q t (by first | assumption | omega) (by first | assumption | omega)) (cw_X10_133 hts) ⟨(Nat.le_of_ble_eq_true rfl), (Nat.le_of_ble_eq_true rfl)⟩ ⟨Nat.zero_le _, Nat.zero_le _⟩ rfl (sub_P hP [0, 1, 2, 3, 4, 5, 6, 7, 8, 9, 10, 11, 12, 13, 14] rfl) rfl rfl rfl rfl (Nat.le_of_ble_eq_true rfl) dX10_wander_2 ?_
  refine lv_if_eq (tgt := 24) hx hb dX10_wander_5 (by decide) (fun c5 => ?_) (fun c5 => ?_)
  · have c5 := zb_0.mp c5
    refine lv_iconst (v := -1) hx hb dX10_wander_24 (by decide) ?_
    exact rd_iret hx hb hr hlk dX10_wander_25 (by first | rfl | (simp [zb, c5]; done))
  · have c5 := zb_n0.mp c5
    refine lv_aload_n hx hb dX10_wander_8 rfl (lv_at hl 0 rfl) ?_
    refine lv_iload_n hx hb dX10_wander_9 rfl (lv_at hl 2 rfl) ?_
    refine rd_callV (As := [.int a]) (rest := []) hx hb hml hown hts hE hl.1 (c_X10_isCell l G q0 q1 q2 q3 q4 q5 q6 q7 q8 q9 q10 q11 q12 q13 q14 tx ro co mp my md mr dr nw tk cs sa go to ty dm at_ so de ke sm nr nc a (by first | assumption | omega) (by first | assumption | omega) (by first | assumption | omega) (by first | assumption | omega)) (cw_X10_116 hts) ⟨(Nat.le_of_ble_eq_true rfl), (Nat.le_of_ble_eq_true rfl)⟩ ⟨Nat.zero_le _, Nat.zero_le _⟩ rfl (sub_P hP [0, 1, 2, 3, 4, 5, 6, 7, 8, 9, 10, 11, 12, 13, 14] rfl) rfl rfl rfl rfl (Nat.le_of_ble_eq_true rfl) dX10_wander_10 ?_
    refine lv_if_eq (tgt := 24) hx hb dX10_wander_13 (by decide) (fun c13 => ?_) (fun c13 => ?_)
    · have c13 := zb_0.mp c13
      refine lv_iconst (v := -1) hx hb dX10_wander_24 (by decide) ?_
      exact rd_iret hx hb hr hlk dX10_wander_25 (by first | rfl | (simp [zb, c5, c13]; done))
    · have c13 := zb_n0.mp c13
      refine lv_aload_n hx hb dX10_wander_16 rfl (lv_at hl 0 rfl) ?_
      refine lv_iload_n hx hb dX10_wander_17 rfl (lv_at hl 3 rfl) ?_
      refine rd_callV (As := [.int b]) (rest := []) hx hb hml hown hts hE hl.1 (c_X10_isCell l G q0 q1 q2 q3 q4 q5 q6 q7 q8 q9 q10 q11 q12 q13 q14 tx ro co mp my md mr dr nw tk cs sa go to ty dm at_ so de ke sm nr nc b (by first | assumption | omega) (by first | assumption | omega) (by first | assumption | omega) (by first | assumption | omega)) (cw_X10_116 hts) ⟨(Nat.le_of_ble_eq_true rfl), (Nat.le_of_ble_eq_true rfl)⟩ ⟨Nat.zero_le _, Nat.zero_le _⟩ rfl (sub_P hP [0, 1, 2, 3, 4, 5, 6, 7, 8, 9, 10, 11, 12, 13, 14] rfl) rfl rfl rfl rfl (Nat.le_of_ble_eq_true rfl) dX10_wander_18 ?_
      refine lv_if_ne (tgt := 26) hx hb dX10_wander_21 (by decide) (fun c21 => ?_) (fun c21 => ?_)
      · have c21 := zb_n0.mp c21
        exact absurd ⟨c5, c13, c21⟩ hno
      · have c21 := zb_0.mp c21
        refine lv_iconst (v := -1) hx hb dX10_wander_24 (by decide) ?_
        exact rd_iret hx hb hr hlk dX10_wander_25 (by first | rfl | (simp [zb, c5, c13, c21]; done))

set_option maxHeartbeats 4000000 in
set_option maxRecDepth 100000 in
theorem c_X10_wander_o (l : Launch) (G : Gv) (q0 : Nat) (q1 : Nat) (q2 : Nat) (q3 : Nat) (q4 : Nat) (q5 : Nat) (q6 : Nat) (q7 : Nat) (q8 : Nat) (q9 : Nat) (q10 : Nat) (q11 : Nat) (q12 : Nat) (q13 : Nat) (q14 : Nat) (tx : Nat → Int32) (ro : Nat → Int32) (co : Nat → Int32) (mp : Nat → Int32) (my : Nat → Int32) (md : Nat → Int32) (mr : Nat → Int32) (dr : Nat → Int32) (nw : Nat → Int32) (tk : Nat → Int32) (cs : Nat → Int32) (sa : Nat → Int32) (go : Nat → Int32) (to : Nat → Int32) (ty : Nat) (dm : Nat) (at_ : Nat) (so : Bool) (de : Nat) (ke : Nat) (sm : Nat) (nr : Nat) (nc : Nat) (n : Nat) (q : Nat) (j : Nat) (av : Nat) (bv : Nat) (hro : ro 0 = nI nr) (hco : co 0 = nI nc) (hg1 : 2 ≤ nr ∧ nr ≤ 8) (hg2 : 2 ≤ nc ∧ nc ≤ 8) (hn1 : nw 1 = nI n) (hn : n ≤ 10) (hmp : mp 0 = nI q) (hq : q ≤ 5) (hj : j < q) (hav : av < nr * nc) (hbv : bv < nr * nc) (hco : ¬ (hsM (stC (cel nw 0) (sta nw 0) (fal nw 0) (nw 0) n) av = false ∧ hsM (stC (cel nw 0) (sta nw 0) (fal nw 0) (nw 0) n) bv = false)) : Rd l yX10_wander cX10_wander 13 (some .int) (rmz 2 48) G [.ref q0, .int (nI j), .int (nI av), .int (nI bv)] [(q0, .inr (10, [.ref q1, .int (nI ty), .ref q2, .ref q3, .ref q4, .ref q5, .ref q6, .ref q7, .ref q8, .int (nI dm), .int (nI at_), .int (zb so), .ref q9, .int (nI de), .int (nI ke), .ref q10, .ref q11, .ref q12, .int (nI sm), .ref q13, .ref q14])), (q1, .inl (kB G, 200, .inl tx)), (q2, .inl (kI G, 2, .inl ro)), (q3, .inl (kI G, 2, .inl co)), (q4, .inl (kI G, 2, .inl mp)), (q5, .inl (kI G, 10, .inl my)), (q6, .inl (kI G, 10, .inl md)), (q7, .inl (kI G, 10, .inl mr)), (q8, .inl (kI G, 40, .inl dr)), (q9, .inl (kI G, 504, .inl nw)), (q10, .inl (kI G, 64, .inl tk)), (q11, .inl (kI G, 64, .inl cs)), (q12, .inl (kI G, 12, .inl sa)), (q13, .inl (kI G, 8, .inl go)), (q14, .inl (kI G, 2048, .inl to))] (.int (-4)) := by
  refine Rd.ofW (by decide) (Nat.le_of_ble_eq_true rfl) ?_
  intro p e s m below meth c ls hx hb hml hr hown hts hlk hP hE hl
  have hl : lv_has ls 13 [(0, .ref q0), (1, .int (nI j)), (2, .int (nI av)), (3, .int (nI bv))] := hl
  have hcl := cells_le hg1 hg2
  refine lv_aload_n hx hb dX10_wander_0 rfl (lv_at hl 0 rfl) ?_
  refine lv_iload_n hx hb dX10_wander_1 rfl (lv_at hl 1 rfl) ?_
  refine rd_callV (As := [.int (nI j)]) (rest := []) hx hb hml hown hts hE hl.1 (c_X10_isMap l G q0 q1 q2 q3 q4 q5 q6 q7 q8 q9 q10 q11 q12 q13 q14 tx ro co mp my md mr dr nw tk cs sa go to ty dm at_ so de ke sm q (nI j) (by first | assumption | omega) (by first | assumption | omega)) (cw_X10_133 hts) ⟨(Nat.le_of_ble_eq_true rfl), (Nat.le_of_ble_eq_true rfl)⟩ ⟨Nat.zero_le _, Nat.zero_le _⟩ rfl (sub_P hP [0, 1, 2, 3, 4, 5, 6, 7, 8, 9, 10, 11, 12, 13, 14] rfl) rfl rfl rfl rfl (Nat.le_of_ble_eq_true rfl) dX10_wander_2 ?_
  refine lv_if_eq (tgt := 24) hx hb dX10_wander_5 (by decide) (fun c5 => ?_) (fun c5 => ?_)
  · have c5 := zb_0.mp c5
    exact absurd c5 (by rw [inB_nI (by omega)]; simp [hj])
  · have c5 := zb_n0.mp c5
    refine lv_aload_n hx hb dX10_wander_8 rfl (lv_at hl 0 rfl) ?_
    refine lv_iload_n hx hb dX10_wander_9 rfl (lv_at hl 2 rfl) ?_
    refine rd_callV (As := [.int (nI av)]) (rest := []) hx hb hml hown hts hE hl.1 (c_X10_isCell l G q0 q1 q2 q3 q4 q5 q6 q7 q8 q9 q10 q11 q12 q13 q14 tx ro co mp my md mr dr nw tk cs sa go to ty dm at_ so de ke sm nr nc (nI av) (by first | assumption | omega) (by first | assumption | omega) (by first | assumption | omega) (by first | assumption | omega)) (cw_X10_116 hts) ⟨(Nat.le_of_ble_eq_true rfl), (Nat.le_of_ble_eq_true rfl)⟩ ⟨Nat.zero_le _, Nat.zero_le _⟩ rfl (sub_P hP [0, 1, 2, 3, 4, 5, 6, 7, 8, 9, 10, 11, 12, 13, 14] rfl) rfl rfl rfl rfl (Nat.le_of_ble_eq_true rfl) dX10_wander_10 ?_
    refine lv_if_eq (tgt := 24) hx hb dX10_wander_13 (by decide) (fun c13 => ?_) (fun c13 => ?_)
    · have c13 := zb_0.mp c13
      exact absurd c13 (by rw [inG, inB_nI (by omega)]; simp [hav])
    · have c13 := zb_n0.mp c13
      refine lv_aload_n hx hb dX10_wander_16 rfl (lv_at hl 0 rfl) ?_
      refine lv_iload_n hx hb dX10_wander_17 rfl (lv_at hl 3 rfl) ?_
      refine rd_callV (As := [.int (nI bv)]) (rest := []) hx hb hml hown hts hE hl.1 (c_X10_isCell l G q0 q1 q2 q3 q4 q5 q6 q7 q8 q9 q10 q11 q12 q13 q14 tx ro co mp my md mr dr nw tk cs sa go to ty dm at_ so de ke sm nr nc (nI bv) (by first | assumption | omega) (by first | assumption | omega) (by first | assumption | omega) (by first | assumption | omega)) (cw_X10_116 hts) ⟨(Nat.le_of_ble_eq_true rfl), (Nat.le_of_ble_eq_true rfl)⟩ ⟨Nat.zero_le _, Nat.zero_le _⟩ rfl (sub_P hP [0, 1, 2, 3, 4, 5, 6, 7, 8, 9, 10, 11, 12, 13, 14] rfl) rfl rfl rfl rfl (Nat.le_of_ble_eq_true rfl) dX10_wander_18 ?_
      refine lv_if_ne (tgt := 26) hx hb dX10_wander_21 (by decide) (fun c21 => ?_) (fun c21 => ?_)
      · have c21 := zb_n0.mp c21
        refine lv_aload_n hx hb dX10_wander_26 rfl (lv_at hl 0 rfl) ?_
        refine lv_iconst (v := 0) hx hb dX10_wander_27 (by decide) ?_
        refine lv_aload_n hx hb dX10_wander_28 rfl (lv_at hl 0 rfl) ?_
        refine va_get hx hb hts inlX10 hown hE.1 hP 0 rfl rfl 12 (by decide) (fl_X10_35 hts) (fun _ h9 => h9) rfl dX10_wander_29 ?_
        refine lv_iconst (v := 0) hx hb dX10_wander_32 (by decide) ?_
        refine va_iald hx hb hE.1 hP 9 0 rfl rfl (inB_iff.mp (by decide)) dX10_wander_33 ?_
        rw [show (0 : Int32).toNatClampNeg = 0 from rfl]
        refine rd_callV (As := [.int 0, .int (nw 0)]) (rest := []) hx hb hml hown hts hE hl.1 (c_X10_taken l G q0 q1 q2 q3 q4 q5 q6 q7 q8 q9 q10 q11 q12 q13 q14 tx ro co mp my md mr dr nw tk cs sa go to ty dm at_ so de ke sm 0 n (nw 0) (by decide) (by first | assumption | omega) (by first | assumption | omega)) (cw_X10_122 hts) ⟨(Nat.le_of_ble_eq_true rfl), (Nat.le_of_ble_eq_true rfl)⟩ ⟨Nat.zero_le _, Nat.zero_le _⟩ rfl (sub_P hP [0, 1, 2, 3, 4, 5, 6, 7, 8, 9, 10, 11, 12, 13, 14] rfl) rfl rfl rfl rfl (Nat.le_of_ble_eq_true rfl) dX10_wander_34 ?_
        refine lv_lstore (lv' := [(4, .long (stC (cel nw 0) (sta nw 0) (fal nw 0) (nw 0) n)), (0, .ref q0), (1, .int (nI j)), (2, .int (nI av)), (3, .int (nI bv))]) hx hb dX10_wander_37 hl (by decide) rfl (fun ls hl => ?_)
        refine lv_lload hx hb dX10_wander_39 (lv_at hl 0 rfl) ?_
        refine lv_iload_n hx hb dX10_wander_41 rfl (lv_at hl 3 rfl) ?_
        refine lv_lshr hx hb dX10_wander_42 rfl ?_
        refine lv_lconst (v := 1) hx hb dX10_wander_43 (by decide) ?_
        refine lv_land hx hb dX10_wander_44 ?_
        refine lv_lconst (v := 1) hx hb dX10_wander_45 (by decide) ?_
        refine W.lcmp hx hb dX10_wander_46 ?_
        refine lv_if_eq (tgt := 61) hx hb dX10_wander_47 (by decide) (fun c47 => ?_) (fun c47 => ?_)
        · have c47 := lgc_eq.mp c47
          refine lv_bipush (v := -4) hx hb dX10_wander_61 (by decide) ?_
          exact rd_iret hx hb hr hlk dX10_wander_63 (by first | rfl | (simp [zb, c5, c13, c21, c47]; done))
        · have c47 := lgc_ne.mp c47
          refine lv_lload hx hb dX10_wander_50 (lv_at hl 0 rfl) ?_
          refine lv_iload_n hx hb dX10_wander_52 rfl (lv_at hl 4 rfl) ?_
          refine lv_lshr hx hb dX10_wander_53 rfl ?_
          refine lv_lconst (v := 1) hx hb dX10_wander_54 (by decide) ?_
          refine lv_land hx hb dX10_wander_55 ?_
          refine lv_lconst (v := 1) hx hb dX10_wander_56 (by decide) ?_
          refine W.lcmp hx hb dX10_wander_57 ?_
          refine lv_if_ne (tgt := 64) hx hb dX10_wander_58 (by decide) (fun c58 => ?_) (fun c58 => ?_)
          · have c58 := lgc_ne.mp c58
            exact absurd ⟨(show hsM (stC (cel nw 0) (sta nw 0) (fal nw 0) (nw 0) n) av = false by simp [hsM, c47]), (show hsM (stC (cel nw 0) (sta nw 0) (fal nw 0) (nw 0) n) bv = false by simp [hsM, c58])⟩ hco
          · have c58 := lgc_eq.mp c58
            refine lv_bipush (v := -4) hx hb dX10_wander_61 (by decide) ?_
            exact rd_iret hx hb hr hlk dX10_wander_63 (by first | rfl | (simp [zb, c5, c13, c21, c47, c58]; done))
      · have c21 := zb_0.mp c21
        exact absurd c21 (by rw [inG, inB_nI (by omega)]; simp [hbv])
