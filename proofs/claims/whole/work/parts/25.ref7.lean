/-! the reference: ways -/
theorem and1 (x : Int64) : x &&& 1 = 0 ∨ x &&& 1 = 1 := by
  have h : (x &&& 1).toBitVec.toNat = x.toBitVec.toNat % 2 := by
    rw [Int64.toBitVec_and, BitVec.toNat_and]
    exact Nat.and_two_pow_sub_one_eq_mod _ 1
  rcases Nat.mod_two_eq_zero_or_one x.toBitVec.toNat with z | z
  · exact Or.inl (Int64.toBitVec_inj.mp (BitVec.eq_of_toNat_eq (by rw [h, z]; rfl)))
  · exact Or.inr (Int64.toBitVec_inj.mp (BitVec.eq_of_toNat_eq (by rw [h, z]; rfl)))
theorem hsM_0 {w : Int64} {k : Nat} (h : (w >>> ((nI k).toInt64 &&& 63)) &&& 1 = 0) : hsM w k = false := by
  rw [hsM, h]; rfl
theorem hsM_n {w : Int64} {k : Nat} (h : ¬ (w >>> ((nI k).toInt64 &&& 63)) &&& 1 = 0) : hsM w k = true := by
  rw [hsM, (and1 _).resolve_left h]; rfl
def fuF : Nat := 6400001
def fiI (tk : Nat → Int32) (b : Int32) (n : Nat) : Nat → Int32 := it (fun k t => upd t k (if nI k = b then 0 else 100000)) tk n
def rxB (cs : Nat → Int32) (t : Nat → Int32) (x : Nat) (y : Int32) : Bool := !decide (y = -4) && (!decide (100000 ≤ cs y.toNatClampNeg) && (!decide (100000 ≤ t y.toNatClampNeg) && !decide (t x ≤ cs y.toNatClampNeg + t y.toNatClampNeg)))
def rxS (cs : Nat → Int32) (nr nc x d : Nat) (s : (Nat → Int32) × Bool) : (Nat → Int32) × Bool := if rxB cs s.1 x (bsM nr nc (nI x) (nI d)) then (upd s.1 x (cs (bsM nr nc (nI x) (nI d)).toNatClampNeg + s.1 (bsM nr nc (nI x) (nI d)).toNatClampNeg), true) else s
def rxC (cs : Nat → Int32) (nr nc x : Nat) (s : (Nat → Int32) × Bool) (n : Nat) : (Nat → Int32) × Bool := it (fun d s => rxS cs nr nc x d s) s n
def rxA (cs : Nat → Int32) (nr nc : Nat) (t : Nat → Int32) (n : Nat) : (Nat → Int32) × Bool := it (fun x s => rxC cs nr nc x s 4) (t, false) n
def fnL (cs : Nat → Int32) (nr nc : Nat) : Nat → (Nat → Int32) → Nat → Int32
  | 0, t => t
  | f + 1, t => if (rxA cs nr nc t (nr * nc)).2 then fnL cs nr nc f (rxA cs nr nc t (nr * nc)).1 else (rxA cs nr nc t (nr * nc)).1
def fnX (nr nc : Nat) (c : Nat → Int32) (b : Nat) : Nat → Int32 := fnL c nr nc fuF (fun i => if nI i = nI b then 0 else 100000)
theorem rc_in {nr nc : Nat} (h1 : 2 ≤ nr ∧ nr ≤ 8) (h2 : 2 ≤ nc ∧ nc ≤ 8) {r c : Int32} (h : ¬ (if inB r nr && inB c nc then r * nI nc + c else -4) = -4) : ∃ j : Nat, j < nr * nc ∧ (if inB r nr && inB c nc then r * nI nc + c else -4) = nI j := by
  by_cases hc : (inB r nr && inB c nc) = true
  · rw [if_pos hc]
    rw [Bool.and_eq_true] at hc
    obtain ⟨a, ha, ea⟩ := inB_nat hc.1 (by omega)
    obtain ⟨b, hb, eb⟩ := inB_nat hc.2 (by omega)
    rw [ea, eb, pk_mul, nI_add]
    refine ⟨a * nc + b, ?_, rfl⟩
    calc a * nc + b < a * nc + nc := by omega
      _ = (a + 1) * nc := by rw [Nat.add_mul, Nat.one_mul]
      _ ≤ nr * nc := Nat.mul_le_mul_right _ ha
  · rw [if_neg hc] at h
    exact absurd rfl h
theorem bsM_in {nr nc : Nat} (h1 : 2 ≤ nr ∧ nr ≤ 8) (h2 : 2 ≤ nc ∧ nc ≤ 8) {x d : Int32} (h : ¬ bsM nr nc x d = -4) : ∃ j : Nat, j < nr * nc ∧ bsM nr nc x d = nI j := rc_in h1 h2 h
/-- the sum of what a row holds -/
def tkW (t : Nat → Int32) (n : Nat) : Nat := it (fun i a => a + (t i).toInt.toNat) 0 n
theorem tkW_s (t : Nat → Int32) (n : Nat) : tkW t (n + 1) = tkW t n + (t n).toInt.toNat := by
  unfold tkW
  exact it_s _ _ _
theorem tkW_0 (t : Nat → Int32) : tkW t 0 = 0 := by
  unfold tkW
  exact it_0 _ _
theorem tkW_un {t : Nat → Int32} {x : Nat} {v : Int32} {n : Nat} (h : n ≤ x) : tkW (upd t x v) n = tkW t n := by
  induction n with
  | zero => rw [tkW_0, tkW_0]
  | succ n ih =>
    have e1 : tkW (upd t x v) n = tkW t n := ih (by omega)
    have e2 : upd t x v n = t n := pk_un (by omega)
    rw [tkW_s, tkW_s, e1, e2]
theorem tkW_lt {t : Nat → Int32} {x : Nat} {v : Int32} (hv : v.toInt.toNat < (t x).toInt.toNat) {n : Nat} (h : x < n) : tkW (upd t x v) n < tkW t n := by
  induction n with
  | zero => omega
  | succ n ih =>
    by_cases e : x = n
    · subst e
      rw [tkW_s, tkW_s, tkW_un (Nat.le_refl _), pk_us]
      omega
    · have ih := ih (by omega)
      rw [tkW_s, tkW_s, pk_un (by omega)]
      omega
def nnT (t : Nat → Int32) (n : Nat) : Prop := ∀ i, i < n → 0 ≤ (t i).toInt ∧ (t i).toInt ≤ 100000
def rxI (t : Nat → Int32) (n : Nat) (s : (Nat → Int32) × Bool) : Prop := nnT s.1 n ∧ (s.2 = true → tkW s.1 n < tkW t n) ∧ (s.2 = false → s.1 = t) ∧ tkW s.1 n ≤ tkW t n
theorem i32_1e5 : (100000 : Int32).toInt = 100000 := by decide
theorem rxS_I {cs t : Nat → Int32} {nr nc : Nat} (h1 : 2 ≤ nr ∧ nr ≤ 8) (h2 : 2 ≤ nc ∧ nc ≤ 8) (hcs : nnT cs (nr * nc)) {x d : Nat} (hx : x < nr * nc) {s : (Nat → Int32) × Bool} (h : rxI t (nr * nc) s) : rxI t (nr * nc) (rxS cs nr nc x d s) := by
  unfold rxS
  split
  · rename_i hc
    simp only [rxB, Bool.and_eq_true, Bool.not_eq_true', decide_eq_false_iff_not] at hc
    obtain ⟨c1, c2, c3, c4⟩ := hc
    obtain ⟨j, hj, ej⟩ := bsM_in h1 h2 c1
    have hcl := cells_le h1 h2
    rw [ej, nI_clamp (by omega)] at c2 c3 c4 ⊢
    have hs := h.1 j hj
    have hc := hcs j hj
    have hsx := h.1 x hx
    rw [Int32.not_le, Int32.lt_iff_toInt_lt, i32_1e5] at c2 c3
    rw [Int32.not_le, Int32.lt_iff_toInt_lt] at c4
    have es : (cs j + s.1 j).toInt = (cs j).toInt + (s.1 j).toInt := by
      rw [Int32.toInt_add]
      exact Int.bmod_eq_of_le (by omega) (by omega)
    rw [es] at c4
    have hl : tkW (upd s.1 x (cs j + s.1 j)) (nr * nc) < tkW s.1 (nr * nc) := tkW_lt (by rw [es]; omega) hx
    refine ⟨fun i hi => ?_, fun _ => ?_, fun z => ?_, ?_⟩
    · show 0 ≤ (upd s.1 x (cs j + s.1 j) i).toInt ∧ (upd s.1 x (cs j + s.1 j) i).toInt ≤ 100000
      by_cases e : i = x
      · subst e; rw [pk_us, es]; omega
      · rw [pk_un e]; exact h.1 i hi
    · exact Nat.lt_of_lt_of_le hl h.2.2.2
    · cases z
    · exact Nat.le_of_lt (Nat.lt_of_lt_of_le hl h.2.2.2)
  · exact h
theorem rxC_s (cs : Nat → Int32) (nr nc x : Nat) (s : (Nat → Int32) × Bool) (n : Nat) : rxC cs nr nc x s (n + 1) = rxS cs nr nc x n (rxC cs nr nc x s n) := by
  unfold rxC
  exact it_s _ _ _
theorem rxA_s (cs : Nat → Int32) (nr nc : Nat) (t : Nat → Int32) (n : Nat) : rxA cs nr nc t (n + 1) = rxC cs nr nc n (rxA cs nr nc t n) 4 := by
  unfold rxA
  exact it_s _ _ _
theorem rxA_0 (cs : Nat → Int32) (nr nc : Nat) (t : Nat → Int32) : rxA cs nr nc t 0 = (t, false) := by
  unfold rxA
  exact it_0 _ _
theorem rxC_I {cs t : Nat → Int32} {nr nc : Nat} (h1 : 2 ≤ nr ∧ nr ≤ 8) (h2 : 2 ≤ nc ∧ nc ≤ 8) (hcs : nnT cs (nr * nc)) {x : Nat} (hx : x < nr * nc) {s : (Nat → Int32) × Bool} (h : rxI t (nr * nc) s) (k : Nat) : rxI t (nr * nc) (rxC cs nr nc x s k) := by
  induction k with
  | zero => exact h
  | succ k ih => rw [rxC_s]; exact rxS_I h1 h2 hcs hx ih
theorem rxA_I' {cs t : Nat → Int32} {nr nc : Nat} (h1 : 2 ≤ nr ∧ nr ≤ 8) (h2 : 2 ≤ nc ∧ nc ≤ 8) (hcs : nnT cs (nr * nc)) (ht : nnT t (nr * nc)) {k : Nat} (hk : k ≤ nr * nc) : rxI t (nr * nc) (rxA cs nr nc t k) := by
  induction k with
  | zero =>
    rw [rxA_0]
    exact ⟨ht, fun z => (by cases z), fun _ => rfl, Nat.le_refl _⟩
  | succ k ih => rw [rxA_s]; exact rxC_I h1 h2 hcs (by omega) (ih (by omega)) 4
theorem rxA_I {cs t : Nat → Int32} {nr nc : Nat} (h1 : 2 ≤ nr ∧ nr ≤ 8) (h2 : 2 ≤ nc ∧ nc ≤ 8) (hcs : nnT cs (nr * nc)) (ht : nnT t (nr * nc)) : rxI t (nr * nc) (rxA cs nr nc t (nr * nc)) := rxA_I' h1 h2 hcs ht (Nat.le_refl _)
theorem fiI_in (tk : Nat → Int32) (b : Int32) (n : Nat) {i : Nat} (h : i < n) : fiI tk b n i = if nI i = b then 0 else 100000 := by
  rw [fiI, itupd (fun k => if nI k = b then 0 else 100000), if_pos h]
theorem fiI_nn (tk : Nat → Int32) (b : Int32) (n : Nat) : nnT (fiI tk b n) n := by
  intro i hi
  rw [fiI_in _ _ _ hi]
  split <;> decide
theorem tkW_le {t : Nat → Int32} {n : Nat} (h : nnT t n) : tkW t n ≤ 100000 * n := by
  induction n with
  | zero => exact Nat.le_refl _
  | succ n ih =>
    have ih := ih (fun i hi => h i (by omega))
    have hn := h n (by omega)
    rw [tkW_s]
    omega
def eqN (n : Nat) (s s' : (Nat → Int32) × Bool) : Prop := (∀ i, i < n → s.1 i = s'.1 i) ∧ s.2 = s'.2
theorem rxS_cong {cs cs' : Nat → Int32} {nr nc : Nat} (h1 : 2 ≤ nr ∧ nr ≤ 8) (h2 : 2 ≤ nc ∧ nc ≤ 8) (hc : ∀ i, i < nr * nc → cs i = cs' i) {x d : Nat} (hx : x < nr * nc) {s s' : (Nat → Int32) × Bool} (h : (∀ i, i < nr * nc → s.1 i = s'.1 i) ∧ s.2 = s'.2) : (∀ i, i < nr * nc → (rxS cs nr nc x d s).1 i = (rxS cs' nr nc x d s').1 i) ∧ (rxS cs nr nc x d s).2 = (rxS cs' nr nc x d s').2 := by
  have hcl := cells_le h1 h2
  by_cases e : bsM nr nc (nI x) (nI d) = -4
  · have e1 : rxS cs nr nc x d s = s := by rw [rxS, rxB, e]; rfl
    have e2 : rxS cs' nr nc x d s' = s' := by rw [rxS, rxB, e]; rfl
    rw [e1, e2]; exact h
  · obtain ⟨j, hj, ej⟩ := bsM_in h1 h2 e
    have eb : rxB cs s.1 x (bsM nr nc (nI x) (nI d)) = rxB cs' s'.1 x (bsM nr nc (nI x) (nI d)) := by
      rw [rxB, rxB, ej, nI_clamp (by omega), hc j hj, h.1 j hj, h.1 x hx]
    unfold rxS
    rw [eb]
    split
    · refine ⟨fun i hi => ?_, rfl⟩
      simp only
      rw [ej, nI_clamp (by omega), hc j hj, h.1 j hj]
      by_cases e2 : i = x
      · subst e2; rw [pk_us, pk_us]
      · rw [pk_un e2, pk_un e2]; exact h.1 i hi
    · exact h
theorem rxC_cong {cs cs' : Nat → Int32} {nr nc : Nat} (h1 : 2 ≤ nr ∧ nr ≤ 8) (h2 : 2 ≤ nc ∧ nc ≤ 8) (hc : ∀ i, i < nr * nc → cs i = cs' i) {x : Nat} (hx : x < nr * nc) {s s' : (Nat → Int32) × Bool} (h : eqN (nr * nc) s s') (k : Nat) : eqN (nr * nc) (rxC cs nr nc x s k) (rxC cs' nr nc x s' k) := by
  induction k with
  | zero => exact h
  | succ k ih => rw [rxC_s, rxC_s]; exact rxS_cong h1 h2 hc hx ih
theorem rxA_cong {cs cs' t t' : Nat → Int32} {nr nc : Nat} (h1 : 2 ≤ nr ∧ nr ≤ 8) (h2 : 2 ≤ nc ∧ nc ≤ 8) (hc : ∀ i, i < nr * nc → cs i = cs' i) (ht : ∀ i, i < nr * nc → t i = t' i) {k : Nat} (hk : k ≤ nr * nc) : eqN (nr * nc) (rxA cs nr nc t k) (rxA cs' nr nc t' k) := by
  induction k with
  | zero =>
    rw [rxA_0, rxA_0]
    exact ⟨ht, rfl⟩
  | succ k ih => rw [rxA_s, rxA_s]; exact rxC_cong h1 h2 hc (by omega) (ih (by omega)) 4
theorem fnL_cong {cs cs' : Nat → Int32} {nr nc : Nat} (h1 : 2 ≤ nr ∧ nr ≤ 8) (h2 : 2 ≤ nc ∧ nc ≤ 8) (hc : ∀ i, i < nr * nc → cs i = cs' i) : ∀ (f : Nat) (t t' : Nat → Int32), (∀ i, i < nr * nc → t i = t' i) → ∀ i, i < nr * nc → fnL cs nr nc f t i = fnL cs' nr nc f t' i
  | 0, t, t', ht => ht
  | f + 1, t, t', ht => by
    have h := rxA_cong h1 h2 hc ht (Nat.le_refl _)
    rw [fnL, fnL, ← h.2]
    split
    · exact fnL_cong h1 h2 hc f _ _ h.1
    · exact h.1
theorem fnL_of {cs c : Nat → Int32} {nr nc : Nat} (h1 : 2 ≤ nr ∧ nr ≤ 8) (h2 : 2 ≤ nc ∧ nc ≤ 8) (hc : ∀ i, i < nr * nc → cs i = c i) (tk : Nat → Int32) (b : Nat) {i : Nat} (hi : i < nr * nc) : fnL cs nr nc fuF (fiI tk (nI b) (nr * nc)) i = fnX nr nc c b i :=
  fnL_cong h1 h2 hc fuF _ _ (fun j hj => fiI_in tk (nI b) _ hj) i hi
def cst (v : Int64) (x y : Int32) : Nat → Int32 := fun k => if hsM v k then x else y
def csI (v : Int64) (x y : Int32) (cs : Nat → Int32) (n : Nat) : Nat → Int32 := it (fun k c => upd c k (cst v x y k)) cs n
theorem csI_in (v : Int64) (x y : Int32) (cs : Nat → Int32) (n : Nat) : ∀ i, i < n → csI v x y cs n i = cst v x y i := fun i h => by
  rw [csI, itupd (cst v x y), if_pos h]
theorem cst_nn {v : Int64} {x y : Int32} (hx : 0 ≤ x.toInt ∧ x.toInt ≤ 100000) (hy : 0 ≤ y.toInt ∧ y.toInt ≤ 100000) (cs : Nat → Int32) (n : Nat) : nnT (csI v x y cs n) n := fun i h => by
  rw [csI_in _ _ _ _ _ i h, cst]
  split
  · exact hx
  · exact hy
def bi1 (v : Int64) : Nat → Int32 := fun k => ((v >>> ((nI k).toInt64 &&& 63)) &&& 1).toInt32
def csB (v : Int64) (cs : Nat → Int32) (n : Nat) : Nat → Int32 := it (fun k c => upd c k (bi1 v k)) cs n
theorem csB_in (v : Int64) (cs : Nat → Int32) (n : Nat) : ∀ i, i < n → csB v cs n i = bi1 v i := fun i h => by
  rw [csB, itupd (bi1 v), if_pos h]
theorem csB_nn (v : Int64) (cs : Nat → Int32) (n : Nat) : nnT (csB v cs n) n := fun i h => by
  rw [csB_in _ _ _ i h, bi1]
  rcases and1 (v >>> ((nI i).toInt64 &&& 63)) with z | z <;> rw [z] <;> decide
def stX (nr nc : Nat) (v : Int64) (a b : Nat) : Int32 := if hsM v a && hsM v b then (if fnX nr nc (cst v 1 100000) b a < 100000 then fnX nr nc (cst v 1 100000) b a else -4) else -4

set_option maxHeartbeats 4000000 in
set_option maxRecDepth 100000 in
theorem c_X10_findTo (l : Launch) (G : Gv) (q0 : Nat) (q1 : Nat) (q2 : Nat) (q3 : Nat) (q4 : Nat) (q5 : Nat) (q6 : Nat) (q7 : Nat) (q8 : Nat) (q9 : Nat) (q10 : Nat) (q11 : Nat) (q12 : Nat) (q13 : Nat) (q14 : Nat) (tx : Nat → Int32) (ro : Nat → Int32) (co : Nat → Int32) (mp : Nat → Int32) (my : Nat → Int32) (md : Nat → Int32) (mr : Nat → Int32) (dr : Nat → Int32) (nw : Nat → Int32) (tk : Nat → Int32) (cs : Nat → Int32) (sa : Nat → Int32) (go : Nat → Int32) (to : Nat → Int32) (ty : Nat) (dm : Nat) (at_ : Nat) (so : Bool) (de : Nat) (ke : Nat) (sm : Nat) (nr : Nat) (nc : Nat) (b : Int32) (hro : ro 0 = nI nr) (hco : co 0 = nI nc) (hg1 : 2 ≤ nr ∧ nr ≤ 8) (hg2 : 2 ≤ nc ∧ nc ≤ 8) (hcs : nnT cs (nr * nc)) : Ct l yX10_findTo cX10_findTo 6 none (rmz 2 46) G [.ref q0, .int b] [(q0, .inr (10, [.ref q1, .int (nI ty), .ref q2, .ref q3, .ref q4, .ref q5, .ref q6, .ref q7, .ref q8, .int (nI dm), .int (nI at_), .int (zb so), .ref q9, .int (nI de), .int (nI ke), .ref q10, .ref q11, .ref q12, .int (nI sm), .ref q13, .ref q14])), (q1, .inl (kB G, 200, .inl tx)), (q2, .inl (kI G, 2, .inl ro)), (q3, .inl (kI G, 2, .inl co)), (q4, .inl (kI G, 2, .inl mp)), (q5, .inl (kI G, 10, .inl my)), (q6, .inl (kI G, 10, .inl md)), (q7, .inl (kI G, 10, .inl mr)), (q8, .inl (kI G, 40, .inl dr)), (q9, .inl (kI G, 504, .inl nw)), (q10, .inl (kI G, 64, .inl tk)), (q11, .inl (kI G, 64, .inl cs)), (q12, .inl (kI G, 12, .inl sa)), (q13, .inl (kI G, 8, .inl go)), (q14, .inl (kI G, 2048, .inl to))] (one none [(q0, .inr (10, [.ref q1, .int (nI ty), .ref q2, .ref q3, .ref q4, .ref q5, .ref q6, .ref q7, .ref q8, .int (nI dm), .int (nI at_), .int (zb so), .ref q9, .int (nI de), .int (nI ke), .ref q10, .ref q11, .ref q12, .int (nI sm), .ref q13, .ref q14])), (q1, .inl (kB G, 200, .inl tx)), (q2, .inl (kI G, 2, .inl ro)), (q3, .inl (kI G, 2, .inl co)), (q4, .inl (kI G, 2, .inl mp)), (q5, .inl (kI G, 10, .inl my)), (q6, .inl (kI G, 10, .inl md)), (q7, .inl (kI G, 10, .inl mr)), (q8, .inl (kI G, 40, .inl dr)), (q9, .inl (kI G, 504, .inl nw)), (q10, .inl (kI G, 64, .inl (fnL cs nr nc fuF (fiI tk b (nr * nc))))), (q11, .inl (kI G, 64, .inl cs)), (q12, .inl (kI G, 12, .inl sa)), (q13, .inl (kI G, 8, .inl go)), (q14, .inl (kI G, 2048, .inl to))]) := by
  refine Ct.ofW (by decide) (Nat.le_of_ble_eq_true rfl) ?_
  intro p e s m below meth c ls A hx hb hml hr hown hts hlk hnm hP hD hA hE hS hl
  obtain ⟨H, eH⟩ : ∃ H : Heap, H = s.heap := ⟨_, rfl⟩
  obtain ⟨locs, eL⟩ : ∃ ll : List Loc, ll = [] := ⟨_, rfl⟩
  rw [← eH] at hP
  have hS : va_S A s.heap H locs := by rw [eH, eL]; exact hS
  show WC p l e _ s m _ below meth c G A _ s.heap [] 0 0 _
  rw [← eH, ← eL]
  clear eH eL
  have hl : lv_has ls 6 [(0, .ref q0), (1, .int b)] := hl
  have hcl := cells_le hg1 hg2
  have J_36 : ∀ (n_ : Nat) (t : Nat → Int32) (mo : Bool) (f : Nat) (hnn : nnT t (nr * nc)) (hf : mo = true → tkW t (nr * nc) < f) (hF : fnL cs nr nc fuF (fiI tk b (nr * nc)) = if mo then fnL cs nr nc f t else t) (hm_36 : 2 * tkW t (nr * nc) + (if mo then 1 else 0) < n_), ∀ (H : Heap) (locs : List Loc), va_P G.1 vwCl [(q0, .inr (10, [.ref q1, .int (nI ty), .ref q2, .ref q3, .ref q4, .ref q5, .ref q6, .ref q7, .ref q8, .int (nI dm), .int (nI at_), .int (zb so), .ref q9, .int (nI de), .int (nI ke), .ref q10, .ref q11, .ref q12, .int (nI sm), .ref q13, .ref q14])), (q1, .inl (kB G, 200, .inl tx)), (q2, .inl (kI G, 2, .inl ro)), (q3, .inl (kI G, 2, .inl co)), (q4, .inl (kI G, 2, .inl mp)), (q5, .inl (kI G, 10, .inl my)), (q6, .inl (kI G, 10, .inl md)), (q7, .inl (kI G, 10, .inl mr)), (q8, .inl (kI G, 40, .inl dr)), (q9, .inl (kI G, 504, .inl nw)), (q10, .inl (kI G, 64, .inl t)), (q11, .inl (kI G, 64, .inl cs)), (q12, .inl (kI G, 12, .inl sa)), (q13, .inl (kI G, 8, .inl go)), (q14, .inl (kI G, 2048, .inl to))] H → va_D A [(q0, .inr (10, [.ref q1, .int (nI ty), .ref q2, .ref q3, .ref q4, .ref q5, .ref q6, .ref q7, .ref q8, .int (nI dm), .int (nI at_), .int (zb so), .ref q9, .int (nI de), .int (nI ke), .ref q10, .ref q11, .ref q12, .int (nI sm), .ref q13, .ref q14])), (q1, .inl (kB G, 200, .inl tx)), (q2, .inl (kI G, 2, .inl ro)), (q3, .inl (kI G, 2, .inl co)), (q4, .inl (kI G, 2, .inl mp)), (q5, .inl (kI G, 10, .inl my)), (q6, .inl (kI G, 10, .inl md)), (q7, .inl (kI G, 10, .inl mr)), (q8, .inl (kI G, 40, .inl dr)), (q9, .inl (kI G, 504, .inl nw)), (q10, .inl (kI G, 64, .inl t)), (q11, .inl (kI G, 64, .inl cs)), (q12, .inl (kI G, 12, .inl sa)), (q13, .inl (kI G, 8, .inl go)), (q14, .inl (kI G, 2048, .inl to))] → va_S A s.heap H locs → ∀ ls : Array Slot, lv_has ls 6 [(0, .ref q0), (1, .int b), (2, .int (zb mo))] → WC p l e (rmz 2 46) s m [.ref q0, .int b] below meth c G A (one none [(q0, .inr (10, [.ref q1, .int (nI ty), .ref q2, .ref q3, .ref q4, .ref q5, .ref q6, .ref q7, .ref q8, .int (nI dm), .int (nI at_), .int (zb so), .ref q9, .int (nI de), .int (nI ke), .ref q10, .ref q11, .ref q12, .int (nI sm), .ref q13, .ref q14])), (q1, .inl (kB G, 200, .inl tx)), (q2, .inl (kI G, 2, .inl ro)), (q3, .inl (kI G, 2, .inl co)), (q4, .inl (kI G, 2, .inl mp)), (q5, .inl (kI G, 10, .inl my)), (q6, .inl (kI G, 10, .inl md)), (q7, .inl (kI G, 10, .inl mr)), (q8, .inl (kI G, 40, .inl dr)), (q9, .inl (kI G, 504, .inl nw)), (q10, .inl (kI G, 64, .inl (fnL cs nr nc fuF (fiI tk b (nr * nc))))), (q11, .inl (kI G, 64, .inl cs)), (q12, .inl (kI G, 12, .inl sa)), (q13, .inl (kI G, 8, .inl go)), (q14, .inl (kI G, 2048, .inl to))]) H locs 0 0 (F0 m 36 ls []) := by
    intro n_
    induction n_ with
    | zero =>
      intro t mo f hnn hf hF hm_36
      exact absurd hm_36 (Nat.not_lt_zero _)
    | succ n_ ih_36 =>
      intro t mo f hnn hf hF hm_36 H locs hP hD hS ls hl
      have J_44 : ∀ (n_ : Nat) (k : Nat) (t1 : Nat → Int32) (mo1 : Bool) (hmo : mo = true) (hk : k ≤ nr * nc) (hR : (t1, mo1) = rxA cs nr nc t k) (hm_44 : nr * nc - k < n_), ∀ (H : Heap) (locs : List Loc), va_P G.1 vwCl [(q0, .inr (10, [.ref q1, .int (nI ty), .ref q2, .ref q3, .ref q4, .ref q5, .ref q6, .ref q7, .ref q8, .int (nI dm), .int (nI at_), .int (zb so), .ref q9, .int (nI de), .int (nI ke), .ref q10, .ref q11, .ref q12, .int (nI sm), .ref q13, .ref q14])), (q1, .inl (kB G, 200, .inl tx)), (q2, .inl (kI G, 2, .inl ro)), (q3, .inl (kI G, 2, .inl co)), (q4, .inl (kI G, 2, .inl mp)), (q5, .inl (kI G, 10, .inl my)), (q6, .inl (kI G, 10, .inl md)), (q7, .inl (kI G, 10, .inl mr)), (q8, .inl (kI G, 40, .inl dr)), (q9, .inl (kI G, 504, .inl nw)), (q10, .inl (kI G, 64, .inl t1)), (q11, .inl (kI G, 64, .inl cs)), (q12, .inl (kI G, 12, .inl sa)), (q13, .inl (kI G, 8, .inl go)), (q14, .inl (kI G, 2048, .inl to))] H → va_D A [(q0, .inr (10, [.ref q1, .int (nI ty), .ref q2, .ref q3, .ref q4, .ref q5, .ref q6, .ref q7, .ref q8, .int (nI dm), .int (nI at_), .int (zb so), .ref q9, .int (nI de), .int (nI ke), .ref q10, .ref q11, .ref q12, .int (nI sm), .ref q13, .ref q14])), (q1, .inl (kB G, 200, .inl tx)), (q2, .inl (kI G, 2, .inl ro)), (q3, .inl (kI G, 2, .inl co)), (q4, .inl (kI G, 2, .inl mp)), (q5, .inl (kI G, 10, .inl my)), (q6, .inl (kI G, 10, .inl md)), (q7, .inl (kI G, 10, .inl mr)), (q8, .inl (kI G, 40, .inl dr)), (q9, .inl (kI G, 504, .inl nw)), (q10, .inl (kI G, 64, .inl t1)), (q11, .inl (kI G, 64, .inl cs)), (q12, .inl (kI G, 12, .inl sa)), (q13, .inl (kI G, 8, .inl go)), (q14, .inl (kI G, 2048, .inl to))] → va_S A s.heap H locs → ∀ ls : Array Slot, lv_has ls 6 [(0, .ref q0), (1, .int b), (2, .int (zb mo1)), (3, .int (nI k))] → WC p l e (rmz 2 46) s m [.ref q0, .int b] below meth c G A (one none [(q0, .inr (10, [.ref q1, .int (nI ty), .ref q2, .ref q3, .ref q4, .ref q5, .ref q6, .ref q7, .ref q8, .int (nI dm), .int (nI at_), .int (zb so), .ref q9, .int (nI de), .int (nI ke), .ref q10, .ref q11, .ref q12, .int (nI sm), .ref q13, .ref q14])), (q1, .inl (kB G, 200, .inl tx)), (q2, .inl (kI G, 2, .inl ro)), (q3, .inl (kI G, 2, .inl co)), (q4, .inl (kI G, 2, .inl mp)), (q5, .inl (kI G, 10, .inl my)), (q6, .inl (kI G, 10, .inl md)), (q7, .inl (kI G, 10, .inl mr)), (q8, .inl (kI G, 40, .inl dr)), (q9, .inl (kI G, 504, .inl nw)), (q10, .inl (kI G, 64, .inl (fnL cs nr nc fuF (fiI tk b (nr * nc))))), (q11, .inl (kI G, 64, .inl cs)), (q12, .inl (kI G, 12, .inl sa)), (q13, .inl (kI G, 8, .inl go)), (q14, .inl (kI G, 2048, .inl to))]) H locs 0 0 (F0 m 44 ls []) := by
        intro n_
        induction n_ with
        | zero =>
          intro k t1 mo1 hmo hk hR hm_44
          exact absurd hm_44 (Nat.not_lt_zero _)
        | succ n_ ih_44 =>
          intro k t1 mo1 hmo hk hR hm_44 H locs hP hD hS ls hl
          have J_56 : ∀ (n_ : Nat) (d : Nat) (t2 : Nat → Int32) (mo2 : Bool) (hkn : k < nr * nc) (hd : d ≤ 4) (hC : (t2, mo2) = rxC cs nr nc k (rxA cs nr nc t k) d) (hm_56 : 4 - d < n_), ∀ (H : Heap) (locs : List Loc), va_P G.1 vwCl [(q0, .inr (10, [.ref q1, .int (nI ty), .ref q2, .ref q3, .ref q4, .ref q5, .ref q6, .ref q7, .ref q8, .int (nI dm), .int (nI at_), .int (zb so), .ref q9, .int (nI de), .int (nI ke), .ref q10, .ref q11, .ref q12, .int (nI sm), .ref q13, .ref q14])), (q1, .inl (kB G, 200, .inl tx)), (q2, .inl (kI G, 2, .inl ro)), (q3, .inl (kI G, 2, .inl co)), (q4, .inl (kI G, 2, .inl mp)), (q5, .inl (kI G, 10, .inl my)), (q6, .inl (kI G, 10, .inl md)), (q7, .inl (kI G, 10, .inl mr)), (q8, .inl (kI G, 40, .inl dr)), (q9, .inl (kI G, 504, .inl nw)), (q10, .inl (kI G, 64, .inl t2)), (q11, .inl (kI G, 64, .inl cs)), (q12, .inl (kI G, 12, .inl sa)), (q13, .inl (kI G, 8, .inl go)), (q14, .inl (kI G, 2048, .inl to))] H → va_D A [(q0, .inr (10, [.ref q1, .int (nI ty), .ref q2, .ref q3, .ref q4, .ref q5, .ref q6, .ref q7, .ref q8, .int (nI dm), .int (nI at_), .int (zb so), .ref q9, .int (nI de), .int (nI ke), .ref q10, .ref q11, .ref q12, .int (nI sm), .ref q13, .ref q14])), (q1, .inl (kB G, 200, .inl tx)), (q2, .inl (kI G, 2, .inl ro)), (q3, .inl (kI G, 2, .inl co)), (q4, .inl (kI G, 2, .inl mp)), (q5, .inl (kI G, 10, .inl my)), (q6, .inl (kI G, 10, .inl md)), (q7, .inl (kI G, 10, .inl mr)), (q8, .inl (kI G, 40, .inl dr)), (q9, .inl (kI G, 504, .inl nw)), (q10, .inl (kI G, 64, .inl t2)), (q11, .inl (kI G, 64, .inl cs)), (q12, .inl (kI G, 12, .inl sa)), (q13, .inl (kI G, 8, .inl go)), (q14, .inl (kI G, 2048, .inl to))] → va_S A s.heap H locs → ∀ ls : Array Slot, lv_has ls 6 [(0, .ref q0), (1, .int b), (2, .int (zb mo2)), (3, .int (nI k)), (4, .int (nI d))] → WC p l e (rmz 2 46) s m [.ref q0, .int b] below meth c G A (one none [(q0, .inr (10, [.ref q1, .int (nI ty), .ref q2, .ref q3, .ref q4, .ref q5, .ref q6, .ref q7, .ref q8, .int (nI dm), .int (nI at_), .int (zb so), .ref q9, .int (nI de), .int (nI ke), .ref q10, .ref q11, .ref q12, .int (nI sm), .ref q13, .ref q14])), (q1, .inl (kB G, 200, .inl tx)), (q2, .inl (kI G, 2, .inl ro)), (q3, .inl (kI G, 2, .inl co)), (q4, .inl (kI G, 2, .inl mp)), (q5, .inl (kI G, 10, .inl my)), (q6, .inl (kI G, 10, .inl md)), (q7, .inl (kI G, 10, .inl mr)), (q8, .inl (kI G, 40, .inl dr)), (q9, .inl (kI G, 504, .inl nw)), (q10, .inl (kI G, 64, .inl (fnL cs nr nc fuF (fiI tk b (nr * nc))))), (q11, .inl (kI G, 64, .inl cs)), (q12, .inl (kI G, 12, .inl sa)), (q13, .inl (kI G, 8, .inl go)), (q14, .inl (kI G, 2048, .inl to))]) H locs 0 0 (F0 m 56 ls []) := by
            intro n_
            induction n_ with
            | zero =>
              intro d t2 mo2 hkn hd hC hm_56
              exact absurd hm_56 (Nat.not_lt_zero _)
            | succ n_ ih_56 =>
              intro d t2 mo2 hkn hd hC hm_56 H locs hP hD hS ls hl
              refine lv_iload hx hb dX10_findTo_56 (lv_at hl 4 rfl) ?_
              refine lv_iconst (v := 4) hx hb dX10_findTo_58 (by decide) ?_
              refine lv_icmp_ge (tgt := 155) hx hb dX10_findTo_59 (by decide) (fun c59 => ?_) (fun c59 => ?_)
              · have hdn : 4 ≤ d := le_of_le (n := 4) (by omega) (by omega) c59
                have hC9 := (show d = 4 by omega) ▸ hC
                refine lv_iinc (v := nI (k + 1)) (lv' := [(3, .int (nI (k + 1))), (0, .ref q0), (1, .int b), (2, .int (zb mo2)), (4, .int (nI d))]) hx hb dX10_findTo_155 hl (k := 3) rfl (nI_1 k) (by decide) rfl (fun ls hl => ?_)
                refine lv_goto (tgt := 44) hx hb dX10_findTo_158 (by decide) ?_
                exact ih_44 (k + 1) t2 mo2 hmo (by first | assumption | omega | rfl) (by rw [rxA, it_s, hC9]; rfl) (by omega) _ _ hP hD hS ls (lv_sub hl [1, 2, 3, 0] rfl)
              · have hdn : d < 4 := lt_of_nle (n := 4) (by omega) (by omega) c59
                refine lv_aload_n hx hb dX10_findTo_62 rfl (lv_at hl 0 rfl) ?_
                refine lv_iload_n hx hb dX10_findTo_63 rfl (lv_at hl 3 rfl) ?_
                refine lv_iload hx hb dX10_findTo_64 (lv_at hl 4 rfl) ?_
                refine rd_callV (As := [.int (nI k), .int (nI d)]) (rest := []) hx hb hml hown hts (hE.at0 hS) hl.1 (c_X10_beside l G q0 q1 q2 q3 q4 q5 q6 q7 q8 q9 q10 q11 q12 q13 q14 tx ro co mp my md mr dr nw t2 cs sa go to ty dm at_ so de ke sm nr nc (nI k) (nI d) (by first | assumption | omega) (by first | assumption | omega) (by first | assumption | omega) (by first | assumption | omega)) (cw_X10_155 hts) ⟨(Nat.le_of_ble_eq_true rfl), (Nat.le_of_ble_eq_true rfl)⟩ ⟨Nat.zero_le _, Nat.zero_le _⟩ rfl (sub_P hP [0, 1, 2, 3, 4, 5, 6, 7, 8, 9, 10, 11, 12, 13, 14] rfl) rfl rfl rfl rfl (Nat.le_of_ble_eq_true rfl) dX10_findTo_66 ?_
                refine lv_istore (lv' := [(5, .int (bsM nr nc (nI k) (nI d))), (0, .ref q0), (1, .int b), (2, .int (zb mo2)), (3, .int (nI k)), (4, .int (nI d))]) hx hb dX10_findTo_69 hl (by decide) rfl (fun ls hl => ?_)
                refine lv_iload hx hb dX10_findTo_71 (lv_at hl 0 rfl) ?_
                refine lv_bipush (v := -4) hx hb dX10_findTo_73 (by decide) ?_
                refine lv_icmp_eq (tgt := 149) hx hb dX10_findTo_75 (by decide) (fun c75 => ?_) (fun c75 => ?_)
                · refine lv_iinc (v := nI (d + 1)) (lv' := [(4, .int (nI (d + 1))), (5, .int (bsM nr nc (nI k) (nI d))), (0, .ref q0), (1, .int b), (2, .int (zb mo2)), (3, .int (nI k))]) hx hb dX10_findTo_149 hl (k := 5) rfl (nI_1 d) (by decide) rfl (fun ls hl => ?_)
                  refine lv_goto (tgt := 56) hx hb dX10_findTo_152 (by decide) ?_
                  have hC0 := hC
                  rw [rxC] at hC0
                  exact ih_56 (d + 1) t2 mo2 (by first | assumption | omega | rfl) (by first | assumption | omega | rfl) (by rw [rxC, it_s]; simp only [← hC0]; first | (simp [rxS, rxB, c59, c75]; done) | simp [rxS, rxB, ej, c59, c75]) (by omega) _ _ hP hD hS ls (lv_sub hl [2, 3, 4, 5, 0] rfl)
                · obtain ⟨j, hj, ej⟩ := bsM_in hg1 hg2 c75
                  refine lv_aload_n hx hb dX10_findTo_78 rfl (lv_at hl 1 rfl) ?_
                  refine va_get hx hb hts inlX10 hown hE.1 hP 0 rfl rfl 16 (by decide) (fl_X10_41 hts) (fun _ h9 => h9) rfl dX10_findTo_79 ?_
                  refine lv_iload hx hb dX10_findTo_82 (lv_at hl 0 rfl) ?_
                  refine va_iald hx hb hE.1 hP 11 0 rfl rfl (by rw [ej]; exact vp_in_nI (by omega) (by omega)) dX10_findTo_84 ?_
                  refine lv_ldc hx hb hown (cn_X10_57 hts) dX10_findTo_85 ?_
                  refine lv_icmp_ge (tgt := 149) hx hb dX10_findTo_87 (by decide) (fun c87 => ?_) (fun c87 => ?_)
                  · refine lv_iinc (v := nI (d + 1)) (lv' := [(4, .int (nI (d + 1))), (5, .int (bsM nr nc (nI k) (nI d))), (0, .ref q0), (1, .int b), (2, .int (zb mo2)), (3, .int (nI k))]) hx hb dX10_findTo_149 hl (k := 5) rfl (nI_1 d) (by decide) rfl (fun ls hl => ?_)
                    refine lv_goto (tgt := 56) hx hb dX10_findTo_152 (by decide) ?_
                    have hC0 := hC
                    rw [rxC] at hC0
                    exact ih_56 (d + 1) t2 mo2 (by first | assumption | omega | rfl) (by first | assumption | omega | rfl) (by rw [rxC, it_s]; simp only [← hC0]; first | (simp [rxS, rxB, c59, c75, c87]; done) | simp [rxS, rxB, ej, c59, c75, c87]) (by omega) _ _ hP hD hS ls (lv_sub hl [2, 3, 4, 5, 0] rfl)
                  · refine lv_aload_n hx hb dX10_findTo_90 rfl (lv_at hl 1 rfl) ?_
                    refine va_get hx hb hts inlX10 hown hE.1 hP 0 rfl rfl 15 (by decide) (fl_X10_38 hts) (fun _ h9 => h9) rfl dX10_findTo_91 ?_
                    refine lv_iload hx hb dX10_findTo_94 (lv_at hl 0 rfl) ?_
                    refine va_iald hx hb hE.1 hP 10 0 rfl rfl (by rw [ej]; exact vp_in_nI (by omega) (by omega)) dX10_findTo_96 ?_
                    refine lv_ldc hx hb hown (cn_X10_57 hts) dX10_findTo_97 ?_
                    refine lv_icmp_ge (tgt := 149) hx hb dX10_findTo_99 (by decide) (fun c99 => ?_) (fun c99 => ?_)
                    · refine lv_iinc (v := nI (d + 1)) (lv' := [(4, .int (nI (d + 1))), (5, .int (bsM nr nc (nI k) (nI d))), (0, .ref q0), (1, .int b), (2, .int (zb mo2)), (3, .int (nI k))]) hx hb dX10_findTo_149 hl (k := 5) rfl (nI_1 d) (by decide) rfl (fun ls hl => ?_)
                      refine lv_goto (tgt := 56) hx hb dX10_findTo_152 (by decide) ?_
                      have hC0 := hC
                      rw [rxC] at hC0
                      exact ih_56 (d + 1) t2 mo2 (by first | assumption | omega | rfl) (by first | assumption | omega | rfl) (by rw [rxC, it_s]; simp only [← hC0]; first | (simp [rxS, rxB, c59, c75, c87, c99]; done) | simp [rxS, rxB, ej, c59, c75, c87, c99]) (by omega) _ _ hP hD hS ls (lv_sub hl [2, 3, 4, 5, 0] rfl)
                    · refine lv_aload_n hx hb dX10_findTo_102 rfl (lv_at hl 1 rfl) ?_
                      refine va_get hx hb hts inlX10 hown hE.1 hP 0 rfl rfl 16 (by decide) (fl_X10_41 hts) (fun _ h9 => h9) rfl dX10_findTo_103 ?_
                      refine lv_iload hx hb dX10_findTo_106 (lv_at hl 0 rfl) ?_
                      refine va_iald hx hb hE.1 hP 11 0 rfl rfl (by rw [ej]; exact vp_in_nI (by omega) (by omega)) dX10_findTo_108 ?_
                      refine lv_aload_n hx hb dX10_findTo_109 rfl (lv_at hl 1 rfl) ?_
                      refine va_get hx hb hts inlX10 hown hE.1 hP 0 rfl rfl 15 (by decide) (fl_X10_38 hts) (fun _ h9 => h9) rfl dX10_findTo_110 ?_
                      refine lv_iload hx hb dX10_findTo_113 (lv_at hl 0 rfl) ?_
                      refine va_iald hx hb hE.1 hP 10 0 rfl rfl (by rw [ej]; exact vp_in_nI (by omega) (by omega)) dX10_findTo_115 ?_
                      refine lv_iadd hx hb dX10_findTo_116 ?_
                      refine lv_aload_n hx hb dX10_findTo_117 rfl (lv_at hl 1 rfl) ?_
                      refine va_get hx hb hts inlX10 hown hE.1 hP 0 rfl rfl 15 (by decide) (fl_X10_38 hts) (fun _ h9 => h9) rfl dX10_findTo_118 ?_
                      refine lv_iload_n hx hb dX10_findTo_121 rfl (lv_at hl 4 rfl) ?_
                      refine va_iald hx hb hE.1 hP 10 0 rfl rfl (vp_in_nI (by omega) (by omega)) dX10_findTo_122 ?_
                      rw [nI_clamp (show k < 2 ^ 31 by omega)]
                      refine lv_icmp_ge (tgt := 149) hx hb dX10_findTo_123 (by decide) (fun c123 => ?_) (fun c123 => ?_)
                      · refine lv_iinc (v := nI (d + 1)) (lv' := [(4, .int (nI (d + 1))), (5, .int (bsM nr nc (nI k) (nI d))), (0, .ref q0), (1, .int b), (2, .int (zb mo2)), (3, .int (nI k))]) hx hb dX10_findTo_149 hl (k := 5) rfl (nI_1 d) (by decide) rfl (fun ls hl => ?_)
                        refine lv_goto (tgt := 56) hx hb dX10_findTo_152 (by decide) ?_
                        have hC0 := hC
                        rw [rxC] at hC0
                        exact ih_56 (d + 1) t2 mo2 (by first | assumption | omega | rfl) (by first | assumption | omega | rfl) (by rw [rxC, it_s]; simp only [← hC0]; first | (simp [rxS, rxB, c59, c75, c87, c99, c123]; done) | simp [rxS, rxB, ej, c59, c75, c87, c99, c123]) (by omega) _ _ hP hD hS ls (lv_sub hl [2, 3, 4, 5, 0] rfl)
                      · refine lv_aload_n hx hb dX10_findTo_126 rfl (lv_at hl 1 rfl) ?_
                        refine va_get hx hb hts inlX10 hown hE.1 hP 0 rfl rfl 15 (by decide) (fl_X10_38 hts) (fun _ h9 => h9) rfl dX10_findTo_127 ?_
                        refine lv_iload_n hx hb dX10_findTo_130 rfl (lv_at hl 4 rfl) ?_
                        refine lv_aload_n hx hb dX10_findTo_131 rfl (lv_at hl 1 rfl) ?_
                        refine va_get hx hb hts inlX10 hown hE.1 hP 0 rfl rfl 16 (by decide) (fl_X10_41 hts) (fun _ h9 => h9) rfl dX10_findTo_132 ?_
                        refine lv_iload hx hb dX10_findTo_135 (lv_at hl 0 rfl) ?_
                        refine va_iald hx hb hE.1 hP 11 0 rfl rfl (by rw [ej]; exact vp_in_nI (by omega) (by omega)) dX10_findTo_137 ?_
                        refine lv_aload_n hx hb dX10_findTo_138 rfl (lv_at hl 1 rfl) ?_
                        refine va_get hx hb hts inlX10 hown hE.1 hP 0 rfl rfl 15 (by decide) (fl_X10_38 hts) (fun _ h9 => h9) rfl dX10_findTo_139 ?_
                        refine lv_iload hx hb dX10_findTo_142 (lv_at hl 0 rfl) ?_
                        refine va_iald hx hb hE.1 hP 10 0 rfl rfl (by rw [ej]; exact vp_in_nI (by omega) (by omega)) dX10_findTo_144 ?_
                        refine lv_iadd hx hb dX10_findTo_145 ?_
                        refine va_iast hx hb hE.1 hP hD hS 10 0 rfl rfl (vp_in_nI (by omega) (by omega)) dX10_findTo_146 (fun H locs hP hD hS => ?_)
                        rw [nI_clamp (show k < 2 ^ 31 by omega)] at hP hD
                        have hP : va_P G.1 vwCl [(q0, .inr (10, [.ref q1, .int (nI ty), .ref q2, .ref q3, .ref q4, .ref q5, .ref q6, .ref q7, .ref q8, .int (nI dm), .int (nI at_), .int (zb so), .ref q9, .int (nI de), .int (nI ke), .ref q10, .ref q11, .ref q12, .int (nI sm), .ref q13, .ref q14])), (q1, .inl (kB G, 200, .inl tx)), (q2, .inl (kI G, 2, .inl ro)), (q3, .inl (kI G, 2, .inl co)), (q4, .inl (kI G, 2, .inl mp)), (q5, .inl (kI G, 10, .inl my)), (q6, .inl (kI G, 10, .inl md)), (q7, .inl (kI G, 10, .inl mr)), (q8, .inl (kI G, 40, .inl dr)), (q9, .inl (kI G, 504, .inl nw)), (q10, .inl (kI G, 64, .inl (upd t2 k ((cs (bsM nr nc (nI k) (nI d)).toNatClampNeg) + (t2 (bsM nr nc (nI k) (nI d)).toNatClampNeg))))), (q11, .inl (kI G, 64, .inl cs)), (q12, .inl (kI G, 12, .inl sa)), (q13, .inl (kI G, 8, .inl go)), (q14, .inl (kI G, 2048, .inl to))] H := hP
                        have hD : va_D A [(q0, .inr (10, [.ref q1, .int (nI ty), .ref q2, .ref q3, .ref q4, .ref q5, .ref q6, .ref q7, .ref q8, .int (nI dm), .int (nI at_), .int (zb so), .ref q9, .int (nI de), .int (nI ke), .ref q10, .ref q11, .ref q12, .int (nI sm), .ref q13, .ref q14])), (q1, .inl (kB G, 200, .inl tx)), (q2, .inl (kI G, 2, .inl ro)), (q3, .inl (kI G, 2, .inl co)), (q4, .inl (kI G, 2, .inl mp)), (q5, .inl (kI G, 10, .inl my)), (q6, .inl (kI G, 10, .inl md)), (q7, .inl (kI G, 10, .inl mr)), (q8, .inl (kI G, 40, .inl dr)), (q9, .inl (kI G, 504, .inl nw)), (q10, .inl (kI G, 64, .inl (upd t2 k ((cs (bsM nr nc (nI k) (nI d)).toNatClampNeg) + (t2 (bsM nr nc (nI k) (nI d)).toNatClampNeg))))), (q11, .inl (kI G, 64, .inl cs)), (q12, .inl (kI G, 12, .inl sa)), (q13, .inl (kI G, 8, .inl go)), (q14, .inl (kI G, 2048, .inl to))] := hD
                        refine lv_iconst (v := 1) hx hb dX10_findTo_147 (by decide) ?_
                        refine lv_istore_n (lv' := [(2, .int 1), (5, .int (bsM nr nc (nI k) (nI d))), (0, .ref q0), (1, .int b), (3, .int (nI k)), (4, .int (nI d))]) hx hb dX10_findTo_148 rfl hl (by decide) rfl (fun ls hl => ?_)
                        refine lv_iinc (v := nI (d + 1)) (lv' := [(4, .int (nI (d + 1))), (2, .int 1), (5, .int (bsM nr nc (nI k) (nI d))), (0, .ref q0), (1, .int b), (3, .int (nI k))]) hx hb dX10_findTo_149 hl (k := 5) rfl (nI_1 d) (by decide) rfl (fun ls hl => ?_)
                        refine lv_goto (tgt := 56) hx hb dX10_findTo_152 (by decide) ?_
                        have hC0 := hC
                        rw [rxC] at hC0
                        exact ih_56 (d + 1) (upd t2 k ((cs (bsM nr nc (nI k) (nI d)).toNatClampNeg) + (t2 (bsM nr nc (nI k) (nI d)).toNatClampNeg))) true (by first | assumption | omega | rfl) (by first | assumption | omega | rfl) (by rw [rxC, it_s]; simp only [← hC0]; first | (simp [rxS, rxB, c59, c75, c87, c99, c123]; done) | simp [rxS, rxB, ej, c59, c75, c87, c99, c123]) (by omega) _ _ hP hD hS ls (lv_sub hl [3, 4, 1, 5, 0] rfl)
          refine lv_iload_n hx hb dX10_findTo_44 rfl (lv_at hl 3 rfl) ?_
          refine lv_aload_n hx hb dX10_findTo_45 rfl (lv_at hl 0 rfl) ?_
          refine lv_iconst (v := 0) hx hb dX10_findTo_46 (by decide) ?_
          refine rd_callV (As := [.int 0]) (rest := [.int (nI k)]) hx hb hml hown hts (hE.at0 hS) hl.1 (c_X10_cells l G q0 q1 q2 q3 q4 q5 q6 q7 q8 q9 q10 q11 q12 q13 q14 tx ro co mp my md mr dr nw t1 cs sa go to ty dm at_ so de ke sm nr nc (by first | assumption | omega) (by first | assumption | omega) (by first | assumption | omega) (by first | assumption | omega)) (cw_X10_87 hts) ⟨(Nat.le_of_ble_eq_true rfl), (Nat.le_of_ble_eq_true rfl)⟩ ⟨Nat.zero_le _, Nat.zero_le _⟩ rfl (sub_P hP [0, 1, 2, 3, 4, 5, 6, 7, 8, 9, 10, 11, 12, 13, 14] rfl) rfl rfl rfl rfl (Nat.le_of_ble_eq_true rfl) dX10_findTo_47 ?_
          refine lv_icmp_ge (tgt := 161) hx hb dX10_findTo_50 (by decide) (fun c50 => ?_) (fun c50 => ?_)
          · have hkn : nr * nc ≤ k := le_of_le (by omega) (by omega) c50
            obtain rfl : k = nr * nc := by omega
            refine lv_goto (tgt := 36) hx hb dX10_findTo_161 (by decide) ?_
            exact ih_36 t1 mo1 (f - 1) (by have h1 := (rxA_I hg1 hg2 hcs hnn).1; rw [← hR] at h1; exact h1) (fun z => by have h1 := (rxA_I hg1 hg2 hcs hnn).2.1; rw [← hR] at h1; have h1 := h1 z; have h2 := hf hmo; simp only at h1; omega) (by rw [hF, if_pos hmo, show f = (f - 1) + 1 by have := hf hmo; omega, fnL, ← hR]; rfl) (by have h1 := rxA_I hg1 hg2 hcs hnn; rw [← hR] at h1; have hm := hm_36; rw [if_pos hmo] at hm; cases mo1 with | false => (have h2 := h1.2.2.1 rfl; simp only at h2; rw [h2]; simp only [Bool.false_eq_true, if_false]; omega) | true => (have h2 := h1.2.1 rfl; simp only at h2; simp only [if_true]; omega)) _ _ hP hD hS ls (lv_sub hl [0, 1, 2] rfl)
          · have hkn : k < nr * nc := lt_of_nle (by omega) (by omega) c50
            refine lv_iconst (v := 0) hx hb dX10_findTo_53 (by decide) ?_
            refine lv_istore (lv' := [(4, .int 0), (0, .ref q0), (1, .int b), (2, .int (zb mo1)), (3, .int (nI k))]) hx hb dX10_findTo_54 hl (by decide) rfl (fun ls hl => ?_)
            exact J_56 (4 - 0 + 1) 0 t1 mo1 (by first | assumption | omega | rfl) (by first | assumption | omega | rfl) hR (Nat.lt_succ_self _) _ _ hP hD hS ls (lv_sub hl [1, 2, 3, 4, 0] rfl)
      refine lv_iload_n hx hb dX10_findTo_36 rfl (lv_at hl 2 rfl) ?_
      refine lv_if_eq (tgt := 164) hx hb dX10_findTo_37 (by decide) (fun c37 => ?_) (fun c37 => ?_)
      · have c37 := zb_0.mp c37
        exact ct_vret hx hb hr hlk dX10_findTo_164 hP hD hS (by rw [hF, c37]; exact ⟨rfl, rfl⟩)
      · have c37 := zb_n0.mp c37
        refine lv_iconst (v := 0) hx hb dX10_findTo_40 (by decide) ?_
        refine lv_istore_n (lv' := [(2, .int 0), (0, .ref q0), (1, .int b)]) hx hb dX10_findTo_41 rfl hl (by decide) rfl (fun ls hl => ?_)
        refine lv_iconst (v := 0) hx hb dX10_findTo_42 (by decide) ?_
        refine lv_istore_n (lv' := [(3, .int 0), (2, .int 0), (0, .ref q0), (1, .int b)]) hx hb dX10_findTo_43 rfl hl (by decide) rfl (fun ls hl => ?_)
        exact J_44 (nr * nc - 0 + 1) 0 t false c37 (by first | assumption | omega | rfl) rfl (Nat.lt_succ_self _) _ _ hP hD hS ls (lv_sub hl [2, 3, 1, 0] rfl)
  have J_2 : ∀ (n_ : Nat) (k : Nat) (t1 : Nat → Int32) (hk : k ≤ nr * nc) (ha : t1 = fiI tk b k) (hm_2 : nr * nc - k < n_), ∀ (H : Heap) (locs : List Loc), va_P G.1 vwCl [(q0, .inr (10, [.ref q1, .int (nI ty), .ref q2, .ref q3, .ref q4, .ref q5, .ref q6, .ref q7, .ref q8, .int (nI dm), .int (nI at_), .int (zb so), .ref q9, .int (nI de), .int (nI ke), .ref q10, .ref q11, .ref q12, .int (nI sm), .ref q13, .ref q14])), (q1, .inl (kB G, 200, .inl tx)), (q2, .inl (kI G, 2, .inl ro)), (q3, .inl (kI G, 2, .inl co)), (q4, .inl (kI G, 2, .inl mp)), (q5, .inl (kI G, 10, .inl my)), (q6, .inl (kI G, 10, .inl md)), (q7, .inl (kI G, 10, .inl mr)), (q8, .inl (kI G, 40, .inl dr)), (q9, .inl (kI G, 504, .inl nw)), (q10, .inl (kI G, 64, .inl t1)), (q11, .inl (kI G, 64, .inl cs)), (q12, .inl (kI G, 12, .inl sa)), (q13, .inl (kI G, 8, .inl go)), (q14, .inl (kI G, 2048, .inl to))] H → va_D A [(q0, .inr (10, [.ref q1, .int (nI ty), .ref q2, .ref q3, .ref q4, .ref q5, .ref q6, .ref q7, .ref q8, .int (nI dm), .int (nI at_), .int (zb so), .ref q9, .int (nI de), .int (nI ke), .ref q10, .ref q11, .ref q12, .int (nI sm), .ref q13, .ref q14])), (q1, .inl (kB G, 200, .inl tx)), (q2, .inl (kI G, 2, .inl ro)), (q3, .inl (kI G, 2, .inl co)), (q4, .inl (kI G, 2, .inl mp)), (q5, .inl (kI G, 10, .inl my)), (q6, .inl (kI G, 10, .inl md)), (q7, .inl (kI G, 10, .inl mr)), (q8, .inl (kI G, 40, .inl dr)), (q9, .inl (kI G, 504, .inl nw)), (q10, .inl (kI G, 64, .inl t1)), (q11, .inl (kI G, 64, .inl cs)), (q12, .inl (kI G, 12, .inl sa)), (q13, .inl (kI G, 8, .inl go)), (q14, .inl (kI G, 2048, .inl to))] → va_S A s.heap H locs → ∀ ls : Array Slot, lv_has ls 6 [(0, .ref q0), (1, .int b), (2, .int (nI k))] → WC p l e (rmz 2 46) s m [.ref q0, .int b] below meth c G A (one none [(q0, .inr (10, [.ref q1, .int (nI ty), .ref q2, .ref q3, .ref q4, .ref q5, .ref q6, .ref q7, .ref q8, .int (nI dm), .int (nI at_), .int (zb so), .ref q9, .int (nI de), .int (nI ke), .ref q10, .ref q11, .ref q12, .int (nI sm), .ref q13, .ref q14])), (q1, .inl (kB G, 200, .inl tx)), (q2, .inl (kI G, 2, .inl ro)), (q3, .inl (kI G, 2, .inl co)), (q4, .inl (kI G, 2, .inl mp)), (q5, .inl (kI G, 10, .inl my)), (q6, .inl (kI G, 10, .inl md)), (q7, .inl (kI G, 10, .inl mr)), (q8, .inl (kI G, 40, .inl dr)), (q9, .inl (kI G, 504, .inl nw)), (q10, .inl (kI G, 64, .inl (fnL cs nr nc fuF (fiI tk b (nr * nc))))), (q11, .inl (kI G, 64, .inl cs)), (q12, .inl (kI G, 12, .inl sa)), (q13, .inl (kI G, 8, .inl go)), (q14, .inl (kI G, 2048, .inl to))]) H locs 0 0 (F0 m 2 ls []) := by
    intro n_
    induction n_ with
    | zero =>
      intro k t1 hk ha hm_2
      exact absurd hm_2 (Nat.not_lt_zero _)
    | succ n_ ih_2 =>
      intro k t1 hk ha hm_2 H locs hP hD hS ls hl
      refine lv_iload_n hx hb dX10_findTo_2 rfl (lv_at hl 2 rfl) ?_
      refine lv_aload_n hx hb dX10_findTo_3 rfl (lv_at hl 0 rfl) ?_
      refine lv_iconst (v := 0) hx hb dX10_findTo_4 (by decide) ?_
      refine rd_callV (As := [.int 0]) (rest := [.int (nI k)]) hx hb hml hown hts (hE.at0 hS) hl.1 (c_X10_cells l G q0 q1 q2 q3 q4 q5 q6 q7 q8 q9 q10 q11 q12 q13 q14 tx ro co mp my md mr dr nw t1 cs sa go to ty dm at_ so de ke sm nr nc (by first | assumption | omega) (by first | assumption | omega) (by first | assumption | omega) (by first | assumption | omega)) (cw_X10_87 hts) ⟨(Nat.le_of_ble_eq_true rfl), (Nat.le_of_ble_eq_true rfl)⟩ ⟨Nat.zero_le _, Nat.zero_le _⟩ rfl (sub_P hP [0, 1, 2, 3, 4, 5, 6, 7, 8, 9, 10, 11, 12, 13, 14] rfl) rfl rfl rfl rfl (Nat.le_of_ble_eq_true rfl) dX10_findTo_5 ?_
      refine lv_icmp_ge (tgt := 34) hx hb dX10_findTo_8 (by decide) (fun c8 => ?_) (fun c8 => ?_)
      · have hkn : nr * nc ≤ k := le_of_le (by omega) (by omega) c8
        have ha9 : t1 = fiI tk b (nr * nc) := by rw [ha, show k = nr * nc by omega]
        refine lv_iconst (v := 1) hx hb dX10_findTo_34 (by decide) ?_
        refine lv_istore_n (lv' := [(2, .int 1), (0, .ref q0), (1, .int b)]) hx hb dX10_findTo_35 rfl hl (by decide) rfl (fun ls hl => ?_)
        exact J_36 (2 * tkW t1 (nr * nc) + (if true then 1 else 0) + 1) t1 true fuF (by rw [ha9]; exact fiI_nn _ _ _) (fun _ => by rw [ha9]; have := tkW_le (fiI_nn tk b (nr * nc)); rw [fuF]; omega) (by rw [ha9]; rfl) (Nat.lt_succ_self _) _ _ hP hD hS ls (lv_sub hl [1, 2, 0] rfl)
      · have hkn : k < nr * nc := lt_of_nle (by omega) (by omega) c8
        refine lv_aload_n hx hb dX10_findTo_11 rfl (lv_at hl 0 rfl) ?_
        refine va_get hx hb hts inlX10 hown hE.1 hP 0 rfl rfl 15 (by decide) (fl_X10_38 hts) (fun _ h9 => h9) rfl dX10_findTo_12 ?_
        refine lv_iload_n hx hb dX10_findTo_15 rfl (lv_at hl 2 rfl) ?_
        refine lv_iload_n hx hb dX10_findTo_16 rfl (lv_at hl 2 rfl) ?_
        refine lv_iload_n hx hb dX10_findTo_17 rfl (lv_at hl 1 rfl) ?_
        refine lv_icmp_ne (tgt := 25) hx hb dX10_findTo_18 (by decide) (fun c18 => ?_) (fun c18 => ?_)
        · refine lv_ldc hx hb hown (cn_X10_57 hts) dX10_findTo_25 ?_
          refine va_iast hx hb hE.1 hP hD hS 10 0 rfl rfl (vp_in_nI (by omega) (by omega)) dX10_findTo_27 (fun H locs hP hD hS => ?_)
          rw [nI_clamp (show k < 2 ^ 31 by omega)] at hP hD
          have hP : va_P G.1 vwCl [(q0, .inr (10, [.ref q1, .int (nI ty), .ref q2, .ref q3, .ref q4, .ref q5, .ref q6, .ref q7, .ref q8, .int (nI dm), .int (nI at_), .int (zb so), .ref q9, .int (nI de), .int (nI ke), .ref q10, .ref q11, .ref q12, .int (nI sm), .ref q13, .ref q14])), (q1, .inl (kB G, 200, .inl tx)), (q2, .inl (kI G, 2, .inl ro)), (q3, .inl (kI G, 2, .inl co)), (q4, .inl (kI G, 2, .inl mp)), (q5, .inl (kI G, 10, .inl my)), (q6, .inl (kI G, 10, .inl md)), (q7, .inl (kI G, 10, .inl mr)), (q8, .inl (kI G, 40, .inl dr)), (q9, .inl (kI G, 504, .inl nw)), (q10, .inl (kI G, 64, .inl (upd t1 k 100000))), (q11, .inl (kI G, 64, .inl cs)), (q12, .inl (kI G, 12, .inl sa)), (q13, .inl (kI G, 8, .inl go)), (q14, .inl (kI G, 2048, .inl to))] H := hP
          have hD : va_D A [(q0, .inr (10, [.ref q1, .int (nI ty), .ref q2, .ref q3, .ref q4, .ref q5, .ref q6, .ref q7, .ref q8, .int (nI dm), .int (nI at_), .int (zb so), .ref q9, .int (nI de), .int (nI ke), .ref q10, .ref q11, .ref q12, .int (nI sm), .ref q13, .ref q14])), (q1, .inl (kB G, 200, .inl tx)), (q2, .inl (kI G, 2, .inl ro)), (q3, .inl (kI G, 2, .inl co)), (q4, .inl (kI G, 2, .inl mp)), (q5, .inl (kI G, 10, .inl my)), (q6, .inl (kI G, 10, .inl md)), (q7, .inl (kI G, 10, .inl mr)), (q8, .inl (kI G, 40, .inl dr)), (q9, .inl (kI G, 504, .inl nw)), (q10, .inl (kI G, 64, .inl (upd t1 k 100000))), (q11, .inl (kI G, 64, .inl cs)), (q12, .inl (kI G, 12, .inl sa)), (q13, .inl (kI G, 8, .inl go)), (q14, .inl (kI G, 2048, .inl to))] := hD
          refine lv_iinc (v := nI (k + 1)) (lv' := [(2, .int (nI (k + 1))), (0, .ref q0), (1, .int b)]) hx hb dX10_findTo_28 hl (k := 2) rfl (nI_1 k) (by decide) rfl (fun ls hl => ?_)
          refine lv_goto (tgt := 2) hx hb dX10_findTo_31 (by decide) ?_
          have ha0 := ha
          rw [fiI] at ha0
          exact ih_2 (k + 1) (upd t1 k 100000) (by first | assumption | omega | rfl) (by rw [fiI, it_s]; simp only [← ha0]; simp [c8, c18]) (by omega) _ _ hP hD hS ls (lv_sub hl [1, 2, 0] rfl)
        · refine lv_iconst (v := 0) hx hb dX10_findTo_21 (by decide) ?_
          refine lv_goto (tgt := 27) hx hb dX10_findTo_22 (by decide) ?_
          refine va_iast hx hb hE.1 hP hD hS 10 0 rfl rfl (vp_in_nI (by omega) (by omega)) dX10_findTo_27 (fun H locs hP hD hS => ?_)
          rw [nI_clamp (show k < 2 ^ 31 by omega)] at hP hD
          have hP : va_P G.1 vwCl [(q0, .inr (10, [.ref q1, .int (nI ty), .ref q2, .ref q3, .ref q4, .ref q5, .ref q6, .ref q7, .ref q8, .int (nI dm), .int (nI at_), .int (zb so), .ref q9, .int (nI de), .int (nI ke), .ref q10, .ref q11, .ref q12, .int (nI sm), .ref q13, .ref q14])), (q1, .inl (kB G, 200, .inl tx)), (q2, .inl (kI G, 2, .inl ro)), (q3, .inl (kI G, 2, .inl co)), (q4, .inl (kI G, 2, .inl mp)), (q5, .inl (kI G, 10, .inl my)), (q6, .inl (kI G, 10, .inl md)), (q7, .inl (kI G, 10, .inl mr)), (q8, .inl (kI G, 40, .inl dr)), (q9, .inl (kI G, 504, .inl nw)), (q10, .inl (kI G, 64, .inl (upd t1 k 0))), (q11, .inl (kI G, 64, .inl cs)), (q12, .inl (kI G, 12, .inl sa)), (q13, .inl (kI G, 8, .inl go)), (q14, .inl (kI G, 2048, .inl to))] H := hP
          have hD : va_D A [(q0, .inr (10, [.ref q1, .int (nI ty), .ref q2, .ref q3, .ref q4, .ref q5, .ref q6, .ref q7, .ref q8, .int (nI dm), .int (nI at_), .int (zb so), .ref q9, .int (nI de), .int (nI ke), .ref q10, .ref q11, .ref q12, .int (nI sm), .ref q13, .ref q14])), (q1, .inl (kB G, 200, .inl tx)), (q2, .inl (kI G, 2, .inl ro)), (q3, .inl (kI G, 2, .inl co)), (q4, .inl (kI G, 2, .inl mp)), (q5, .inl (kI G, 10, .inl my)), (q6, .inl (kI G, 10, .inl md)), (q7, .inl (kI G, 10, .inl mr)), (q8, .inl (kI G, 40, .inl dr)), (q9, .inl (kI G, 504, .inl nw)), (q10, .inl (kI G, 64, .inl (upd t1 k 0))), (q11, .inl (kI G, 64, .inl cs)), (q12, .inl (kI G, 12, .inl sa)), (q13, .inl (kI G, 8, .inl go)), (q14, .inl (kI G, 2048, .inl to))] := hD
          refine lv_iinc (v := nI (k + 1)) (lv' := [(2, .int (nI (k + 1))), (0, .ref q0), (1, .int b)]) hx hb dX10_findTo_28 hl (k := 2) rfl (nI_1 k) (by decide) rfl (fun ls hl => ?_)
          refine lv_goto (tgt := 2) hx hb dX10_findTo_31 (by decide) ?_
          have ha0 := ha
          rw [fiI] at ha0
          exact ih_2 (k + 1) (upd t1 k 0) (by first | assumption | omega | rfl) (by rw [fiI, it_s]; simp only [← ha0]; simp [c8, c18]) (by omega) _ _ hP hD hS ls (lv_sub hl [1, 2, 0] rfl)
  refine lv_iconst (v := 0) hx hb dX10_findTo_0 (by decide) ?_
  refine lv_istore_n (lv' := [(2, .int 0), (0, .ref q0), (1, .int b)]) hx hb dX10_findTo_1 rfl hl (by decide) rfl (fun ls hl => ?_)
  exact J_2 (nr * nc - 0 + 1) 0 tk (by first | assumption | omega | rfl) rfl (Nat.lt_succ_self _) _ _ hP hD hS ls (lv_sub hl [1, 2, 0] rfl)
