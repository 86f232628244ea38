/-! Moment's writes, Charts, Grid, Letters -/
def isS (x : Int32) : Bool := !decide (x < 2) && !decide (8 < x)
def inG (nr nc : Nat) (x : Int32) : Bool := inB x (nr * nc)
def rwI (nc : Nat) (x : Int32) : Int32 := x / nI nc
def coI (nc : Nat) (x : Int32) : Int32 := x - rwI nc x * nI nc
/-- the cell so far down and right of one; -1 -/
def shf (nr nc : Nat) (x dn rt : Int32) : Int32 := if inB (rwI nc x + dn) nr && inB (coI nc x + rt) nc then (rwI nc x + dn) * nI nc + (coI nc x + rt) else -1
def bsd (nr nc : Nat) (x d : Int32) : Int32 := if inB d 4 then shf nr nc x (dnBy (ix d)) (rtBy (ix d)) else -1
/-- a set of cells moved by a hand -/
def shA (nr nc : Nat) (w : Int64) (dn rt : Int32) (n : Nat) : Int64 := it (fun k a => if hs w (nI k) then a ||| (if shf nr nc (nI k) dn rt = -1 then 0 else bt (shf nr nc (nI k) dn rt)) else a) 0 n
def bsA (nr nc : Nat) (x : Int32) (n : Nat) : Int64 := it (fun k a => a ||| (if bsd nr nc x (nI k) = -1 then 0 else bt (bsd nr nc x (nI k)))) 0 n
def abI (x : Int32) : Int32 := if 0 ≤ x then x else 0 - x
def apI (nc : Nat) (x z : Int32) : Int32 := abI (rwI nc x - rwI nc z) + abI (coI nc x - coI nc z)
def sgI (Sg : Nat → Int32) (tn : Nat) (x : Int32) : Int32 := if inB x tn then Sg (ix x) else 0
def fgI (Sg : Nat → Int32) (tn : Nat) (x : Int32) : Bool := !decide (sgI Sg tn x < 48) && !decide (57 < sgI Sg tn x)
theorem nc_pos {nc : Nat} (h : 2 ≤ nc ∧ nc ≤ 8) : ¬ nI nc ≤ 0 := nI_nle (by omega) (by omega)
theorem nc_ne {nc : Nat} (h : 2 ≤ nc ∧ nc ≤ 8) : ¬ nI nc = 0 := nI_ne0 (by omega) (by omega)
theorem cells_le {nr nc : Nat} (h1 : 2 ≤ nr ∧ nr ≤ 8) (h2 : 2 ≤ nc ∧ nc ≤ 8) : nr * nc ≤ 64 := Nat.mul_le_mul h1.2 h2.2

set_option maxHeartbeats 4000000 in
set_option maxRecDepth 100000 in
theorem c_X4_clear (l : Launch) (G : Gv) (a0 : Nat) (a1 : Nat) (a2 : Nat) (a3 : Nat) (a4 : Nat) (C : Nat → Int32) (B : Nat → Int32) (F : Nat → Int32) (K : Nat → Int32) (n : Nat) (y : Int32)  : Ct l yX4_clear cX4_clear 1 none (rmz 0 0) G [.ref a0] [(a0, .inr (4, [.ref a1, .ref a2, .ref a3, .ref a4, .int (nI n), .int y])), (a1, .inl (kI G, 10, .inl C)), (a2, .inl (kI G, 10, .inl B)), (a3, .inl (kI G, 10, .inl F)), (a4, .inl (kI G, 10, .inl K))] (one none [(a0, .inr (4, [.ref a1, .ref a2, .ref a3, .ref a4, .int 0, .int 0])), (a1, .inl (kI G, 10, .inl C)), (a2, .inl (kI G, 10, .inl B)), (a3, .inl (kI G, 10, .inl F)), (a4, .inl (kI G, 10, .inl K))]) := by
  refine Ct.ofW (by decide) (Nat.le_of_ble_eq_true rfl) ?_
  intro p e s m below meth c ls A hx hb hml hr hown hts hlk hnm hP hD hA hE hS hl
  obtain ⟨H, eH⟩ : ∃ H : Heap, H = s.heap := ⟨_, rfl⟩
  obtain ⟨locs, eL⟩ : ∃ ll : List Loc, ll = [] := ⟨_, rfl⟩
  rw [← eH] at hP
  have hS : va_S A s.heap H locs := by rw [eH, eL]; exact hS
  show WC p l e _ s m _ below meth c G A _ s.heap [] 0 0 _
  rw [← eH, ← eL]
  clear eH eL
  have hl : lv_has ls 1 [(0, .ref a0)] := hl
  refine lv_aload_n hx hb dX4_clear_0 rfl (lv_at hl 0 rfl) ?_
  refine lv_iconst (v := 0) hx hb dX4_clear_1 (by decide) ?_
  refine va_put (v := .int 0) (ty := .int) hx hb hts inlX4 tyX4 tyX4_ok nmX4 hown hE.1 hP hD hS 0 rfl rfl 4 (by decide) (fl_X4_24 hts) (fun _ h9 => h9) rfl (by decide +kernel) rfl rfl (Nat.le_of_ble_eq_true rfl) dX4_clear_2 (fun H locs hP hD hS => ?_)
  have hP : va_P G.1 vwCl [(a0, .inr (4, [.ref a1, .ref a2, .ref a3, .ref a4, .int 0, .int y])), (a1, .inl (kI G, 10, .inl C)), (a2, .inl (kI G, 10, .inl B)), (a3, .inl (kI G, 10, .inl F)), (a4, .inl (kI G, 10, .inl K))] H := hP
  have hD : va_D A [(a0, .inr (4, [.ref a1, .ref a2, .ref a3, .ref a4, .int 0, .int y])), (a1, .inl (kI G, 10, .inl C)), (a2, .inl (kI G, 10, .inl B)), (a3, .inl (kI G, 10, .inl F)), (a4, .inl (kI G, 10, .inl K))] := hD
  refine lv_aload_n hx hb dX4_clear_5 rfl (lv_at hl 0 rfl) ?_
  refine lv_iconst (v := 0) hx hb dX4_clear_6 (by decide) ?_
  refine va_put (v := .int 0) (ty := .int) hx hb hts inlX4 tyX4 tyX4_ok nmX4 hown hE.1 hP hD hS 0 rfl rfl 5 (by decide) (fl_X4_28 hts) (fun _ h9 => h9) rfl (by decide +kernel) rfl rfl (Nat.le_of_ble_eq_true rfl) dX4_clear_7 (fun H locs hP hD hS => ?_)
  have hP : va_P G.1 vwCl [(a0, .inr (4, [.ref a1, .ref a2, .ref a3, .ref a4, .int 0, .int 0])), (a1, .inl (kI G, 10, .inl C)), (a2, .inl (kI G, 10, .inl B)), (a3, .inl (kI G, 10, .inl F)), (a4, .inl (kI G, 10, .inl K))] H := hP
  have hD : va_D A [(a0, .inr (4, [.ref a1, .ref a2, .ref a3, .ref a4, .int 0, .int 0])), (a1, .inl (kI G, 10, .inl C)), (a2, .inl (kI G, 10, .inl B)), (a3, .inl (kI G, 10, .inl F)), (a4, .inl (kI G, 10, .inl K))] := hD
  exact ct_vret hx hb hr hlk dX4_clear_10 hP hD hS (by first | exact ⟨rfl, rfl⟩ | (simp [one]; done))

set_option maxHeartbeats 4000000 in
set_option maxRecDepth 100000 in
theorem c_X4_setFireTo (l : Launch) (G : Gv) (a0 : Nat) (a1 : Nat) (a2 : Nat) (a3 : Nat) (a4 : Nat) (C : Nat → Int32) (B : Nat → Int32) (F : Nat → Int32) (K : Nat → Int32) (n : Nat) (y : Int32) (t : Int32) (hn : n ≤ 10) : Ct l yX4_setFireTo cX4_setFireTo 2 none (rmz 1 21) G [.ref a0, .int t] [(a0, .inr (4, [.ref a1, .ref a2, .ref a3, .ref a4, .int (nI n), .int y])), (a1, .inl (kI G, 10, .inl C)), (a2, .inl (kI G, 10, .inl B)), (a3, .inl (kI G, 10, .inl F)), (a4, .inl (kI G, 10, .inl K))] (one none [(a0, .inr (4, [.ref a1, .ref a2, .ref a3, .ref a4, .int (nI n), .int y])), (a1, .inl (kI G, 10, .inl C)), (a2, .inl (kI G, 10, .inl B)), (a3, .inl (kI G, 10, .inl (sfI n F t y))), (a4, .inl (kI G, 10, .inl K))]) := by
  refine Ct.ofW (by decide) (Nat.le_of_ble_eq_true rfl) ?_
  intro p e s m below meth c ls A hx hb hml hr hown hts hlk hnm hP hD hA hE hS hl
  obtain ⟨H, eH⟩ : ∃ H : Heap, H = s.heap := ⟨_, rfl⟩
  obtain ⟨locs, eL⟩ : ∃ ll : List Loc, ll = [] := ⟨_, rfl⟩
  rw [← eH] at hP
  have hS : va_S A s.heap H locs := by rw [eH, eL]; exact hS
  show WC p l e _ s m _ below meth c G A _ s.heap [] 0 0 _
  rw [← eH, ← eL]
  clear eH eL
  have hl : lv_has ls 2 [(0, .ref a0), (1, .int t)] := hl
  refine lv_aload_n hx hb dX4_setFireTo_0 rfl (lv_at hl 0 rfl) ?_
  refine lv_iload_n hx hb dX4_setFireTo_1 rfl (lv_at hl 1 rfl) ?_
  refine rd_callV (As := [.int t]) (rest := []) hx hb hml hown hts (hE.at0 hS) hl.1 (c_X4_has l G a0 a1 a2 a3 a4 C B F K n y t (by first | assumption | omega)) (cw_X4_41 hts) ⟨(Nat.le_of_ble_eq_true rfl), (Nat.le_of_ble_eq_true rfl)⟩ ⟨Nat.zero_le _, Nat.zero_le _⟩ rfl (sub_P hP [0, 1, 2, 3, 4] rfl) rfl rfl rfl rfl (Nat.le_of_ble_eq_true rfl) dX4_setFireTo_2 ?_
  refine lv_if_eq (tgt := 18) hx hb dX4_setFireTo_5 (by decide) (fun c5 => ?_) (fun c5 => ?_)
  · have c5 := zb_0.mp c5
    exact ct_vret hx hb hr hlk dX4_setFireTo_18 hP hD hS (by simp [one, sfI, c5])
  · have c5 := zb_n0.mp c5
    refine lv_aload_n hx hb dX4_setFireTo_8 rfl (lv_at hl 0 rfl) ?_
    refine va_get hx hb hts inlX4 hown hE.1 hP 0 rfl rfl 2 (by decide) (fl_X4_18 hts) (fun _ h9 => h9) rfl dX4_setFireTo_9 ?_
    refine lv_iload_n hx hb dX4_setFireTo_12 rfl (lv_at hl 1 rfl) ?_
    refine lv_aload_n hx hb dX4_setFireTo_13 rfl (lv_at hl 0 rfl) ?_
    refine va_get hx hb hts inlX4 hown hE.1 hP 0 rfl rfl 5 (by decide) (fl_X4_28 hts) (fun _ h9 => h9) rfl dX4_setFireTo_14 ?_
    refine va_iast hx hb hE.1 hP hD hS 3 0 rfl rfl (inB_in c5 (by omega)) dX4_setFireTo_17 (fun H locs hP hD hS => ?_)
    have hP : va_P G.1 vwCl [(a0, .inr (4, [.ref a1, .ref a2, .ref a3, .ref a4, .int (nI n), .int y])), (a1, .inl (kI G, 10, .inl C)), (a2, .inl (kI G, 10, .inl B)), (a3, .inl (kI G, 10, .inl (upd F t.toNatClampNeg y))), (a4, .inl (kI G, 10, .inl K))] H := hP
    have hD : va_D A [(a0, .inr (4, [.ref a1, .ref a2, .ref a3, .ref a4, .int (nI n), .int y])), (a1, .inl (kI G, 10, .inl C)), (a2, .inl (kI G, 10, .inl B)), (a3, .inl (kI G, 10, .inl (upd F t.toNatClampNeg y))), (a4, .inl (kI G, 10, .inl K))] := hD
    exact ct_vret hx hb hr hlk dX4_setFireTo_18 hP hD hS (by simp [one, sfI, c5])

set_option maxHeartbeats 4000000 in
set_option maxRecDepth 100000 in
theorem c_X4_burnBy (l : Launch) (G : Gv) (a0 : Nat) (a1 : Nat) (a2 : Nat) (a3 : Nat) (a4 : Nat) (C : Nat → Int32) (B : Nat → Int32) (F : Nat → Int32) (K : Nat → Int32) (n : Nat) (y : Int32) (d : Int32) (hn : n ≤ 10) (hn0 : 0 < n) : Ct l yX4_burnBy cX4_burnBy 3 none (rmz 3 64) G [.ref a0, .int d] [(a0, .inr (4, [.ref a1, .ref a2, .ref a3, .ref a4, .int (nI n), .int y])), (a1, .inl (kI G, 10, .inl C)), (a2, .inl (kI G, 10, .inl B)), (a3, .inl (kI G, 10, .inl F)), (a4, .inl (kI G, 10, .inl K))] (one none [(a0, .inr (4, [.ref a1, .ref a2, .ref a3, .ref a4, .int (nI n), .int y])), (a1, .inl (kI G, 10, .inl C)), (a2, .inl (kI G, 10, .inl B)), (a3, .inl (kI G, 10, .inl (bbI n B F K y d))), (a4, .inl (kI G, 10, .inl K))]) := by
  refine Ct.ofW (by decide) (Nat.le_of_ble_eq_true rfl) ?_
  intro p e s m below meth c ls A hx hb hml hr hown hts hlk hnm hP hD hA hE hS hl
  obtain ⟨H, eH⟩ : ∃ H : Heap, H = s.heap := ⟨_, rfl⟩
  obtain ⟨locs, eL⟩ : ∃ ll : List Loc, ll = [] := ⟨_, rfl⟩
  rw [← eH] at hP
  have hS : va_S A s.heap H locs := by rw [eH, eL]; exact hS
  show WC p l e _ s m _ below meth c G A _ s.heap [] 0 0 _
  rw [← eH, ← eL]
  clear eH eL
  have hl : lv_has ls 3 [(0, .ref a0), (1, .int d)] := hl
  refine lv_aload_n hx hb dX4_burnBy_0 rfl (lv_at hl 0 rfl) ?_
  refine va_get hx hb hts inlX4 hown hE.1 hP 0 rfl rfl 4 (by decide) (fl_X4_24 hts) (fun _ h9 => h9) rfl dX4_burnBy_1 ?_
  refine lv_if_le (tgt := 16) hx hb dX4_burnBy_4 (by decide) (fun c4 => ?_) (fun c4 => ?_)
  · exact absurd c4 (nI_nle hn0 (by omega))
  · refine lv_iload_n hx hb dX4_burnBy_7 rfl (lv_at hl 1 rfl) ?_
    refine lv_bipush (v := 16) hx hb dX4_burnBy_8 (by decide) ?_
    refine lv_idiv hx hb dX4_burnBy_10 (by decide) ?_
    refine lv_iconst (v := 3) hx hb dX4_burnBy_11 (by decide) ?_
    refine lv_irem hx hb dX4_burnBy_12 (by decide) ?_
    refine lv_if_eq (tgt := 17) hx hb dX4_burnBy_13 (by decide) (fun c13 => ?_) (fun c13 => ?_)
    · refine lv_iload_n hx hb dX4_burnBy_17 rfl (lv_at hl 1 rfl) ?_
      refine lv_aload_n hx hb dX4_burnBy_18 rfl (lv_at hl 0 rfl) ?_
      refine va_get hx hb hts inlX4 hown hE.1 hP 0 rfl rfl 4 (by decide) (fl_X4_24 hts) (fun _ h9 => h9) rfl dX4_burnBy_19 ?_
      refine lv_irem hx hb dX4_burnBy_22 (nI_ne0 hn0 (by omega)) ?_
      refine lv_istore_n (lv' := [(2, .int (d - d / (nI n) * (nI n))), (0, .ref a0), (1, .int d)]) hx hb dX4_burnBy_23 rfl hl (by decide) rfl (fun ls hl => ?_)
      refine lv_aload_n hx hb dX4_burnBy_24 rfl (lv_at hl 1 rfl) ?_
      refine lv_iload_n hx hb dX4_burnBy_25 rfl (lv_at hl 0 rfl) ?_
      refine rd_callV (As := [.int (d - d / (nI n) * (nI n))]) (rest := []) hx hb hml hown hts (hE.at0 hS) hl.1 (c_X4_canBurn l G a0 a1 a2 a3 a4 C B F K n y (d - d / (nI n) * (nI n)) (by first | assumption | omega)) (cw_X4_59 hts) ⟨(Nat.le_of_ble_eq_true rfl), (Nat.le_of_ble_eq_true rfl)⟩ ⟨Nat.zero_le _, Nat.zero_le _⟩ rfl (sub_P hP [0, 1, 2, 3, 4] rfl) rfl rfl rfl rfl (Nat.le_of_ble_eq_true rfl) dX4_burnBy_26 ?_
      refine lv_if_eq (tgt := 37) hx hb dX4_burnBy_29 (by decide) (fun c29 => ?_) (fun c29 => ?_)
      · have c29 := zb_0.mp c29
        exact ct_vret hx hb hr hlk dX4_burnBy_37 hP hD hS (by simp [one, bbI, c13, remI, c29])
      · have c29 := zb_n0.mp c29
        refine lv_aload_n hx hb dX4_burnBy_32 rfl (lv_at hl 1 rfl) ?_
        refine lv_iload_n hx hb dX4_burnBy_33 rfl (lv_at hl 0 rfl) ?_
        refine ct_callV (w1 := [(a0, .inr (4, [.ref a1, .ref a2, .ref a3, .ref a4, .int (nI n), .int y])), (a1, .inl (kI G, 10, .inl C)), (a2, .inl (kI G, 10, .inl B)), (a3, .inl (kI G, 10, .inl (sfI n F (d - d / (nI n) * (nI n)) y))), (a4, .inl (kI G, 10, .inl K))]) (wr := []) (wn := [(a0, .inr (4, [.ref a1, .ref a2, .ref a3, .ref a4, .int (nI n), .int y])), (a1, .inl (kI G, 10, .inl C)), (a2, .inl (kI G, 10, .inl B)), (a3, .inl (kI G, 10, .inl (sfI n F (d - d / (nI n) * (nI n)) y))), (a4, .inl (kI G, 10, .inl K))]) (As := [.int (d - d / (nI n) * (nI n))]) (rest := []) hx hb hml hown hts hE hA hl.1 hP hD hS (c_X4_setFireTo l G a0 a1 a2 a3 a4 C B F K n y (d - d / (nI n) * (nI n)) (by first | assumption | omega)) (cw_X4_62 hts) ⟨(Nat.le_of_ble_eq_true rfl), (Nat.le_of_ble_eq_true rfl)⟩ ⟨(Nat.le_of_ble_eq_true rfl), (Nat.le_of_ble_eq_true rfl)⟩ rfl [0, 1, 2, 3, 4] [] [0, 1, 2, 3, 4] rfl rfl ⟨by decide, by decide, by decide, by decide⟩ rfl rfl rfl rfl rfl (Nat.le_of_ble_eq_true rfl) dX4_burnBy_34 (fun H locs hP hD hS => ?_)
        show WC p l e _ s m _ below meth c G A _ H locs 0 0 (F0 m 37 ls [])
        exact ct_vret hx hb hr hlk dX4_burnBy_37 hP hD hS (by simp [one, bbI, c13, remI, c29])
    · exact ct_vret hx hb hr hlk dX4_burnBy_16 hP hD hS (by simp [one, bbI, c13])

set_option maxHeartbeats 4000000 in
set_option maxRecDepth 100000 in
theorem c_X4_add (l : Launch) (G : Gv) (a0 : Nat) (a1 : Nat) (a2 : Nat) (a3 : Nat) (a4 : Nat) (C : Nat → Int32) (B : Nat → Int32) (F : Nat → Int32) (K : Nat → Int32) (n : Nat) (y : Int32) (x : Int32) (b : Int32) (f : Int32) (k : Int32) (hn9 : n < 10) : Ct l yX4_add cX4_add 5 (some .int) (rmz 1 20) G [.ref a0, .int x, .int b, .int f, .int k] [(a0, .inr (4, [.ref a1, .ref a2, .ref a3, .ref a4, .int (nI n), .int y])), (a1, .inl (kI G, 10, .inl C)), (a2, .inl (kI G, 10, .inl B)), (a3, .inl (kI G, 10, .inl F)), (a4, .inl (kI G, 10, .inl K))] (one (some (.int (nI n))) [(a0, .inr (4, [.ref a1, .ref a2, .ref a3, .ref a4, .int (nI (n + 1)), .int y])), (a1, .inl (kI G, 10, .inl (upd C n x))), (a2, .inl (kI G, 10, .inl (upd B n b))), (a3, .inl (kI G, 10, .inl (upd F n f))), (a4, .inl (kI G, 10, .inl (upd K n k)))]) := by
  refine Ct.ofW (by decide) (Nat.le_of_ble_eq_true rfl) ?_
  intro p e s m below meth c ls A hx hb hml hr hown hts hlk hnm hP hD hA hE hS hl
  obtain ⟨H, eH⟩ : ∃ H : Heap, H = s.heap := ⟨_, rfl⟩
  obtain ⟨locs, eL⟩ : ∃ ll : List Loc, ll = [] := ⟨_, rfl⟩
  rw [← eH] at hP
  have hS : va_S A s.heap H locs := by rw [eH, eL]; exact hS
  show WC p l e _ s m _ below meth c G A _ s.heap [] 0 0 _
  rw [← eH, ← eL]
  clear eH eL
  have hl : lv_has ls 5 [(0, .ref a0), (1, .int x), (2, .int b), (3, .int f), (4, .int k)] := hl
  refine lv_aload_n hx hb dX4_add_0 rfl (lv_at hl 0 rfl) ?_
  refine rd_callV (As := []) (rest := []) hx hb hml hown hts (hE.at0 hS) hl.1 (c_X4_isFull l G a0 a1 a2 a3 a4 C B F K n y ) (cw_X4_31 hts) ⟨(Nat.le_of_ble_eq_true rfl), (Nat.le_of_ble_eq_true rfl)⟩ ⟨Nat.zero_le _, Nat.zero_le _⟩ rfl (sub_P hP [0, 1, 2, 3, 4] rfl) rfl rfl rfl rfl (Nat.le_of_ble_eq_true rfl) dX4_add_1 ?_
  refine lv_if_eq (tgt := 10) hx hb dX4_add_4 (by decide) (fun c4 => ?_) (fun c4 => ?_)
  · have c4 := zb_0.mp c4
    refine lv_aload_n hx hb dX4_add_10 rfl (lv_at hl 0 rfl) ?_
    refine va_get hx hb hts inlX4 hown hE.1 hP 0 rfl rfl 0 (by decide) (fl_X4_9 hts) (fun _ h9 => h9) rfl dX4_add_11 ?_
    refine lv_aload_n hx hb dX4_add_14 rfl (lv_at hl 0 rfl) ?_
    refine va_get hx hb hts inlX4 hown hE.1 hP 0 rfl rfl 4 (by decide) (fl_X4_24 hts) (fun _ h9 => h9) rfl dX4_add_15 ?_
    refine lv_iload_n hx hb dX4_add_18 rfl (lv_at hl 1 rfl) ?_
    refine va_iast hx hb hE.1 hP hD hS 1 0 rfl rfl (vp_in_nI hn9 (by decide)) dX4_add_19 (fun H locs hP hD hS => ?_)
    have hP : va_P G.1 vwCl [(a0, .inr (4, [.ref a1, .ref a2, .ref a3, .ref a4, .int (nI n), .int y])), (a1, .inl (kI G, 10, .inl (upd C (nI n).toNatClampNeg x))), (a2, .inl (kI G, 10, .inl B)), (a3, .inl (kI G, 10, .inl F)), (a4, .inl (kI G, 10, .inl K))] H := hP
    have hD : va_D A [(a0, .inr (4, [.ref a1, .ref a2, .ref a3, .ref a4, .int (nI n), .int y])), (a1, .inl (kI G, 10, .inl (upd C (nI n).toNatClampNeg x))), (a2, .inl (kI G, 10, .inl B)), (a3, .inl (kI G, 10, .inl F)), (a4, .inl (kI G, 10, .inl K))] := hD
    refine lv_aload_n hx hb dX4_add_20 rfl (lv_at hl 0 rfl) ?_
    refine va_get hx hb hts inlX4 hown hE.1 hP 0 rfl rfl 1 (by decide) (fl_X4_15 hts) (fun _ h9 => h9) rfl dX4_add_21 ?_
    refine lv_aload_n hx hb dX4_add_24 rfl (lv_at hl 0 rfl) ?_
    refine va_get hx hb hts inlX4 hown hE.1 hP 0 rfl rfl 4 (by decide) (fl_X4_24 hts) (fun _ h9 => h9) rfl dX4_add_25 ?_
    refine lv_iload_n hx hb dX4_add_28 rfl (lv_at hl 2 rfl) ?_
    refine va_iast hx hb hE.1 hP hD hS 2 0 rfl rfl (vp_in_nI hn9 (by decide)) dX4_add_29 (fun H locs hP hD hS => ?_)
    have hP : va_P G.1 vwCl [(a0, .inr (4, [.ref a1, .ref a2, .ref a3, .ref a4, .int (nI n), .int y])), (a1, .inl (kI G, 10, .inl (upd C (nI n).toNatClampNeg x))), (a2, .inl (kI G, 10, .inl (upd B (nI n).toNatClampNeg b))), (a3, .inl (kI G, 10, .inl F)), (a4, .inl (kI G, 10, .inl K))] H := hP
    have hD : va_D A [(a0, .inr (4, [.ref a1, .ref a2, .ref a3, .ref a4, .int (nI n), .int y])), (a1, .inl (kI G, 10, .inl (upd C (nI n).toNatClampNeg x))), (a2, .inl (kI G, 10, .inl (upd B (nI n).toNatClampNeg b))), (a3, .inl (kI G, 10, .inl F)), (a4, .inl (kI G, 10, .inl K))] := hD
    refine lv_aload_n hx hb dX4_add_30 rfl (lv_at hl 0 rfl) ?_
    refine va_get hx hb hts inlX4 hown hE.1 hP 0 rfl rfl 2 (by decide) (fl_X4_18 hts) (fun _ h9 => h9) rfl dX4_add_31 ?_
    refine lv_aload_n hx hb dX4_add_34 rfl (lv_at hl 0 rfl) ?_
    refine va_get hx hb hts inlX4 hown hE.1 hP 0 rfl rfl 4 (by decide) (fl_X4_24 hts) (fun _ h9 => h9) rfl dX4_add_35 ?_
    refine lv_iload_n hx hb dX4_add_38 rfl (lv_at hl 3 rfl) ?_
    refine va_iast hx hb hE.1 hP hD hS 3 0 rfl rfl (vp_in_nI hn9 (by decide)) dX4_add_39 (fun H locs hP hD hS => ?_)
    have hP : va_P G.1 vwCl [(a0, .inr (4, [.ref a1, .ref a2, .ref a3, .ref a4, .int (nI n), .int y])), (a1, .inl (kI G, 10, .inl (upd C (nI n).toNatClampNeg x))), (a2, .inl (kI G, 10, .inl (upd B (nI n).toNatClampNeg b))), (a3, .inl (kI G, 10, .inl (upd F (nI n).toNatClampNeg f))), (a4, .inl (kI G, 10, .inl K))] H := hP
    have hD : va_D A [(a0, .inr (4, [.ref a1, .ref a2, .ref a3, .ref a4, .int (nI n), .int y])), (a1, .inl (kI G, 10, .inl (upd C (nI n).toNatClampNeg x))), (a2, .inl (kI G, 10, .inl (upd B (nI n).toNatClampNeg b))), (a3, .inl (kI G, 10, .inl (upd F (nI n).toNatClampNeg f))), (a4, .inl (kI G, 10, .inl K))] := hD
    refine lv_aload_n hx hb dX4_add_40 rfl (lv_at hl 0 rfl) ?_
    refine va_get hx hb hts inlX4 hown hE.1 hP 0 rfl rfl 3 (by decide) (fl_X4_21 hts) (fun _ h9 => h9) rfl dX4_add_41 ?_
    refine lv_aload_n hx hb dX4_add_44 rfl (lv_at hl 0 rfl) ?_
    refine va_get hx hb hts inlX4 hown hE.1 hP 0 rfl rfl 4 (by decide) (fl_X4_24 hts) (fun _ h9 => h9) rfl dX4_add_45 ?_
    refine lv_iload hx hb dX4_add_48 (lv_at hl 4 rfl) ?_
    refine va_iast hx hb hE.1 hP hD hS 4 0 rfl rfl (vp_in_nI hn9 (by decide)) dX4_add_50 (fun H locs hP hD hS => ?_)
    have hP : va_P G.1 vwCl [(a0, .inr (4, [.ref a1, .ref a2, .ref a3, .ref a4, .int (nI n), .int y])), (a1, .inl (kI G, 10, .inl (upd C (nI n).toNatClampNeg x))), (a2, .inl (kI G, 10, .inl (upd B (nI n).toNatClampNeg b))), (a3, .inl (kI G, 10, .inl (upd F (nI n).toNatClampNeg f))), (a4, .inl (kI G, 10, .inl (upd K (nI n).toNatClampNeg k)))] H := hP
    have hD : va_D A [(a0, .inr (4, [.ref a1, .ref a2, .ref a3, .ref a4, .int (nI n), .int y])), (a1, .inl (kI G, 10, .inl (upd C (nI n).toNatClampNeg x))), (a2, .inl (kI G, 10, .inl (upd B (nI n).toNatClampNeg b))), (a3, .inl (kI G, 10, .inl (upd F (nI n).toNatClampNeg f))), (a4, .inl (kI G, 10, .inl (upd K (nI n).toNatClampNeg k)))] := hD
    refine lv_aload_n hx hb dX4_add_51 rfl (lv_at hl 0 rfl) ?_
    refine lv_dup hx hb dX4_add_52 rfl ?_
    refine va_get hx hb hts inlX4 hown hE.1 hP 0 rfl rfl 4 (by decide) (fl_X4_24 hts) (fun _ h9 => h9) rfl dX4_add_53 ?_
    refine lv_iconst (v := 1) hx hb dX4_add_56 (by decide) ?_
    refine lv_iadd hx hb dX4_add_57 ?_
    refine va_put (v := .int ((nI n) + 1)) (ty := .int) hx hb hts inlX4 tyX4 tyX4_ok nmX4 hown hE.1 hP hD hS 0 rfl rfl 4 (by decide) (fl_X4_24 hts) (fun _ h9 => h9) rfl (by decide +kernel) rfl rfl (Nat.le_of_ble_eq_true rfl) dX4_add_58 (fun H locs hP hD hS => ?_)
    have hP : va_P G.1 vwCl [(a0, .inr (4, [.ref a1, .ref a2, .ref a3, .ref a4, .int ((nI n) + 1), .int y])), (a1, .inl (kI G, 10, .inl (upd C (nI n).toNatClampNeg x))), (a2, .inl (kI G, 10, .inl (upd B (nI n).toNatClampNeg b))), (a3, .inl (kI G, 10, .inl (upd F (nI n).toNatClampNeg f))), (a4, .inl (kI G, 10, .inl (upd K (nI n).toNatClampNeg k)))] H := hP
    have hD : va_D A [(a0, .inr (4, [.ref a1, .ref a2, .ref a3, .ref a4, .int ((nI n) + 1), .int y])), (a1, .inl (kI G, 10, .inl (upd C (nI n).toNatClampNeg x))), (a2, .inl (kI G, 10, .inl (upd B (nI n).toNatClampNeg b))), (a3, .inl (kI G, 10, .inl (upd F (nI n).toNatClampNeg f))), (a4, .inl (kI G, 10, .inl (upd K (nI n).toNatClampNeg k)))] := hD
    refine lv_aload_n hx hb dX4_add_61 rfl (lv_at hl 0 rfl) ?_
    refine va_get hx hb hts inlX4 hown hE.1 hP 0 rfl rfl 4 (by decide) (fl_X4_24 hts) (fun _ h9 => h9) rfl dX4_add_62 ?_
    refine lv_iconst (v := 1) hx hb dX4_add_65 (by decide) ?_
    refine lv_isub hx hb dX4_add_66 ?_
    exact ct_iret hx hb hr hlk dX4_add_67 hP hD hS (by have e1 : (nI n).toNatClampNeg = n := nI_clamp (by omega); exact ⟨by rw [nI_1, nI_pred], by simp only [e1, nI_1]⟩)
  · have c4 := zb_n0.mp c4
    exact absurd c4 (by have h : nI n < 10 := nI_lt (b := 10) hn9 (by decide); simp [h])

set_option maxHeartbeats 4000000 in
set_option maxRecDepth 100000 in
theorem c_X4_copyFrom (l : Launch) (G : Gv) (a0 : Nat) (a1 : Nat) (a2 : Nat) (a3 : Nat) (a4 : Nat) (C : Nat → Int32) (B : Nat → Int32) (F : Nat → Int32) (K : Nat → Int32) (n : Nat) (y : Int32) (b0 : Nat) (b1 : Nat) (b2 : Nat) (b3 : Nat) (b4 : Nat) (C2 : Nat → Int32) (B2 : Nat → Int32) (F2 : Nat → Int32) (K2 : Nat → Int32) (n2 : Nat) (y2 : Int32)  : Ct l yX4_copyFrom cX4_copyFrom 2 none (rmz 1 40) G [.ref a0, .ref b0] [(a0, .inr (4, [.ref a1, .ref a2, .ref a3, .ref a4, .int (nI n), .int y])), (a1, .inl (kI G, 10, .inl C)), (a2, .inl (kI G, 10, .inl B)), (a3, .inl (kI G, 10, .inl F)), (a4, .inl (kI G, 10, .inl K)), (b0, .inr (4, [.ref b1, .ref b2, .ref b3, .ref b4, .int (nI n2), .int y2])), (b1, .inl (kI G, 10, .inl C2)), (b2, .inl (kI G, 10, .inl B2)), (b3, .inl (kI G, 10, .inl F2)), (b4, .inl (kI G, 10, .inl K2))] (one none [(a0, .inr (4, [.ref a1, .ref a2, .ref a3, .ref a4, .int (nI n2), .int y2])), (a1, .inl (kI G, 10, .inl (va_cpy C2 C 0 0 10))), (a2, .inl (kI G, 10, .inl (va_cpy B2 B 0 0 10))), (a3, .inl (kI G, 10, .inl (va_cpy F2 F 0 0 10))), (a4, .inl (kI G, 10, .inl (va_cpy K2 K 0 0 10))), (b0, .inr (4, [.ref b1, .ref b2, .ref b3, .ref b4, .int (nI n2), .int y2])), (b1, .inl (kI G, 10, .inl C2)), (b2, .inl (kI G, 10, .inl B2)), (b3, .inl (kI G, 10, .inl F2)), (b4, .inl (kI G, 10, .inl K2))]) := by
  refine Ct.ofW (by decide) (Nat.le_of_ble_eq_true rfl) ?_
  intro p e s m below meth c ls A hx hb hml hr hown hts hlk hnm hP hD hA hE hS hl
  obtain ⟨H, eH⟩ : ∃ H : Heap, H = s.heap := ⟨_, rfl⟩
  obtain ⟨locs, eL⟩ : ∃ ll : List Loc, ll = [] := ⟨_, rfl⟩
  rw [← eH] at hP
  have hS : va_S A s.heap H locs := by rw [eH, eL]; exact hS
  show WC p l e _ s m _ below meth c G A _ s.heap [] 0 0 _
  rw [← eH, ← eL]
  clear eH eL
  have hl : lv_has ls 2 [(0, .ref a0), (1, .ref b0)] := hl
  refine lv_aload_n hx hb dX4_copyFrom_0 rfl (lv_at hl 1 rfl) ?_
  refine va_get hx hb hts inlX4 hown hE.1 hP 5 rfl rfl 0 (by decide) (fl_X4_9 hts) (fun _ h9 => h9) rfl dX4_copyFrom_1 ?_
  refine lv_iconst (v := 0) hx hb dX4_copyFrom_4 (by decide) ?_
  refine lv_aload_n hx hb dX4_copyFrom_5 rfl (lv_at hl 0 rfl) ?_
  refine va_get hx hb hts inlX4 hown hE.1 hP 0 rfl rfl 0 (by decide) (fl_X4_9 hts) (fun _ h9 => h9) rfl dX4_copyFrom_6 ?_
  refine lv_iconst (v := 0) hx hb dX4_copyFrom_9 (by decide) ?_
  refine lv_bipush (v := 10) hx hb dX4_copyFrom_10 (by decide) ?_
  refine va_copyi hx hb (hml.trans hl.1.symm) hown (ml_X4_35 hts) (nt_arraycopyName hts) (st_arraycopyName hts) (in__java_lang_System_ hts) hE.1 hP hD hS 6 1 0 0 rfl rfl rfl rfl rfl (by decide) (by decide) (by decide) (by decide) (by decide) (fun _ _ => rfl) (Nat.le_of_ble_eq_true rfl) (by decide) dX4_copyFrom_12 (fun H locs hP hD hS => ?_)
  have hP : va_P G.1 vwCl [(a0, .inr (4, [.ref a1, .ref a2, .ref a3, .ref a4, .int (nI n), .int y])), (a1, .inl (kI G, 10, .inl (va_cpy C2 C 0 0 10))), (a2, .inl (kI G, 10, .inl B)), (a3, .inl (kI G, 10, .inl F)), (a4, .inl (kI G, 10, .inl K)), (b0, .inr (4, [.ref b1, .ref b2, .ref b3, .ref b4, .int (nI n2), .int y2])), (b1, .inl (kI G, 10, .inl C2)), (b2, .inl (kI G, 10, .inl B2)), (b3, .inl (kI G, 10, .inl F2)), (b4, .inl (kI G, 10, .inl K2))] H := hP
  have hD : va_D A [(a0, .inr (4, [.ref a1, .ref a2, .ref a3, .ref a4, .int (nI n), .int y])), (a1, .inl (kI G, 10, .inl (va_cpy C2 C 0 0 10))), (a2, .inl (kI G, 10, .inl B)), (a3, .inl (kI G, 10, .inl F)), (a4, .inl (kI G, 10, .inl K)), (b0, .inr (4, [.ref b1, .ref b2, .ref b3, .ref b4, .int (nI n2), .int y2])), (b1, .inl (kI G, 10, .inl C2)), (b2, .inl (kI G, 10, .inl B2)), (b3, .inl (kI G, 10, .inl F2)), (b4, .inl (kI G, 10, .inl K2))] := hD
  refine lv_aload_n hx hb dX4_copyFrom_15 rfl (lv_at hl 1 rfl) ?_
  refine va_get hx hb hts inlX4 hown hE.1 hP 5 rfl rfl 1 (by decide) (fl_X4_15 hts) (fun _ h9 => h9) rfl dX4_copyFrom_16 ?_
  refine lv_iconst (v := 0) hx hb dX4_copyFrom_19 (by decide) ?_
  refine lv_aload_n hx hb dX4_copyFrom_20 rfl (lv_at hl 0 rfl) ?_
  refine va_get hx hb hts inlX4 hown hE.1 hP 0 rfl rfl 1 (by decide) (fl_X4_15 hts) (fun _ h9 => h9) rfl dX4_copyFrom_21 ?_
  refine lv_iconst (v := 0) hx hb dX4_copyFrom_24 (by decide) ?_
  refine lv_bipush (v := 10) hx hb dX4_copyFrom_25 (by decide) ?_
  refine va_copyi hx hb (hml.trans hl.1.symm) hown (ml_X4_35 hts) (nt_arraycopyName hts) (st_arraycopyName hts) (in__java_lang_System_ hts) hE.1 hP hD hS 7 2 0 0 rfl rfl rfl rfl rfl (by decide) (by decide) (by decide) (by decide) (by decide) (fun _ _ => rfl) (Nat.le_of_ble_eq_true rfl) (by decide) dX4_copyFrom_27 (fun H locs hP hD hS => ?_)
  have hP : va_P G.1 vwCl [(a0, .inr (4, [.ref a1, .ref a2, .ref a3, .ref a4, .int (nI n), .int y])), (a1, .inl (kI G, 10, .inl (va_cpy C2 C 0 0 10))), (a2, .inl (kI G, 10, .inl (va_cpy B2 B 0 0 10))), (a3, .inl (kI G, 10, .inl F)), (a4, .inl (kI G, 10, .inl K)), (b0, .inr (4, [.ref b1, .ref b2, .ref b3, .ref b4, .int (nI n2), .int y2])), (b1, .inl (kI G, 10, .inl C2)), (b2, .inl (kI G, 10, .inl B2)), (b3, .inl (kI G, 10, .inl F2)), (b4, .inl (kI G, 10, .inl K2))] H := hP
  have hD : va_D A [(a0, .inr (4, [.ref a1, .ref a2, .ref a3, .ref a4, .int (nI n), .int y])), (a1, .inl (kI G, 10, .inl (va_cpy C2 C 0 0 10))), (a2, .inl (kI G, 10, .inl (va_cpy B2 B 0 0 10))), (a3, .inl (kI G, 10, .inl F)), (a4, .inl (kI G, 10, .inl K)), (b0, .inr (4, [.ref b1, .ref b2, .ref b3, .ref b4, .int (nI n2), .int y2])), (b1, .inl (kI G, 10, .inl C2)), (b2, .inl (kI G, 10, .inl B2)), (b3, .inl (kI G, 10, .inl F2)), (b4, .inl (kI G, 10, .inl K2))] := hD
  refine lv_aload_n hx hb dX4_copyFrom_30 rfl (lv_at hl 1 rfl) ?_
  refine va_get hx hb hts inlX4 hown hE.1 hP 5 rfl rfl 2 (by decide) (fl_X4_18 hts) (fun _ h9 => h9) rfl dX4_copyFrom_31 ?_
  refine lv_iconst (v := 0) hx hb dX4_copyFrom_34 (by decide) ?_
  refine lv_aload_n hx hb dX4_copyFrom_35 rfl (lv_at hl 0 rfl) ?_
  refine va_get hx hb hts inlX4 hown hE.1 hP 0 rfl rfl 2 (by decide) (fl_X4_18 hts) (fun _ h9 => h9) rfl dX4_copyFrom_36 ?_
  refine lv_iconst (v := 0) hx hb dX4_copyFrom_39 (by decide) ?_
  refine lv_bipush (v := 10) hx hb dX4_copyFrom_40 (by decide) ?_
  refine va_copyi hx hb (hml.trans hl.1.symm) hown (ml_X4_35 hts) (nt_arraycopyName hts) (st_arraycopyName hts) (in__java_lang_System_ hts) hE.1 hP hD hS 8 3 0 0 rfl rfl rfl rfl rfl (by decide) (by decide) (by decide) (by decide) (by decide) (fun _ _ => rfl) (Nat.le_of_ble_eq_true rfl) (by decide) dX4_copyFrom_42 (fun H locs hP hD hS => ?_)
  have hP : va_P G.1 vwCl [(a0, .inr (4, [.ref a1, .ref a2, .ref a3, .ref a4, .int (nI n), .int y])), (a1, .inl (kI G, 10, .inl (va_cpy C2 C 0 0 10))), (a2, .inl (kI G, 10, .inl (va_cpy B2 B 0 0 10))), (a3, .inl (kI G, 10, .inl (va_cpy F2 F 0 0 10))), (a4, .inl (kI G, 10, .inl K)), (b0, .inr (4, [.ref b1, .ref b2, .ref b3, .ref b4, .int (nI n2), .int y2])), (b1, .inl (kI G, 10, .inl C2)), (b2, .inl (kI G, 10, .inl B2)), (b3, .inl (kI G, 10, .inl F2)), (b4, .inl (kI G, 10, .inl K2))] H := hP
  have hD : va_D A [(a0, .inr (4, [.ref a1, .ref a2, .ref a3, .ref a4, .int (nI n), .int y])), (a1, .inl (kI G, 10, .inl (va_cpy C2 C 0 0 10))), (a2, .inl (kI G, 10, .inl (va_cpy B2 B 0 0 10))), (a3, .inl (kI G, 10, .inl (va_cpy F2 F 0 0 10))), (a4, .inl (kI G, 10, .inl K)), (b0, .inr (4, [.ref b1, .ref b2, .ref b3, .ref b4, .int (nI n2), .int y2])), (b1, .inl (kI G, 10, .inl C2)), (b2, .inl (kI G, 10, .inl B2)), (b3, .inl (kI G, 10, .inl F2)), (b4, .inl (kI G, 10, .inl K2))] := hD
  refine lv_aload_n hx hb dX4_copyFrom_45 rfl (lv_at hl 1 rfl) ?_
  refine va_get hx hb hts inlX4 hown hE.1 hP 5 rfl rfl 3 (by decide) (fl_X4_21 hts) (fun _ h9 => h9) rfl dX4_copyFrom_46 ?_
  refine lv_iconst (v := 0) hx hb dX4_copyFrom_49 (by decide) ?_
  refine lv_aload_n hx hb dX4_copyFrom_50 rfl (lv_at hl 0 rfl) ?_
  refine va_get hx hb hts inlX4 hown hE.1 hP 0 rfl rfl 3 (by decide) (fl_X4_21 hts) (fun _ h9 => h9) rfl dX4_copyFrom_51 ?_
  refine lv_iconst (v := 0) hx hb dX4_copyFrom_54 (by decide) ?_
  refine lv_bipush (v := 10) hx hb dX4_copyFrom_55 (by decide) ?_
  refine va_copyi hx hb (hml.trans hl.1.symm) hown (ml_X4_35 hts) (nt_arraycopyName hts) (st_arraycopyName hts) (in__java_lang_System_ hts) hE.1 hP hD hS 9 4 0 0 rfl rfl rfl rfl rfl (by decide) (by decide) (by decide) (by decide) (by decide) (fun _ _ => rfl) (Nat.le_of_ble_eq_true rfl) (by decide) dX4_copyFrom_57 (fun H locs hP hD hS => ?_)
  have hP : va_P G.1 vwCl [(a0, .inr (4, [.ref a1, .ref a2, .ref a3, .ref a4, .int (nI n), .int y])), (a1, .inl (kI G, 10, .inl (va_cpy C2 C 0 0 10))), (a2, .inl (kI G, 10, .inl (va_cpy B2 B 0 0 10))), (a3, .inl (kI G, 10, .inl (va_cpy F2 F 0 0 10))), (a4, .inl (kI G, 10, .inl (va_cpy K2 K 0 0 10))), (b0, .inr (4, [.ref b1, .ref b2, .ref b3, .ref b4, .int (nI n2), .int y2])), (b1, .inl (kI G, 10, .inl C2)), (b2, .inl (kI G, 10, .inl B2)), (b3, .inl (kI G, 10, .inl F2)), (b4, .inl (kI G, 10, .inl K2))] H := hP
  have hD : va_D A [(a0, .inr (4, [.ref a1, .ref a2, .ref a3, .ref a4, .int (nI n), .int y])), (a1, .inl (kI G, 10, .inl (va_cpy C2 C 0 0 10))), (a2, .inl (kI G, 10, .inl (va_cpy B2 B 0 0 10))), (a3, .inl (kI G, 10, .inl (va_cpy F2 F 0 0 10))), (a4, .inl (kI G, 10, .inl (va_cpy K2 K 0 0 10))), (b0, .inr (4, [.ref b1, .ref b2, .ref b3, .ref b4, .int (nI n2), .int y2])), (b1, .inl (kI G, 10, .inl C2)), (b2, .inl (kI G, 10, .inl B2)), (b3, .inl (kI G, 10, .inl F2)), (b4, .inl (kI G, 10, .inl K2))] := hD
  refine lv_aload_n hx hb dX4_copyFrom_60 rfl (lv_at hl 0 rfl) ?_
  refine lv_aload_n hx hb dX4_copyFrom_61 rfl (lv_at hl 1 rfl) ?_
  refine va_get hx hb hts inlX4 hown hE.1 hP 5 rfl rfl 4 (by decide) (fl_X4_24 hts) (fun _ h9 => h9) rfl dX4_copyFrom_62 ?_
  refine va_put (v := .int (nI n2)) (ty := .int) hx hb hts inlX4 tyX4 tyX4_ok nmX4 hown hE.1 hP hD hS 0 rfl rfl 4 (by decide) (fl_X4_24 hts) (fun _ h9 => h9) rfl (by decide +kernel) rfl rfl (Nat.le_of_ble_eq_true rfl) dX4_copyFrom_65 (fun H locs hP hD hS => ?_)
  have hP : va_P G.1 vwCl [(a0, .inr (4, [.ref a1, .ref a2, .ref a3, .ref a4, .int (nI n2), .int y])), (a1, .inl (kI G, 10, .inl (va_cpy C2 C 0 0 10))), (a2, .inl (kI G, 10, .inl (va_cpy B2 B 0 0 10))), (a3, .inl (kI G, 10, .inl (va_cpy F2 F 0 0 10))), (a4, .inl (kI G, 10, .inl (va_cpy K2 K 0 0 10))), (b0, .inr (4, [.ref b1, .ref b2, .ref b3, .ref b4, .int (nI n2), .int y2])), (b1, .inl (kI G, 10, .inl C2)), (b2, .inl (kI G, 10, .inl B2)), (b3, .inl (kI G, 10, .inl F2)), (b4, .inl (kI G, 10, .inl K2))] H := hP
  have hD : va_D A [(a0, .inr (4, [.ref a1, .ref a2, .ref a3, .ref a4, .int (nI n2), .int y])), (a1, .inl (kI G, 10, .inl (va_cpy C2 C 0 0 10))), (a2, .inl (kI G, 10, .inl (va_cpy B2 B 0 0 10))), (a3, .inl (kI G, 10, .inl (va_cpy F2 F 0 0 10))), (a4, .inl (kI G, 10, .inl (va_cpy K2 K 0 0 10))), (b0, .inr (4, [.ref b1, .ref b2, .ref b3, .ref b4, .int (nI n2), .int y2])), (b1, .inl (kI G, 10, .inl C2)), (b2, .inl (kI G, 10, .inl B2)), (b3, .inl (kI G, 10, .inl F2)), (b4, .inl (kI G, 10, .inl K2))] := hD
  refine lv_aload_n hx hb dX4_copyFrom_68 rfl (lv_at hl 0 rfl) ?_
  refine lv_aload_n hx hb dX4_copyFrom_69 rfl (lv_at hl 1 rfl) ?_
  refine va_get hx hb hts inlX4 hown hE.1 hP 5 rfl rfl 5 (by decide) (fl_X4_28 hts) (fun _ h9 => h9) rfl dX4_copyFrom_70 ?_
  refine va_put (v := .int y2) (ty := .int) hx hb hts inlX4 tyX4 tyX4_ok nmX4 hown hE.1 hP hD hS 0 rfl rfl 5 (by decide) (fl_X4_28 hts) (fun _ h9 => h9) rfl (by decide +kernel) rfl rfl (Nat.le_of_ble_eq_true rfl) dX4_copyFrom_73 (fun H locs hP hD hS => ?_)
  have hP : va_P G.1 vwCl [(a0, .inr (4, [.ref a1, .ref a2, .ref a3, .ref a4, .int (nI n2), .int y2])), (a1, .inl (kI G, 10, .inl (va_cpy C2 C 0 0 10))), (a2, .inl (kI G, 10, .inl (va_cpy B2 B 0 0 10))), (a3, .inl (kI G, 10, .inl (va_cpy F2 F 0 0 10))), (a4, .inl (kI G, 10, .inl (va_cpy K2 K 0 0 10))), (b0, .inr (4, [.ref b1, .ref b2, .ref b3, .ref b4, .int (nI n2), .int y2])), (b1, .inl (kI G, 10, .inl C2)), (b2, .inl (kI G, 10, .inl B2)), (b3, .inl (kI G, 10, .inl F2)), (b4, .inl (kI G, 10, .inl K2))] H := hP
  have hD : va_D A [(a0, .inr (4, [.ref a1, .ref a2, .ref a3, .ref a4, .int (nI n2), .int y2])), (a1, .inl (kI G, 10, .inl (va_cpy C2 C 0 0 10))), (a2, .inl (kI G, 10, .inl (va_cpy B2 B 0 0 10))), (a3, .inl (kI G, 10, .inl (va_cpy F2 F 0 0 10))), (a4, .inl (kI G, 10, .inl (va_cpy K2 K 0 0 10))), (b0, .inr (4, [.ref b1, .ref b2, .ref b3, .ref b4, .int (nI n2), .int y2])), (b1, .inl (kI G, 10, .inl C2)), (b2, .inl (kI G, 10, .inl B2)), (b3, .inl (kI G, 10, .inl F2)), (b4, .inl (kI G, 10, .inl K2))] := hD
  exact ct_vret hx hb hr hlk dX4_copyFrom_76 hP hD hS (by first | exact ⟨rfl, rfl⟩ | (simp [one]; done))

set_option maxHeartbeats 4000000 in
set_option maxRecDepth 100000 in
theorem c_X0_size (l : Launch) (G : Gv) (h0 : Nat) (h1 : Nat) (h2 : Nat) (h3 : Nat) (Yr : Nat → Int32) (Dn : Nat → Int32) (Rt : Nat → Int32) (q : Nat)  : Rd l yX0_size cX0_size 1 (some .int) (rmz 0 0) G [.ref h0] [(h0, .inr (0, [.ref h1, .ref h2, .ref h3, .int (nI q)])), (h1, .inl (kI G, 5, .inl Yr)), (h2, .inl (kI G, 5, .inl Dn)), (h3, .inl (kI G, 5, .inl Rt))] (.int (nI q)) := by
  refine Rd.ofW (by decide) (Nat.le_of_ble_eq_true rfl) ?_
  intro p e s m below meth c ls hx hb hml hr hown hts hlk hP hE hl
  have hl : lv_has ls 1 [(0, .ref h0)] := hl
  refine lv_aload_n hx hb dX0_size_0 rfl (lv_at hl 0 rfl) ?_
  refine va_get hx hb hts inlX0 hown hE.1 hP 0 rfl rfl 3 (by decide) (fl_X0_21 hts) (fun _ h9 => h9) rfl dX0_size_1 ?_
  exact rd_iret hx hb hr hlk dX0_size_4 (by first | rfl | (simp [zb]; done))

set_option maxHeartbeats 4000000 in
set_option maxRecDepth 100000 in
theorem c_X0_has (l : Launch) (G : Gv) (h0 : Nat) (h1 : Nat) (h2 : Nat) (h3 : Nat) (Yr : Nat → Int32) (Dn : Nat → Int32) (Rt : Nat → Int32) (q : Nat) (t : Int32) (hq : q ≤ 5) : Rd l yX0_has cX0_has 2 (some .boolean) (rmz 0 0) G [.ref h0, .int t] [(h0, .inr (0, [.ref h1, .ref h2, .ref h3, .int (nI q)])), (h1, .inl (kI G, 5, .inl Yr)), (h2, .inl (kI G, 5, .inl Dn)), (h3, .inl (kI G, 5, .inl Rt))] (.int (zb (inB t q))) := by
  refine Rd.ofW (by decide) (Nat.le_of_ble_eq_true rfl) ?_
  intro p e s m below meth c ls hx hb hml hr hown hts hlk hP hE hl
  have hl : lv_has ls 2 [(0, .ref h0), (1, .int t)] := hl
  refine lv_iload_n hx hb dX0_has_0 rfl (lv_at hl 1 rfl) ?_
  refine lv_if_lt (tgt := 16) hx hb dX0_has_1 (by decide) (fun c1 => ?_) (fun c1 => ?_)
  · have c1 := inB_neg (n := q) c1
    refine lv_iconst (v := 0) hx hb dX0_has_16 (by decide) ?_
    exact rd_zret hx hb hr hlk dX0_has_17 rfl (by first | rfl | (simp [zb, c1]; done))
  · refine lv_iload_n hx hb dX0_has_4 rfl (lv_at hl 1 rfl) ?_
    refine lv_aload_n hx hb dX0_has_5 rfl (lv_at hl 0 rfl) ?_
    refine va_get hx hb hts inlX0 hown hE.1 hP 0 rfl rfl 3 (by decide) (fl_X0_21 hts) (fun _ h9 => h9) rfl dX0_has_6 ?_
    refine lv_icmp_ge (tgt := 16) hx hb dX0_has_9 (by decide) (fun c9 => ?_) (fun c9 => ?_)
    · have c9 := inB_ge (n := q) (by omega) c9
      refine lv_iconst (v := 0) hx hb dX0_has_16 (by decide) ?_
      exact rd_zret hx hb hr hlk dX0_has_17 rfl (by first | rfl | (simp [zb, c1, c9]; done))
    · have c9 := inB_yes (n := q) (by omega) c1 c9
      refine lv_iconst (v := 1) hx hb dX0_has_12 (by decide) ?_
      refine lv_goto (tgt := 17) hx hb dX0_has_13 (by decide) ?_
      exact rd_zret hx hb hr hlk dX0_has_17 rfl (by first | rfl | (simp [zb, c1, c9]; done))

set_option maxHeartbeats 4000000 in
set_option maxRecDepth 100000 in
theorem c_X0_yearOf (l : Launch) (G : Gv) (h0 : Nat) (h1 : Nat) (h2 : Nat) (h3 : Nat) (Yr : Nat → Int32) (Dn : Nat → Int32) (Rt : Nat → Int32) (q : Nat) (t : Int32) (hq : q ≤ 5) : Rd l yX0_yearOf cX0_yearOf 2 (some .int) (rmz 1 21) G [.ref h0, .int t] [(h0, .inr (0, [.ref h1, .ref h2, .ref h3, .int (nI q)])), (h1, .inl (kI G, 5, .inl Yr)), (h2, .inl (kI G, 5, .inl Dn)), (h3, .inl (kI G, 5, .inl Rt))] (.int (atI q Yr t)) := by
  refine Rd.ofW (by decide) (Nat.le_of_ble_eq_true rfl) ?_
  intro p e s m below meth c ls hx hb hml hr hown hts hlk hP hE hl
  have hl : lv_has ls 2 [(0, .ref h0), (1, .int t)] := hl
  refine lv_aload_n hx hb dX0_yearOf_0 rfl (lv_at hl 0 rfl) ?_
  refine lv_iload_n hx hb dX0_yearOf_1 rfl (lv_at hl 1 rfl) ?_
  refine rd_callV (As := [.int t]) (rest := []) hx hb hml hown hts hE hl.1 (c_X0_has l G h0 h1 h2 h3 Yr Dn Rt q t (by first | assumption | omega)) (cw_X0_31 hts) ⟨(Nat.le_of_ble_eq_true rfl), (Nat.le_of_ble_eq_true rfl)⟩ ⟨Nat.zero_le _, Nat.zero_le _⟩ rfl (sub_P hP [0, 1, 2, 3] rfl) rfl rfl rfl rfl (Nat.le_of_ble_eq_true rfl) dX0_yearOf_2 ?_
  refine lv_if_eq (tgt := 17) hx hb dX0_yearOf_5 (by decide) (fun c5 => ?_) (fun c5 => ?_)
  · have c5 := zb_0.mp c5
    refine lv_iconst (v := -1) hx hb dX0_yearOf_17 (by decide) ?_
    exact rd_iret hx hb hr hlk dX0_yearOf_18 (by first | rfl | (simp [zb, c5, atI]; done))
  · have c5 := zb_n0.mp c5
    refine lv_aload_n hx hb dX0_yearOf_8 rfl (lv_at hl 0 rfl) ?_
    refine va_get hx hb hts inlX0 hown hE.1 hP 0 rfl rfl 0 (by decide) (fl_X0_9 hts) (fun _ h9 => h9) rfl dX0_yearOf_9 ?_
    refine lv_iload_n hx hb dX0_yearOf_12 rfl (lv_at hl 1 rfl) ?_
    refine va_iald hx hb hE.1 hP 1 0 rfl rfl (inB_in c5 (by omega)) dX0_yearOf_13 ?_
    refine lv_goto (tgt := 18) hx hb dX0_yearOf_14 (by decide) ?_
    exact rd_iret hx hb hr hlk dX0_yearOf_18 (by first | rfl | (simp [zb, c5, atI]; done))

set_option maxHeartbeats 4000000 in
set_option maxRecDepth 100000 in
theorem c_X0_downOf (l : Launch) (G : Gv) (h0 : Nat) (h1 : Nat) (h2 : Nat) (h3 : Nat) (Yr : Nat → Int32) (Dn : Nat → Int32) (Rt : Nat → Int32) (q : Nat) (t : Int32) (hq : q ≤ 5) : Rd l yX0_downOf cX0_downOf 2 (some .int) (rmz 1 21) G [.ref h0, .int t] [(h0, .inr (0, [.ref h1, .ref h2, .ref h3, .int (nI q)])), (h1, .inl (kI G, 5, .inl Yr)), (h2, .inl (kI G, 5, .inl Dn)), (h3, .inl (kI G, 5, .inl Rt))] (.int (atI q Dn t)) := by
  refine Rd.ofW (by decide) (Nat.le_of_ble_eq_true rfl) ?_
  intro p e s m below meth c ls hx hb hml hr hown hts hlk hP hE hl
  have hl : lv_has ls 2 [(0, .ref h0), (1, .int t)] := hl
  refine lv_aload_n hx hb dX0_downOf_0 rfl (lv_at hl 0 rfl) ?_
  refine lv_iload_n hx hb dX0_downOf_1 rfl (lv_at hl 1 rfl) ?_
  refine rd_callV (As := [.int t]) (rest := []) hx hb hml hown hts hE hl.1 (c_X0_has l G h0 h1 h2 h3 Yr Dn Rt q t (by first | assumption | omega)) (cw_X0_31 hts) ⟨(Nat.le_of_ble_eq_true rfl), (Nat.le_of_ble_eq_true rfl)⟩ ⟨Nat.zero_le _, Nat.zero_le _⟩ rfl (sub_P hP [0, 1, 2, 3] rfl) rfl rfl rfl rfl (Nat.le_of_ble_eq_true rfl) dX0_downOf_2 ?_
  refine lv_if_eq (tgt := 17) hx hb dX0_downOf_5 (by decide) (fun c5 => ?_) (fun c5 => ?_)
  · have c5 := zb_0.mp c5
    refine lv_iconst (v := -1) hx hb dX0_downOf_17 (by decide) ?_
    exact rd_iret hx hb hr hlk dX0_downOf_18 (by first | rfl | (simp [zb, c5, atI]; done))
  · have c5 := zb_n0.mp c5
    refine lv_aload_n hx hb dX0_downOf_8 rfl (lv_at hl 0 rfl) ?_
    refine va_get hx hb hts inlX0 hown hE.1 hP 0 rfl rfl 1 (by decide) (fl_X0_15 hts) (fun _ h9 => h9) rfl dX0_downOf_9 ?_
    refine lv_iload_n hx hb dX0_downOf_12 rfl (lv_at hl 1 rfl) ?_
    refine va_iald hx hb hE.1 hP 2 0 rfl rfl (inB_in c5 (by omega)) dX0_downOf_13 ?_
    refine lv_goto (tgt := 18) hx hb dX0_downOf_14 (by decide) ?_
    exact rd_iret hx hb hr hlk dX0_downOf_18 (by first | rfl | (simp [zb, c5, atI]; done))

set_option maxHeartbeats 4000000 in
set_option maxRecDepth 100000 in
theorem c_X0_rightOf (l : Launch) (G : Gv) (h0 : Nat) (h1 : Nat) (h2 : Nat) (h3 : Nat) (Yr : Nat → Int32) (Dn : Nat → Int32) (Rt : Nat → Int32) (q : Nat) (t : Int32) (hq : q ≤ 5) : Rd l yX0_rightOf cX0_rightOf 2 (some .int) (rmz 1 21) G [.ref h0, .int t] [(h0, .inr (0, [.ref h1, .ref h2, .ref h3, .int (nI q)])), (h1, .inl (kI G, 5, .inl Yr)), (h2, .inl (kI G, 5, .inl Dn)), (h3, .inl (kI G, 5, .inl Rt))] (.int (atI q Rt t)) := by
  refine Rd.ofW (by decide) (Nat.le_of_ble_eq_true rfl) ?_
  intro p e s m below meth c ls hx hb hml hr hown hts hlk hP hE hl
  have hl : lv_has ls 2 [(0, .ref h0), (1, .int t)] := hl
  refine lv_aload_n hx hb dX0_rightOf_0 rfl (lv_at hl 0 rfl) ?_
  refine lv_iload_n hx hb dX0_rightOf_1 rfl (lv_at hl 1 rfl) ?_
  refine rd_callV (As := [.int t]) (rest := []) hx hb hml hown hts hE hl.1 (c_X0_has l G h0 h1 h2 h3 Yr Dn Rt q t (by first | assumption | omega)) (cw_X0_31 hts) ⟨(Nat.le_of_ble_eq_true rfl), (Nat.le_of_ble_eq_true rfl)⟩ ⟨Nat.zero_le _, Nat.zero_le _⟩ rfl (sub_P hP [0, 1, 2, 3] rfl) rfl rfl rfl rfl (Nat.le_of_ble_eq_true rfl) dX0_rightOf_2 ?_
  refine lv_if_eq (tgt := 17) hx hb dX0_rightOf_5 (by decide) (fun c5 => ?_) (fun c5 => ?_)
  · have c5 := zb_0.mp c5
    refine lv_iconst (v := -1) hx hb dX0_rightOf_17 (by decide) ?_
    exact rd_iret hx hb hr hlk dX0_rightOf_18 (by first | rfl | (simp [zb, c5, atI]; done))
  · have c5 := zb_n0.mp c5
    refine lv_aload_n hx hb dX0_rightOf_8 rfl (lv_at hl 0 rfl) ?_
    refine va_get hx hb hts inlX0 hown hE.1 hP 0 rfl rfl 2 (by decide) (fl_X0_18 hts) (fun _ h9 => h9) rfl dX0_rightOf_9 ?_
    refine lv_iload_n hx hb dX0_rightOf_12 rfl (lv_at hl 1 rfl) ?_
    refine va_iald hx hb hE.1 hP 3 0 rfl rfl (inB_in c5 (by omega)) dX0_rightOf_13 ?_
    refine lv_goto (tgt := 18) hx hb dX0_rightOf_14 (by decide) ?_
    exact rd_iret hx hb hr hlk dX0_rightOf_18 (by first | rfl | (simp [zb, c5, atI]; done))

set_option maxHeartbeats 4000000 in
set_option maxRecDepth 100000 in
theorem c_X0_clear (l : Launch) (G : Gv) (h0 : Nat) (h1 : Nat) (h2 : Nat) (h3 : Nat) (Yr : Nat → Int32) (Dn : Nat → Int32) (Rt : Nat → Int32) (q : Nat)  : Ct l yX0_clear cX0_clear 1 none (rmz 0 0) G [.ref h0] [(h0, .inr (0, [.ref h1, .ref h2, .ref h3, .int (nI q)])), (h1, .inl (kI G, 5, .inl Yr)), (h2, .inl (kI G, 5, .inl Dn)), (h3, .inl (kI G, 5, .inl Rt))] (one none [(h0, .inr (0, [.ref h1, .ref h2, .ref h3, .int 0])), (h1, .inl (kI G, 5, .inl Yr)), (h2, .inl (kI G, 5, .inl Dn)), (h3, .inl (kI G, 5, .inl Rt))]) := by
  refine Ct.ofW (by decide) (Nat.le_of_ble_eq_true rfl) ?_
  intro p e s m below meth c ls A hx hb hml hr hown hts hlk hnm hP hD hA hE hS hl
  obtain ⟨H, eH⟩ : ∃ H : Heap, H = s.heap := ⟨_, rfl⟩
  obtain ⟨locs, eL⟩ : ∃ ll : List Loc, ll = [] := ⟨_, rfl⟩
  rw [← eH] at hP
  have hS : va_S A s.heap H locs := by rw [eH, eL]; exact hS
  show WC p l e _ s m _ below meth c G A _ s.heap [] 0 0 _
  rw [← eH, ← eL]
  clear eH eL
  have hl : lv_has ls 1 [(0, .ref h0)] := hl
  refine lv_aload_n hx hb dX0_clear_0 rfl (lv_at hl 0 rfl) ?_
  refine lv_iconst (v := 0) hx hb dX0_clear_1 (by decide) ?_
  refine va_put (v := .int 0) (ty := .int) hx hb hts inlX0 tyX0 tyX0_ok nmX0 hown hE.1 hP hD hS 0 rfl rfl 3 (by decide) (fl_X0_21 hts) (fun _ h9 => h9) rfl (by decide +kernel) rfl rfl (Nat.le_of_ble_eq_true rfl) dX0_clear_2 (fun H locs hP hD hS => ?_)
  have hP : va_P G.1 vwCl [(h0, .inr (0, [.ref h1, .ref h2, .ref h3, .int 0])), (h1, .inl (kI G, 5, .inl Yr)), (h2, .inl (kI G, 5, .inl Dn)), (h3, .inl (kI G, 5, .inl Rt))] H := hP
  have hD : va_D A [(h0, .inr (0, [.ref h1, .ref h2, .ref h3, .int 0])), (h1, .inl (kI G, 5, .inl Yr)), (h2, .inl (kI G, 5, .inl Dn)), (h3, .inl (kI G, 5, .inl Rt))] := hD
  exact ct_vret hx hb hr hlk dX0_clear_5 hP hD hS (by first | exact ⟨rfl, rfl⟩ | (simp [one]; done))

set_option maxHeartbeats 4000000 in
set_option maxRecDepth 100000 in
theorem c_X0_add (l : Launch) (G : Gv) (h0 : Nat) (h1 : Nat) (h2 : Nat) (h3 : Nat) (Yr : Nat → Int32) (Dn : Nat → Int32) (Rt : Nat → Int32) (q : Nat) (x : Int32) (b : Int32) (f : Int32) (hq5 : q < 5) : Ct l yX0_add cX0_add 4 (some .boolean) (rmz 0 0) G [.ref h0, .int x, .int b, .int f] [(h0, .inr (0, [.ref h1, .ref h2, .ref h3, .int (nI q)])), (h1, .inl (kI G, 5, .inl Yr)), (h2, .inl (kI G, 5, .inl Dn)), (h3, .inl (kI G, 5, .inl Rt))] (one (some (.int 1)) [(h0, .inr (0, [.ref h1, .ref h2, .ref h3, .int (nI (q + 1))])), (h1, .inl (kI G, 5, .inl (upd Yr q x))), (h2, .inl (kI G, 5, .inl (upd Dn q b))), (h3, .inl (kI G, 5, .inl (upd Rt q f)))]) := by
  refine Ct.ofW (by decide) (Nat.le_of_ble_eq_true rfl) ?_
  intro p e s m below meth c ls A hx hb hml hr hown hts hlk hnm hP hD hA hE hS hl
  obtain ⟨H, eH⟩ : ∃ H : Heap, H = s.heap := ⟨_, rfl⟩
  obtain ⟨locs, eL⟩ : ∃ ll : List Loc, ll = [] := ⟨_, rfl⟩
  rw [← eH] at hP
  have hS : va_S A s.heap H locs := by rw [eH, eL]; exact hS
  show WC p l e _ s m _ below meth c G A _ s.heap [] 0 0 _
  rw [← eH, ← eL]
  clear eH eL
  have hl : lv_has ls 4 [(0, .ref h0), (1, .int x), (2, .int b), (3, .int f)] := hl
  refine lv_aload_n hx hb dX0_add_0 rfl (lv_at hl 0 rfl) ?_
  refine va_get hx hb hts inlX0 hown hE.1 hP 0 rfl rfl 3 (by decide) (fl_X0_21 hts) (fun _ h9 => h9) rfl dX0_add_1 ?_
  refine lv_iconst (v := 5) hx hb dX0_add_4 (by decide) ?_
  refine lv_icmp_lt (tgt := 10) hx hb dX0_add_5 (by decide) (fun c5 => ?_) (fun c5 => ?_)
  · refine lv_aload_n hx hb dX0_add_10 rfl (lv_at hl 0 rfl) ?_
    refine va_get hx hb hts inlX0 hown hE.1 hP 0 rfl rfl 0 (by decide) (fl_X0_9 hts) (fun _ h9 => h9) rfl dX0_add_11 ?_
    refine lv_aload_n hx hb dX0_add_14 rfl (lv_at hl 0 rfl) ?_
    refine va_get hx hb hts inlX0 hown hE.1 hP 0 rfl rfl 3 (by decide) (fl_X0_21 hts) (fun _ h9 => h9) rfl dX0_add_15 ?_
    refine lv_iload_n hx hb dX0_add_18 rfl (lv_at hl 1 rfl) ?_
    refine va_iast hx hb hE.1 hP hD hS 1 0 rfl rfl (vp_in_nI hq5 (by decide)) dX0_add_19 (fun H locs hP hD hS => ?_)
    have hP : va_P G.1 vwCl [(h0, .inr (0, [.ref h1, .ref h2, .ref h3, .int (nI q)])), (h1, .inl (kI G, 5, .inl (upd Yr (nI q).toNatClampNeg x))), (h2, .inl (kI G, 5, .inl Dn)), (h3, .inl (kI G, 5, .inl Rt))] H := hP
    have hD : va_D A [(h0, .inr (0, [.ref h1, .ref h2, .ref h3, .int (nI q)])), (h1, .inl (kI G, 5, .inl (upd Yr (nI q).toNatClampNeg x))), (h2, .inl (kI G, 5, .inl Dn)), (h3, .inl (kI G, 5, .inl Rt))] := hD
    refine lv_aload_n hx hb dX0_add_20 rfl (lv_at hl 0 rfl) ?_
    refine va_get hx hb hts inlX0 hown hE.1 hP 0 rfl rfl 1 (by decide) (fl_X0_15 hts) (fun _ h9 => h9) rfl dX0_add_21 ?_
    refine lv_aload_n hx hb dX0_add_24 rfl (lv_at hl 0 rfl) ?_
    refine va_get hx hb hts inlX0 hown hE.1 hP 0 rfl rfl 3 (by decide) (fl_X0_21 hts) (fun _ h9 => h9) rfl dX0_add_25 ?_
    refine lv_iload_n hx hb dX0_add_28 rfl (lv_at hl 2 rfl) ?_
    refine va_iast hx hb hE.1 hP hD hS 2 0 rfl rfl (vp_in_nI hq5 (by decide)) dX0_add_29 (fun H locs hP hD hS => ?_)
    have hP : va_P G.1 vwCl [(h0, .inr (0, [.ref h1, .ref h2, .ref h3, .int (nI q)])), (h1, .inl (kI G, 5, .inl (upd Yr (nI q).toNatClampNeg x))), (h2, .inl (kI G, 5, .inl (upd Dn (nI q).toNatClampNeg b))), (h3, .inl (kI G, 5, .inl Rt))] H := hP
    have hD : va_D A [(h0, .inr (0, [.ref h1, .ref h2, .ref h3, .int (nI q)])), (h1, .inl (kI G, 5, .inl (upd Yr (nI q).toNatClampNeg x))), (h2, .inl (kI G, 5, .inl (upd Dn (nI q).toNatClampNeg b))), (h3, .inl (kI G, 5, .inl Rt))] := hD
    refine lv_aload_n hx hb dX0_add_30 rfl (lv_at hl 0 rfl) ?_
    refine va_get hx hb hts inlX0 hown hE.1 hP 0 rfl rfl 2 (by decide) (fl_X0_18 hts) (fun _ h9 => h9) rfl dX0_add_31 ?_
    refine lv_aload_n hx hb dX0_add_34 rfl (lv_at hl 0 rfl) ?_
    refine va_get hx hb hts inlX0 hown hE.1 hP 0 rfl rfl 3 (by decide) (fl_X0_21 hts) (fun _ h9 => h9) rfl dX0_add_35 ?_
    refine lv_iload_n hx hb dX0_add_38 rfl (lv_at hl 3 rfl) ?_
    refine va_iast hx hb hE.1 hP hD hS 3 0 rfl rfl (vp_in_nI hq5 (by decide)) dX0_add_39 (fun H locs hP hD hS => ?_)
    have hP : va_P G.1 vwCl [(h0, .inr (0, [.ref h1, .ref h2, .ref h3, .int (nI q)])), (h1, .inl (kI G, 5, .inl (upd Yr (nI q).toNatClampNeg x))), (h2, .inl (kI G, 5, .inl (upd Dn (nI q).toNatClampNeg b))), (h3, .inl (kI G, 5, .inl (upd Rt (nI q).toNatClampNeg f)))] H := hP
    have hD : va_D A [(h0, .inr (0, [.ref h1, .ref h2, .ref h3, .int (nI q)])), (h1, .inl (kI G, 5, .inl (upd Yr (nI q).toNatClampNeg x))), (h2, .inl (kI G, 5, .inl (upd Dn (nI q).toNatClampNeg b))), (h3, .inl (kI G, 5, .inl (upd Rt (nI q).toNatClampNeg f)))] := hD
    refine lv_aload_n hx hb dX0_add_40 rfl (lv_at hl 0 rfl) ?_
    refine lv_dup hx hb dX0_add_41 rfl ?_
    refine va_get hx hb hts inlX0 hown hE.1 hP 0 rfl rfl 3 (by decide) (fl_X0_21 hts) (fun _ h9 => h9) rfl dX0_add_42 ?_
    refine lv_iconst (v := 1) hx hb dX0_add_45 (by decide) ?_
    refine lv_iadd hx hb dX0_add_46 ?_
    refine va_put (v := .int ((nI q) + 1)) (ty := .int) hx hb hts inlX0 tyX0 tyX0_ok nmX0 hown hE.1 hP hD hS 0 rfl rfl 3 (by decide) (fl_X0_21 hts) (fun _ h9 => h9) rfl (by decide +kernel) rfl rfl (Nat.le_of_ble_eq_true rfl) dX0_add_47 (fun H locs hP hD hS => ?_)
    have hP : va_P G.1 vwCl [(h0, .inr (0, [.ref h1, .ref h2, .ref h3, .int ((nI q) + 1)])), (h1, .inl (kI G, 5, .inl (upd Yr (nI q).toNatClampNeg x))), (h2, .inl (kI G, 5, .inl (upd Dn (nI q).toNatClampNeg b))), (h3, .inl (kI G, 5, .inl (upd Rt (nI q).toNatClampNeg f)))] H := hP
    have hD : va_D A [(h0, .inr (0, [.ref h1, .ref h2, .ref h3, .int ((nI q) + 1)])), (h1, .inl (kI G, 5, .inl (upd Yr (nI q).toNatClampNeg x))), (h2, .inl (kI G, 5, .inl (upd Dn (nI q).toNatClampNeg b))), (h3, .inl (kI G, 5, .inl (upd Rt (nI q).toNatClampNeg f)))] := hD
    refine lv_iconst (v := 1) hx hb dX0_add_50 (by decide) ?_
    exact ct_zret hx hb hr hlk dX0_add_51 rfl hP hD hS (by have e1 : (nI q).toNatClampNeg = q := nI_clamp (by omega); exact ⟨rfl, by simp only [e1, nI_1]⟩)
  · exact absurd (nI_lt (b := 5) hq5 (by decide)) c5

set_option maxHeartbeats 4000000 in
set_option maxRecDepth 100000 in
theorem c_X0_add_full (l : Launch) (G : Gv) (h0 : Nat) (h1 : Nat) (h2 : Nat) (h3 : Nat) (Yr : Nat → Int32) (Dn : Nat → Int32) (Rt : Nat → Int32) (q : Nat) (x : Int32) (b : Int32) (f : Int32) (hq5 : q = 5) : Ct l yX0_add cX0_add 4 (some .boolean) (rmz 0 0) G [.ref h0, .int x, .int b, .int f] [(h0, .inr (0, [.ref h1, .ref h2, .ref h3, .int (nI q)])), (h1, .inl (kI G, 5, .inl Yr)), (h2, .inl (kI G, 5, .inl Dn)), (h3, .inl (kI G, 5, .inl Rt))] (one (some (.int 0)) [(h0, .inr (0, [.ref h1, .ref h2, .ref h3, .int (nI q)])), (h1, .inl (kI G, 5, .inl Yr)), (h2, .inl (kI G, 5, .inl Dn)), (h3, .inl (kI G, 5, .inl Rt))]) := by
  refine Ct.ofW (by decide) (Nat.le_of_ble_eq_true rfl) ?_
  intro p e s m below meth c ls A hx hb hml hr hown hts hlk hnm hP hD hA hE hS hl
  obtain ⟨H, eH⟩ : ∃ H : Heap, H = s.heap := ⟨_, rfl⟩
  obtain ⟨locs, eL⟩ : ∃ ll : List Loc, ll = [] := ⟨_, rfl⟩
  rw [← eH] at hP
  have hS : va_S A s.heap H locs := by rw [eH, eL]; exact hS
  show WC p l e _ s m _ below meth c G A _ s.heap [] 0 0 _
  rw [← eH, ← eL]
  clear eH eL
  have hl : lv_has ls 4 [(0, .ref h0), (1, .int x), (2, .int b), (3, .int f)] := hl
  refine lv_aload_n hx hb dX0_add_0 rfl (lv_at hl 0 rfl) ?_
  refine va_get hx hb hts inlX0 hown hE.1 hP 0 rfl rfl 3 (by decide) (fl_X0_21 hts) (fun _ h9 => h9) rfl dX0_add_1 ?_
  refine lv_iconst (v := 5) hx hb dX0_add_4 (by decide) ?_
  refine lv_icmp_lt (tgt := 10) hx hb dX0_add_5 (by decide) (fun c5 => ?_) (fun c5 => ?_)
  · exact absurd c5 (by rw [hq5]; decide)
  · refine lv_iconst (v := 0) hx hb dX0_add_8 (by decide) ?_
    exact ct_zret hx hb hr hlk dX0_add_9 rfl hP hD hS (by first | exact ⟨rfl, rfl⟩ | (simp [one, c5]; done))

set_option maxHeartbeats 4000000 in
set_option maxRecDepth 100000 in
theorem c_X0_copyFrom (l : Launch) (G : Gv) (h0 : Nat) (h1 : Nat) (h2 : Nat) (h3 : Nat) (Yr : Nat → Int32) (Dn : Nat → Int32) (Rt : Nat → Int32) (q : Nat) (k0 : Nat) (k1 : Nat) (k2 : Nat) (k3 : Nat) (Yr2 : Nat → Int32) (Dn2 : Nat → Int32) (Rt2 : Nat → Int32) (q2 : Nat)  : Ct l yX0_copyFrom cX0_copyFrom 2 none (rmz 1 40) G [.ref h0, .ref k0] [(h0, .inr (0, [.ref h1, .ref h2, .ref h3, .int (nI q)])), (h1, .inl (kI G, 5, .inl Yr)), (h2, .inl (kI G, 5, .inl Dn)), (h3, .inl (kI G, 5, .inl Rt)), (k0, .inr (0, [.ref k1, .ref k2, .ref k3, .int (nI q2)])), (k1, .inl (kI G, 5, .inl Yr2)), (k2, .inl (kI G, 5, .inl Dn2)), (k3, .inl (kI G, 5, .inl Rt2))] (one none [(h0, .inr (0, [.ref h1, .ref h2, .ref h3, .int (nI q2)])), (h1, .inl (kI G, 5, .inl (va_cpy Yr2 Yr 0 0 5))), (h2, .inl (kI G, 5, .inl (va_cpy Dn2 Dn 0 0 5))), (h3, .inl (kI G, 5, .inl (va_cpy Rt2 Rt 0 0 5))), (k0, .inr (0, [.ref k1, .ref k2, .ref k3, .int (nI q2)])), (k1, .inl (kI G, 5, .inl Yr2)), (k2, .inl (kI G, 5, .inl Dn2)), (k3, .inl (kI G, 5, .inl Rt2))]) := by
  refine Ct.ofW (by decide) (Nat.le_of_ble_eq_true rfl) ?_
  intro p e s m below meth c ls A hx hb hml hr hown hts hlk hnm hP hD hA hE hS hl
  obtain ⟨H, eH⟩ : ∃ H : Heap, H = s.heap := ⟨_, rfl⟩
  obtain ⟨locs, eL⟩ : ∃ ll : List Loc, ll = [] := ⟨_, rfl⟩
  rw [← eH] at hP
  have hS : va_S A s.heap H locs := by rw [eH, eL]; exact hS
  show WC p l e _ s m _ below meth c G A _ s.heap [] 0 0 _
  rw [← eH, ← eL]
  clear eH eL
  have hl : lv_has ls 2 [(0, .ref h0), (1, .ref k0)] := hl
  refine lv_aload_n hx hb dX0_copyFrom_0 rfl (lv_at hl 1 rfl) ?_
  refine va_get hx hb hts inlX0 hown hE.1 hP 4 rfl rfl 0 (by decide) (fl_X0_9 hts) (fun _ h9 => h9) rfl dX0_copyFrom_1 ?_
  refine lv_iconst (v := 0) hx hb dX0_copyFrom_4 (by decide) ?_
  refine lv_aload_n hx hb dX0_copyFrom_5 rfl (lv_at hl 0 rfl) ?_
  refine va_get hx hb hts inlX0 hown hE.1 hP 0 rfl rfl 0 (by decide) (fl_X0_9 hts) (fun _ h9 => h9) rfl dX0_copyFrom_6 ?_
  refine lv_iconst (v := 0) hx hb dX0_copyFrom_9 (by decide) ?_
  refine lv_iconst (v := 5) hx hb dX0_copyFrom_10 (by decide) ?_
  refine va_copyi hx hb (hml.trans hl.1.symm) hown (ml_X0_25 hts) (nt_arraycopyName hts) (st_arraycopyName hts) (in__java_lang_System_ hts) hE.1 hP hD hS 5 1 0 0 rfl rfl rfl rfl rfl (by decide) (by decide) (by decide) (by decide) (by decide) (fun _ _ => rfl) (Nat.le_of_ble_eq_true rfl) (by decide) dX0_copyFrom_11 (fun H locs hP hD hS => ?_)
  have hP : va_P G.1 vwCl [(h0, .inr (0, [.ref h1, .ref h2, .ref h3, .int (nI q)])), (h1, .inl (kI G, 5, .inl (va_cpy Yr2 Yr 0 0 5))), (h2, .inl (kI G, 5, .inl Dn)), (h3, .inl (kI G, 5, .inl Rt)), (k0, .inr (0, [.ref k1, .ref k2, .ref k3, .int (nI q2)])), (k1, .inl (kI G, 5, .inl Yr2)), (k2, .inl (kI G, 5, .inl Dn2)), (k3, .inl (kI G, 5, .inl Rt2))] H := hP
  have hD : va_D A [(h0, .inr (0, [.ref h1, .ref h2, .ref h3, .int (nI q)])), (h1, .inl (kI G, 5, .inl (va_cpy Yr2 Yr 0 0 5))), (h2, .inl (kI G, 5, .inl Dn)), (h3, .inl (kI G, 5, .inl Rt)), (k0, .inr (0, [.ref k1, .ref k2, .ref k3, .int (nI q2)])), (k1, .inl (kI G, 5, .inl Yr2)), (k2, .inl (kI G, 5, .inl Dn2)), (k3, .inl (kI G, 5, .inl Rt2))] := hD
  refine lv_aload_n hx hb dX0_copyFrom_14 rfl (lv_at hl 1 rfl) ?_
  refine va_get hx hb hts inlX0 hown hE.1 hP 4 rfl rfl 1 (by decide) (fl_X0_15 hts) (fun _ h9 => h9) rfl dX0_copyFrom_15 ?_
  refine lv_iconst (v := 0) hx hb dX0_copyFrom_18 (by decide) ?_
  refine lv_aload_n hx hb dX0_copyFrom_19 rfl (lv_at hl 0 rfl) ?_
  refine va_get hx hb hts inlX0 hown hE.1 hP 0 rfl rfl 1 (by decide) (fl_X0_15 hts) (fun _ h9 => h9) rfl dX0_copyFrom_20 ?_
  refine lv_iconst (v := 0) hx hb dX0_copyFrom_23 (by decide) ?_
  refine lv_iconst (v := 5) hx hb dX0_copyFrom_24 (by decide) ?_
  refine va_copyi hx hb (hml.trans hl.1.symm) hown (ml_X0_25 hts) (nt_arraycopyName hts) (st_arraycopyName hts) (in__java_lang_System_ hts) hE.1 hP hD hS 6 2 0 0 rfl rfl rfl rfl rfl (by decide) (by decide) (by decide) (by decide) (by decide) (fun _ _ => rfl) (Nat.le_of_ble_eq_true rfl) (by decide) dX0_copyFrom_25 (fun H locs hP hD hS => ?_)
  have hP : va_P G.1 vwCl [(h0, .inr (0, [.ref h1, .ref h2, .ref h3, .int (nI q)])), (h1, .inl (kI G, 5, .inl (va_cpy Yr2 Yr 0 0 5))), (h2, .inl (kI G, 5, .inl (va_cpy Dn2 Dn 0 0 5))), (h3, .inl (kI G, 5, .inl Rt)), (k0, .inr (0, [.ref k1, .ref k2, .ref k3, .int (nI q2)])), (k1, .inl (kI G, 5, .inl Yr2)), (k2, .inl (kI G, 5, .inl Dn2)), (k3, .inl (kI G, 5, .inl Rt2))] H := hP
  have hD : va_D A [(h0, .inr (0, [.ref h1, .ref h2, .ref h3, .int (nI q)])), (h1, .inl (kI G, 5, .inl (va_cpy Yr2 Yr 0 0 5))), (h2, .inl (kI G, 5, .inl (va_cpy Dn2 Dn 0 0 5))), (h3, .inl (kI G, 5, .inl Rt)), (k0, .inr (0, [.ref k1, .ref k2, .ref k3, .int (nI q2)])), (k1, .inl (kI G, 5, .inl Yr2)), (k2, .inl (kI G, 5, .inl Dn2)), (k3, .inl (kI G, 5, .inl Rt2))] := hD
  refine lv_aload_n hx hb dX0_copyFrom_28 rfl (lv_at hl 1 rfl) ?_
  refine va_get hx hb hts inlX0 hown hE.1 hP 4 rfl rfl 2 (by decide) (fl_X0_18 hts) (fun _ h9 => h9) rfl dX0_copyFrom_29 ?_
  refine lv_iconst (v := 0) hx hb dX0_copyFrom_32 (by decide) ?_
  refine lv_aload_n hx hb dX0_copyFrom_33 rfl (lv_at hl 0 rfl) ?_
  refine va_get hx hb hts inlX0 hown hE.1 hP 0 rfl rfl 2 (by decide) (fl_X0_18 hts) (fun _ h9 => h9) rfl dX0_copyFrom_34 ?_
  refine lv_iconst (v := 0) hx hb dX0_copyFrom_37 (by decide) ?_
  refine lv_iconst (v := 5) hx hb dX0_copyFrom_38 (by decide) ?_
  refine va_copyi hx hb (hml.trans hl.1.symm) hown (ml_X0_25 hts) (nt_arraycopyName hts) (st_arraycopyName hts) (in__java_lang_System_ hts) hE.1 hP hD hS 7 3 0 0 rfl rfl rfl rfl rfl (by decide) (by decide) (by decide) (by decide) (by decide) (fun _ _ => rfl) (Nat.le_of_ble_eq_true rfl) (by decide) dX0_copyFrom_39 (fun H locs hP hD hS => ?_)
  have hP : va_P G.1 vwCl [(h0, .inr (0, [.ref h1, .ref h2, .ref h3, .int (nI q)])), (h1, .inl (kI G, 5, .inl (va_cpy Yr2 Yr 0 0 5))), (h2, .inl (kI G, 5, .inl (va_cpy Dn2 Dn 0 0 5))), (h3, .inl (kI G, 5, .inl (va_cpy Rt2 Rt 0 0 5))), (k0, .inr (0, [.ref k1, .ref k2, .ref k3, .int (nI q2)])), (k1, .inl (kI G, 5, .inl Yr2)), (k2, .inl (kI G, 5, .inl Dn2)), (k3, .inl (kI G, 5, .inl Rt2))] H := hP
  have hD : va_D A [(h0, .inr (0, [.ref h1, .ref h2, .ref h3, .int (nI q)])), (h1, .inl (kI G, 5, .inl (va_cpy Yr2 Yr 0 0 5))), (h2, .inl (kI G, 5, .inl (va_cpy Dn2 Dn 0 0 5))), (h3, .inl (kI G, 5, .inl (va_cpy Rt2 Rt 0 0 5))), (k0, .inr (0, [.ref k1, .ref k2, .ref k3, .int (nI q2)])), (k1, .inl (kI G, 5, .inl Yr2)), (k2, .inl (kI G, 5, .inl Dn2)), (k3, .inl (kI G, 5, .inl Rt2))] := hD
  refine lv_aload_n hx hb dX0_copyFrom_42 rfl (lv_at hl 0 rfl) ?_
  refine lv_aload_n hx hb dX0_copyFrom_43 rfl (lv_at hl 1 rfl) ?_
  refine va_get hx hb hts inlX0 hown hE.1 hP 4 rfl rfl 3 (by decide) (fl_X0_21 hts) (fun _ h9 => h9) rfl dX0_copyFrom_44 ?_
  refine va_put (v := .int (nI q2)) (ty := .int) hx hb hts inlX0 tyX0 tyX0_ok nmX0 hown hE.1 hP hD hS 0 rfl rfl 3 (by decide) (fl_X0_21 hts) (fun _ h9 => h9) rfl (by decide +kernel) rfl rfl (Nat.le_of_ble_eq_true rfl) dX0_copyFrom_47 (fun H locs hP hD hS => ?_)
  have hP : va_P G.1 vwCl [(h0, .inr (0, [.ref h1, .ref h2, .ref h3, .int (nI q2)])), (h1, .inl (kI G, 5, .inl (va_cpy Yr2 Yr 0 0 5))), (h2, .inl (kI G, 5, .inl (va_cpy Dn2 Dn 0 0 5))), (h3, .inl (kI G, 5, .inl (va_cpy Rt2 Rt 0 0 5))), (k0, .inr (0, [.ref k1, .ref k2, .ref k3, .int (nI q2)])), (k1, .inl (kI G, 5, .inl Yr2)), (k2, .inl (kI G, 5, .inl Dn2)), (k3, .inl (kI G, 5, .inl Rt2))] H := hP
  have hD : va_D A [(h0, .inr (0, [.ref h1, .ref h2, .ref h3, .int (nI q2)])), (h1, .inl (kI G, 5, .inl (va_cpy Yr2 Yr 0 0 5))), (h2, .inl (kI G, 5, .inl (va_cpy Dn2 Dn 0 0 5))), (h3, .inl (kI G, 5, .inl (va_cpy Rt2 Rt 0 0 5))), (k0, .inr (0, [.ref k1, .ref k2, .ref k3, .int (nI q2)])), (k1, .inl (kI G, 5, .inl Yr2)), (k2, .inl (kI G, 5, .inl Dn2)), (k3, .inl (kI G, 5, .inl Rt2))] := hD
  exact ct_vret hx hb hr hlk dX0_copyFrom_50 hP hD hS (by first | exact ⟨rfl, rfl⟩ | (simp [one]; done))

set_option maxHeartbeats 4000000 in
set_option maxRecDepth 100000 in
theorem c_X2_isSide (l : Launch) (G : Gv) (x : Int32)  : Rd l yX2_isSide cX2_isSide 1 (some .boolean) (rmz 0 0) G [.int x] [] (.int (zb (isS x))) := by
  refine Rd.ofW (by decide) (Nat.le_of_ble_eq_true rfl) ?_
  intro p e s m below meth c ls hx hb hml hr hown hts hlk hP hE hl
  have hl : lv_has ls 1 [(0, .int x)] := hl
  refine lv_iload_n hx hb dX2_isSide_0 rfl (lv_at hl 0 rfl) ?_
  refine lv_iconst (v := 2) hx hb dX2_isSide_1 (by decide) ?_
  refine lv_icmp_lt (tgt := 15) hx hb dX2_isSide_2 (by decide) (fun c2 => ?_) (fun c2 => ?_)
  · refine lv_iconst (v := 0) hx hb dX2_isSide_15 (by decide) ?_
    exact rd_zret hx hb hr hlk dX2_isSide_16 rfl (by first | rfl | (simp [zb, c2, isS]; done))
  · refine lv_iload_n hx hb dX2_isSide_5 rfl (lv_at hl 0 rfl) ?_
    refine lv_bipush (v := 8) hx hb dX2_isSide_6 (by decide) ?_
    refine lv_icmp_gt (tgt := 15) hx hb dX2_isSide_8 (by decide) (fun c8 => ?_) (fun c8 => ?_)
    · refine lv_iconst (v := 0) hx hb dX2_isSide_15 (by decide) ?_
      exact rd_zret hx hb hr hlk dX2_isSide_16 rfl (by first | rfl | (simp [zb, c2, c8, isS]; done))
    · refine lv_iconst (v := 1) hx hb dX2_isSide_11 (by decide) ?_
      refine lv_goto (tgt := 16) hx hb dX2_isSide_12 (by decide) ?_
      exact rd_zret hx hb hr hlk dX2_isSide_16 rfl (by first | rfl | (simp [zb, c2, c8, isS]; done))

set_option maxHeartbeats 4000000 in
set_option maxRecDepth 100000 in
theorem c_X2_cells (l : Launch) (G : Gv) (g0 : Nat) (nr : Nat) (nc : Nat)  : Rd l yX2_cells cX2_cells 1 (some .int) (rmz 0 0) G [.ref g0] [(g0, .inr (2, [.int (nI nr), .int (nI nc)]))] (.int (nI (nr * nc))) := by
  refine Rd.ofW (by decide) (Nat.le_of_ble_eq_true rfl) ?_
  intro p e s m below meth c ls hx hb hml hr hown hts hlk hP hE hl
  have hl : lv_has ls 1 [(0, .ref g0)] := hl
  refine lv_aload_n hx hb dX2_cells_0 rfl (lv_at hl 0 rfl) ?_
  refine va_get hx hb hts inlX2 hown hE.1 hP 0 rfl rfl 0 (by decide) (fl_X2_9 hts) (fun _ h9 => h9) rfl dX2_cells_1 ?_
  refine lv_aload_n hx hb dX2_cells_4 rfl (lv_at hl 0 rfl) ?_
  refine va_get hx hb hts inlX2 hown hE.1 hP 0 rfl rfl 1 (by decide) (fl_X2_15 hts) (fun _ h9 => h9) rfl dX2_cells_5 ?_
  refine lv_imul hx hb dX2_cells_8 ?_
  exact rd_iret hx hb hr hlk dX2_cells_9 (by rw [pk_mul])

set_option maxHeartbeats 4000000 in
set_option maxRecDepth 100000 in
theorem c_X2_has (l : Launch) (G : Gv) (g0 : Nat) (nr : Nat) (nc : Nat) (x : Int32) (hg1 : 2 ≤ nr ∧ nr ≤ 8) (hg2 : 2 ≤ nc ∧ nc ≤ 8) : Rd l yX2_has cX2_has 2 (some .boolean) (rmz 1 20) G [.ref g0, .int x] [(g0, .inr (2, [.int (nI nr), .int (nI nc)]))] (.int (zb (inG nr nc x))) := by
  refine Rd.ofW (by decide) (Nat.le_of_ble_eq_true rfl) ?_
  intro p e s m below meth c ls hx hb hml hr hown hts hlk hP hE hl
  have hl : lv_has ls 2 [(0, .ref g0), (1, .int x)] := hl
  have hcl := cells_le hg1 hg2
  refine lv_iload_n hx hb dX2_has_0 rfl (lv_at hl 1 rfl) ?_
  refine lv_if_lt (tgt := 16) hx hb dX2_has_1 (by decide) (fun c1 => ?_) (fun c1 => ?_)
  · have c1 := inB_neg (n := nr * nc) c1
    refine lv_iconst (v := 0) hx hb dX2_has_16 (by decide) ?_
    exact rd_zret hx hb hr hlk dX2_has_17 rfl (by first | rfl | (simp [zb, c1, inG]; done))
  · refine lv_iload_n hx hb dX2_has_4 rfl (lv_at hl 1 rfl) ?_
    refine lv_aload_n hx hb dX2_has_5 rfl (lv_at hl 0 rfl) ?_
    refine rd_callV (As := []) (rest := [.int x]) hx hb hml hown hts hE hl.1 (c_X2_cells l G g0 nr nc ) (cw_X2_22 hts) ⟨(Nat.le_of_ble_eq_true rfl), (Nat.le_of_ble_eq_true rfl)⟩ ⟨Nat.zero_le _, Nat.zero_le _⟩ rfl (sub_P hP [0] rfl) rfl rfl rfl rfl (Nat.le_of_ble_eq_true rfl) dX2_has_6 ?_
    refine lv_icmp_ge (tgt := 16) hx hb dX2_has_9 (by decide) (fun c9 => ?_) (fun c9 => ?_)
    · have c9 := inB_ge (n := nr * nc) (by omega) c9
      refine lv_iconst (v := 0) hx hb dX2_has_16 (by decide) ?_
      exact rd_zret hx hb hr hlk dX2_has_17 rfl (by first | rfl | (simp [zb, c1, c9, inG]; done))
    · have c9 := inB_yes (n := nr * nc) (by omega) c1 c9
      refine lv_iconst (v := 1) hx hb dX2_has_12 (by decide) ?_
      refine lv_goto (tgt := 17) hx hb dX2_has_13 (by decide) ?_
      exact rd_zret hx hb hr hlk dX2_has_17 rfl (by first | rfl | (simp [zb, c1, c9, inG]; done))

set_option maxHeartbeats 4000000 in
set_option maxRecDepth 100000 in
theorem c_X2_rowOf (l : Launch) (G : Gv) (g0 : Nat) (nr : Nat) (nc : Nat) (x : Int32) (hg2 : 2 ≤ nc ∧ nc ≤ 8) : Rd l yX2_rowOf cX2_rowOf 2 (some .int) (rmz 0 0) G [.ref g0, .int x] [(g0, .inr (2, [.int (nI nr), .int (nI nc)]))] (.int (rwI nc x)) := by
  refine Rd.ofW (by decide) (Nat.le_of_ble_eq_true rfl) ?_
  intro p e s m below meth c ls hx hb hml hr hown hts hlk hP hE hl
  have hl : lv_has ls 2 [(0, .ref g0), (1, .int x)] := hl
  refine lv_aload_n hx hb dX2_rowOf_0 rfl (lv_at hl 0 rfl) ?_
  refine va_get hx hb hts inlX2 hown hE.1 hP 0 rfl rfl 1 (by decide) (fl_X2_15 hts) (fun _ h9 => h9) rfl dX2_rowOf_1 ?_
  refine lv_if_le (tgt := 16) hx hb dX2_rowOf_4 (by decide) (fun c4 => ?_) (fun c4 => ?_)
  · exact absurd c4 (nc_pos hg2)
  · refine lv_iload_n hx hb dX2_rowOf_7 rfl (lv_at hl 1 rfl) ?_
    refine lv_aload_n hx hb dX2_rowOf_8 rfl (lv_at hl 0 rfl) ?_
    refine va_get hx hb hts inlX2 hown hE.1 hP 0 rfl rfl 1 (by decide) (fl_X2_15 hts) (fun _ h9 => h9) rfl dX2_rowOf_9 ?_
    refine lv_idiv hx hb dX2_rowOf_12 (nc_ne hg2) ?_
    refine lv_goto (tgt := 17) hx hb dX2_rowOf_13 (by decide) ?_
    exact rd_iret hx hb hr hlk dX2_rowOf_17 (by first | rfl | (simp [zb, c4]; done))

set_option maxHeartbeats 4000000 in
set_option maxRecDepth 100000 in
theorem c_X2_columnOf (l : Launch) (G : Gv) (g0 : Nat) (nr : Nat) (nc : Nat) (x : Int32) (hg2 : 2 ≤ nc ∧ nc ≤ 8) : Rd l yX2_columnOf cX2_columnOf 2 (some .int) (rmz 1 21) G [.ref g0, .int x] [(g0, .inr (2, [.int (nI nr), .int (nI nc)]))] (.int (coI nc x)) := by
  refine Rd.ofW (by decide) (Nat.le_of_ble_eq_true rfl) ?_
  intro p e s m below meth c ls hx hb hml hr hown hts hlk hP hE hl
  have hl : lv_has ls 2 [(0, .ref g0), (1, .int x)] := hl
  refine lv_iload_n hx hb dX2_columnOf_0 rfl (lv_at hl 1 rfl) ?_
  refine lv_aload_n hx hb dX2_columnOf_1 rfl (lv_at hl 0 rfl) ?_
  refine lv_iload_n hx hb dX2_columnOf_2 rfl (lv_at hl 1 rfl) ?_
  refine rd_callV (As := [.int x]) (rest := [.int x]) hx hb hml hown hts hE hl.1 (c_X2_rowOf l G g0 nr nc x (by first | assumption | omega)) (cw_X2_26 hts) ⟨(Nat.le_of_ble_eq_true rfl), (Nat.le_of_ble_eq_true rfl)⟩ ⟨Nat.zero_le _, Nat.zero_le _⟩ rfl (sub_P hP [0] rfl) rfl rfl rfl rfl (Nat.le_of_ble_eq_true rfl) dX2_columnOf_3 ?_
  refine lv_aload_n hx hb dX2_columnOf_6 rfl (lv_at hl 0 rfl) ?_
  refine va_get hx hb hts inlX2 hown hE.1 hP 0 rfl rfl 1 (by decide) (fl_X2_15 hts) (fun _ h9 => h9) rfl dX2_columnOf_7 ?_
  refine lv_imul hx hb dX2_columnOf_10 ?_
  refine lv_isub hx hb dX2_columnOf_11 ?_
  exact rd_iret hx hb hr hlk dX2_columnOf_12 (by first | rfl | (simp [zb]; done))

set_option maxHeartbeats 4000000 in
set_option maxRecDepth 100000 in
theorem c_X2_shift (l : Launch) (G : Gv) (g0 : Nat) (nr : Nat) (nc : Nat) (x : Int32) (dn : Int32) (rt : Int32) (hg1 : 2 ≤ nr ∧ nr ≤ 8) (hg2 : 2 ≤ nc ∧ nc ≤ 8) : Rd l yX2_shift cX2_shift 7 (some .int) (rmz 2 42) G [.ref g0, .int x, .int dn, .int rt] [(g0, .inr (2, [.int (nI nr), .int (nI nc)]))] (.int (shf nr nc x dn rt)) := by
  refine Rd.ofW (by decide) (Nat.le_of_ble_eq_true rfl) ?_
  intro p e s m below meth c ls hx hb hml hr hown hts hlk hP hE hl
  have hl : lv_has ls 7 [(0, .ref g0), (1, .int x), (2, .int dn), (3, .int rt)] := hl
  refine lv_aload_n hx hb dX2_shift_0 rfl (lv_at hl 0 rfl) ?_
  refine lv_iload_n hx hb dX2_shift_1 rfl (lv_at hl 1 rfl) ?_
  refine rd_callV (As := [.int x]) (rest := []) hx hb hml hown hts hE hl.1 (c_X2_rowOf l G g0 nr nc x (by first | assumption | omega)) (cw_X2_26 hts) ⟨(Nat.le_of_ble_eq_true rfl), (Nat.le_of_ble_eq_true rfl)⟩ ⟨Nat.zero_le _, Nat.zero_le _⟩ rfl (sub_P hP [0] rfl) rfl rfl rfl rfl (Nat.le_of_ble_eq_true rfl) dX2_shift_2 ?_
  refine lv_iload_n hx hb dX2_shift_5 rfl (lv_at hl 2 rfl) ?_
  refine lv_iadd hx hb dX2_shift_6 ?_
  refine lv_istore (lv' := [(4, .int ((rwI nc x) + dn)), (0, .ref g0), (1, .int x), (2, .int dn), (3, .int rt)]) hx hb dX2_shift_7 hl (by decide) rfl (fun ls hl => ?_)
  refine lv_aload_n hx hb dX2_shift_9 rfl (lv_at hl 1 rfl) ?_
  refine lv_iload_n hx hb dX2_shift_10 rfl (lv_at hl 2 rfl) ?_
  refine rd_callV (As := [.int x]) (rest := []) hx hb hml hown hts hE hl.1 (c_X2_columnOf l G g0 nr nc x (by first | assumption | omega)) (cw_X2_30 hts) ⟨(Nat.le_of_ble_eq_true rfl), (Nat.le_of_ble_eq_true rfl)⟩ ⟨Nat.zero_le _, Nat.zero_le _⟩ rfl (sub_P hP [0] rfl) rfl rfl rfl rfl (Nat.le_of_ble_eq_true rfl) dX2_shift_11 ?_
  refine lv_iload_n hx hb dX2_shift_14 rfl (lv_at hl 4 rfl) ?_
  refine lv_iadd hx hb dX2_shift_15 ?_
  refine lv_istore (lv' := [(5, .int ((coI nc x) + rt)), (4, .int ((rwI nc x) + dn)), (0, .ref g0), (1, .int x), (2, .int dn), (3, .int rt)]) hx hb dX2_shift_16 hl (by decide) rfl (fun ls hl => ?_)
  refine lv_iload hx hb dX2_shift_18 (lv_at hl 1 rfl) ?_
  refine lv_if_lt (tgt := 50) hx hb dX2_shift_20 (by decide) (fun c20 => ?_) (fun c20 => ?_)
  · have c20 := inB_neg (n := nr) c20
    refine lv_iconst (v := 0) hx hb dX2_shift_50 (by decide) ?_
    refine lv_istore (lv' := [(6, .int 0), (5, .int ((coI nc x) + rt)), (4, .int ((rwI nc x) + dn)), (0, .ref g0), (1, .int x), (2, .int dn), (3, .int rt)]) hx hb dX2_shift_51 hl (by decide) rfl (fun ls hl => ?_)
    refine lv_iload hx hb dX2_shift_53 (lv_at hl 0 rfl) ?_
    refine lv_if_eq (tgt := 71) hx hb dX2_shift_55 (by decide) (fun c55 => ?_) (fun c55 => ?_)
    · refine lv_iconst (v := -1) hx hb dX2_shift_71 (by decide) ?_
      exact rd_iret hx hb hr hlk dX2_shift_72 (by first | rfl | (simp [zb, c20, shf]; done))
    · exact absurd c55 (by decide)
  · refine lv_iload hx hb dX2_shift_23 (lv_at hl 1 rfl) ?_
    refine lv_aload_n hx hb dX2_shift_25 rfl (lv_at hl 2 rfl) ?_
    refine va_get hx hb hts inlX2 hown hE.1 hP 0 rfl rfl 0 (by decide) (fl_X2_9 hts) (fun _ h9 => h9) rfl dX2_shift_26 ?_
    refine lv_icmp_ge (tgt := 50) hx hb dX2_shift_29 (by decide) (fun c29 => ?_) (fun c29 => ?_)
    · have c29 := inB_ge (n := nr) (by omega) c29
      refine lv_iconst (v := 0) hx hb dX2_shift_50 (by decide) ?_
      refine lv_istore (lv' := [(6, .int 0), (5, .int ((coI nc x) + rt)), (4, .int ((rwI nc x) + dn)), (0, .ref g0), (1, .int x), (2, .int dn), (3, .int rt)]) hx hb dX2_shift_51 hl (by decide) rfl (fun ls hl => ?_)
      refine lv_iload hx hb dX2_shift_53 (lv_at hl 0 rfl) ?_
      refine lv_if_eq (tgt := 71) hx hb dX2_shift_55 (by decide) (fun c55 => ?_) (fun c55 => ?_)
      · refine lv_iconst (v := -1) hx hb dX2_shift_71 (by decide) ?_
        exact rd_iret hx hb hr hlk dX2_shift_72 (by first | rfl | (simp [zb, c20, c29, shf]; done))
      · exact absurd c55 (by decide)
    · have c29 := inB_yes (n := nr) (by omega) c20 c29
      refine lv_iload hx hb dX2_shift_32 (lv_at hl 0 rfl) ?_
      refine lv_if_lt (tgt := 50) hx hb dX2_shift_34 (by decide) (fun c34 => ?_) (fun c34 => ?_)
      · have c34 := inB_neg (n := nc) c34
        refine lv_iconst (v := 0) hx hb dX2_shift_50 (by decide) ?_
        refine lv_istore (lv' := [(6, .int 0), (5, .int ((coI nc x) + rt)), (4, .int ((rwI nc x) + dn)), (0, .ref g0), (1, .int x), (2, .int dn), (3, .int rt)]) hx hb dX2_shift_51 hl (by decide) rfl (fun ls hl => ?_)
        refine lv_iload hx hb dX2_shift_53 (lv_at hl 0 rfl) ?_
        refine lv_if_eq (tgt := 71) hx hb dX2_shift_55 (by decide) (fun c55 => ?_) (fun c55 => ?_)
        · refine lv_iconst (v := -1) hx hb dX2_shift_71 (by decide) ?_
          exact rd_iret hx hb hr hlk dX2_shift_72 (by first | rfl | (simp [zb, c20, c29, c34, shf]; done))
        · exact absurd c55 (by decide)
      · refine lv_iload hx hb dX2_shift_37 (lv_at hl 0 rfl) ?_
        refine lv_aload_n hx hb dX2_shift_39 rfl (lv_at hl 2 rfl) ?_
        refine va_get hx hb hts inlX2 hown hE.1 hP 0 rfl rfl 1 (by decide) (fl_X2_15 hts) (fun _ h9 => h9) rfl dX2_shift_40 ?_
        refine lv_icmp_ge (tgt := 50) hx hb dX2_shift_43 (by decide) (fun c43 => ?_) (fun c43 => ?_)
        · have c43 := inB_ge (n := nc) (by omega) c43
          refine lv_iconst (v := 0) hx hb dX2_shift_50 (by decide) ?_
          refine lv_istore (lv' := [(6, .int 0), (5, .int ((coI nc x) + rt)), (4, .int ((rwI nc x) + dn)), (0, .ref g0), (1, .int x), (2, .int dn), (3, .int rt)]) hx hb dX2_shift_51 hl (by decide) rfl (fun ls hl => ?_)
          refine lv_iload hx hb dX2_shift_53 (lv_at hl 0 rfl) ?_
          refine lv_if_eq (tgt := 71) hx hb dX2_shift_55 (by decide) (fun c55 => ?_) (fun c55 => ?_)
          · refine lv_iconst (v := -1) hx hb dX2_shift_71 (by decide) ?_
            exact rd_iret hx hb hr hlk dX2_shift_72 (by first | rfl | (simp [zb, c20, c29, c34, c43, shf]; done))
          · exact absurd c55 (by decide)
        · have c43 := inB_yes (n := nc) (by omega) c34 c43
          refine lv_iconst (v := 1) hx hb dX2_shift_46 (by decide) ?_
          refine lv_goto (tgt := 51) hx hb dX2_shift_47 (by decide) ?_
          refine lv_istore (lv' := [(6, .int 1), (5, .int ((coI nc x) + rt)), (4, .int ((rwI nc x) + dn)), (0, .ref g0), (1, .int x), (2, .int dn), (3, .int rt)]) hx hb dX2_shift_51 hl (by decide) rfl (fun ls hl => ?_)
          refine lv_iload hx hb dX2_shift_53 (lv_at hl 0 rfl) ?_
          refine lv_if_eq (tgt := 71) hx hb dX2_shift_55 (by decide) (fun c55 => ?_) (fun c55 => ?_)
          · exact absurd c55 (by decide)
          · refine lv_iload hx hb dX2_shift_58 (lv_at hl 2 rfl) ?_
            refine lv_aload_n hx hb dX2_shift_60 rfl (lv_at hl 3 rfl) ?_
            refine va_get hx hb hts inlX2 hown hE.1 hP 0 rfl rfl 1 (by decide) (fl_X2_15 hts) (fun _ h9 => h9) rfl dX2_shift_61 ?_
            refine lv_imul hx hb dX2_shift_64 ?_
            refine lv_iload hx hb dX2_shift_65 (lv_at hl 1 rfl) ?_
            refine lv_iadd hx hb dX2_shift_67 ?_
            refine lv_goto (tgt := 72) hx hb dX2_shift_68 (by decide) ?_
            exact rd_iret hx hb hr hlk dX2_shift_72 (by first | rfl | (simp [zb, c20, c29, c34, c43, shf]; done))

set_option maxHeartbeats 4000000 in
set_option maxRecDepth 100000 in
theorem c_X2_beside (l : Launch) (G : Gv) (g0 : Nat) (nr : Nat) (nc : Nat) (x : Int32) (d : Int32) (hg1 : 2 ≤ nr ∧ nr ≤ 8) (hg2 : 2 ≤ nc ∧ nc ≤ 8) : Rd l yX2_beside cX2_beside 3 (some .int) (rmz 3 68) G [.ref g0, .int x, .int d] [(g0, .inr (2, [.int (nI nr), .int (nI nc)]))] (.int (bsd nr nc x d)) := by
  refine Rd.ofW (by decide) (Nat.le_of_ble_eq_true rfl) ?_
  intro p e s m below meth c ls hx hb hml hr hown hts hlk hP hE hl
  have hl : lv_has ls 3 [(0, .ref g0), (1, .int x), (2, .int d)] := hl
  refine lv_iload_n hx hb dX2_beside_0 rfl (lv_at hl 2 rfl) ?_
  refine lv_if_lt (tgt := 9) hx hb dX2_beside_1 (by decide) (fun c1 => ?_) (fun c1 => ?_)
  · have c1 := inB_neg (n := 4) c1
    refine lv_iconst (v := -1) hx hb dX2_beside_9 (by decide) ?_
    exact rd_iret hx hb hr hlk dX2_beside_10 (by first | rfl | (simp [zb, c1, bsd]; done))
  · refine lv_iload_n hx hb dX2_beside_4 rfl (lv_at hl 2 rfl) ?_
    refine lv_iconst (v := 4) hx hb dX2_beside_5 (by decide) ?_
    refine lv_icmp_lt (tgt := 11) hx hb dX2_beside_6 (by decide) (fun c6 => ?_) (fun c6 => ?_)
    · have c6 := inB_yes (n := 4) (by decide) c1 (fun z => absurd c6 (Int32.not_lt.mpr z))
      refine lv_aload_n hx hb dX2_beside_11 rfl (lv_at hl 0 rfl) ?_
      refine lv_iload_n hx hb dX2_beside_12 rfl (lv_at hl 1 rfl) ?_
      refine va_getsN hx hb hE.2.2.2.1.1 va_S.rf hown (nf_X2_45 hE.2.1) (fun _ h9 => h9) dX2_beside_13 ?_
      refine lv_iload_n hx hb dX2_beside_16 rfl (lv_at hl 2 rfl) ?_
      refine va_ti hx hb hE.2.2.2.1.2 va_S.rf (inB_iff.mp c6) rfl dX2_beside_17 ?_
      refine va_getsN hx hb hE.2.2.2.2.1 va_S.rf hown (nf_X2_49 hE.2.1) (fun _ h9 => h9) dX2_beside_18 ?_
      refine lv_iload_n hx hb dX2_beside_21 rfl (lv_at hl 2 rfl) ?_
      refine va_ti hx hb hE.2.2.2.2.2 va_S.rf (inB_iff.mp c6) rfl dX2_beside_22 ?_
      refine rd_callV (As := [.int x, .int (dnBy d.toNatClampNeg), .int (rtBy d.toNatClampNeg)]) (rest := []) hx hb hml hown hts hE hl.1 (c_X2_shift l G g0 nr nc x (dnBy d.toNatClampNeg) (rtBy d.toNatClampNeg) (by first | assumption | omega) (by first | assumption | omega)) (cw_X2_37 hts) ⟨(Nat.le_of_ble_eq_true rfl), (Nat.le_of_ble_eq_true rfl)⟩ ⟨Nat.zero_le _, Nat.zero_le _⟩ rfl (sub_P hP [0] rfl) rfl rfl rfl rfl (Nat.le_of_ble_eq_true rfl) dX2_beside_23 ?_
      exact rd_iret hx hb hr hlk dX2_beside_26 (by first | rfl | (simp [zb, c1, c6, bsd]; done))
    · have c6 := inB_ge (n := 4) (by decide) (Int32.not_lt.mp c6)
      refine lv_iconst (v := -1) hx hb dX2_beside_9 (by decide) ?_
      exact rd_iret hx hb hr hlk dX2_beside_10 (by first | rfl | (simp [zb, c1, c6, bsd]; done))

set_option maxHeartbeats 4000000 in
set_option maxRecDepth 100000 in
theorem c_X2_apart (l : Launch) (G : Gv) (g0 : Nat) (nr : Nat) (nc : Nat) (x : Int32) (z : Int32) (hg2 : 2 ≤ nc ∧ nc ≤ 8) : Rd l yX2_apart cX2_apart 3 (some .int) (rmz 2 42) G [.ref g0, .int x, .int z] [(g0, .inr (2, [.int (nI nr), .int (nI nc)]))] (.int (apI nc x z)) := by
  refine Rd.ofW (by decide) (Nat.le_of_ble_eq_true rfl) ?_
  intro p e s m below meth c ls hx hb hml hr hown hts hlk hP hE hl
  have hl : lv_has ls 3 [(0, .ref g0), (1, .int x), (2, .int z)] := hl
  refine lv_aload_n hx hb dX2_apart_0 rfl (lv_at hl 0 rfl) ?_
  refine lv_iload_n hx hb dX2_apart_1 rfl (lv_at hl 1 rfl) ?_
  refine rd_callV (As := [.int x]) (rest := []) hx hb hml hown hts hE hl.1 (c_X2_rowOf l G g0 nr nc x (by first | assumption | omega)) (cw_X2_26 hts) ⟨(Nat.le_of_ble_eq_true rfl), (Nat.le_of_ble_eq_true rfl)⟩ ⟨Nat.zero_le _, Nat.zero_le _⟩ rfl (sub_P hP [0] rfl) rfl rfl rfl rfl (Nat.le_of_ble_eq_true rfl) dX2_apart_2 ?_
  refine lv_aload_n hx hb dX2_apart_5 rfl (lv_at hl 0 rfl) ?_
  refine lv_iload_n hx hb dX2_apart_6 rfl (lv_at hl 2 rfl) ?_
  refine rd_callV (As := [.int z]) (rest := [.int (rwI nc x)]) hx hb hml hown hts hE hl.1 (c_X2_rowOf l G g0 nr nc z (by first | assumption | omega)) (cw_X2_26 hts) ⟨(Nat.le_of_ble_eq_true rfl), (Nat.le_of_ble_eq_true rfl)⟩ ⟨Nat.zero_le _, Nat.zero_le _⟩ rfl (sub_P hP [0] rfl) rfl rfl rfl rfl (Nat.le_of_ble_eq_true rfl) dX2_apart_7 ?_
  refine lv_isub hx hb dX2_apart_10 ?_
  refine va_mabs hx hb (hml.trans hl.1.symm) hown (ml_X2_56 hts) (st_Lib_Math_abs_name hts) (in__java_lang_Math_ hts) (cd_Lib_abs_name hts) (Nat.le_of_ble_eq_true rfl) (Nat.le_of_ble_eq_true rfl) (Nat.zero_le _) (Nat.zero_le _) dX2_apart_11 ?_
  refine lv_aload_n hx hb dX2_apart_14 rfl (lv_at hl 0 rfl) ?_
  refine lv_iload_n hx hb dX2_apart_15 rfl (lv_at hl 1 rfl) ?_
  refine rd_callV (As := [.int x]) (rest := [.int (if 0 ≤ ((rwI nc x) - (rwI nc z)) then ((rwI nc x) - (rwI nc z)) else 0 - ((rwI nc x) - (rwI nc z)))]) hx hb hml hown hts hE hl.1 (c_X2_columnOf l G g0 nr nc x (by first | assumption | omega)) (cw_X2_30 hts) ⟨(Nat.le_of_ble_eq_true rfl), (Nat.le_of_ble_eq_true rfl)⟩ ⟨Nat.zero_le _, Nat.zero_le _⟩ rfl (sub_P hP [0] rfl) rfl rfl rfl rfl (Nat.le_of_ble_eq_true rfl) dX2_apart_16 ?_
  refine lv_aload_n hx hb dX2_apart_19 rfl (lv_at hl 0 rfl) ?_
  refine lv_iload_n hx hb dX2_apart_20 rfl (lv_at hl 2 rfl) ?_
  refine rd_callV (As := [.int z]) (rest := [.int (coI nc x), .int (if 0 ≤ ((rwI nc x) - (rwI nc z)) then ((rwI nc x) - (rwI nc z)) else 0 - ((rwI nc x) - (rwI nc z)))]) hx hb hml hown hts hE hl.1 (c_X2_columnOf l G g0 nr nc z (by first | assumption | omega)) (cw_X2_30 hts) ⟨(Nat.le_of_ble_eq_true rfl), (Nat.le_of_ble_eq_true rfl)⟩ ⟨Nat.zero_le _, Nat.zero_le _⟩ rfl (sub_P hP [0] rfl) rfl rfl rfl rfl (Nat.le_of_ble_eq_true rfl) dX2_apart_21 ?_
  refine lv_isub hx hb dX2_apart_24 ?_
  refine va_mabs hx hb (hml.trans hl.1.symm) hown (ml_X2_56 hts) (st_Lib_Math_abs_name hts) (in__java_lang_Math_ hts) (cd_Lib_abs_name hts) (Nat.le_of_ble_eq_true rfl) (Nat.le_of_ble_eq_true rfl) (Nat.zero_le _) (Nat.zero_le _) dX2_apart_25 ?_
  refine lv_iadd hx hb dX2_apart_28 ?_
  exact rd_iret hx hb hr hlk dX2_apart_29 (by first | rfl | (simp [zb]; done))

set_option maxHeartbeats 4000000 in
set_option maxRecDepth 100000 in
theorem c_X2_cellsBeside (l : Launch) (G : Gv) (g0 : Nat) (nr : Nat) (nc : Nat) (x : Int32) (hg1 : 2 ≤ nr ∧ nr ≤ 8) (hg2 : 2 ≤ nc ∧ nc ≤ 8) : Rd l yX2_cellsBeside cX2_cellsBeside 6 (some .long) (rmz 4 90) G [.ref g0, .int x] [(g0, .inr (2, [.int (nI nr), .int (nI nc)]))] (.long (bsA nr nc x 4)) := by
  refine Rd.ofW (by decide) (Nat.le_of_ble_eq_true rfl) ?_
  intro p e s m below meth c ls hx hb hml hr hown hts hlk hP hE hl
  have hl : lv_has ls 6 [(0, .ref g0), (1, .int x)] := hl
  have J_5 : ∀ (n_ : Nat) (k : Nat) (acc : Int64) (hk : k ≤ 4) (ha : acc = bsA nr nc x k) (hm_5 : 4 - k < n_), ∀ ls : Array Slot, lv_has ls 6 [(0, .ref g0), (1, .int x), (2, .long acc), (4, .int (nI k))] → WR p l e (rmz 4 90) s m [.ref g0, .int x] below meth c (.long (bsA nr nc x 4)) (F0 m 5 ls []) := by
    intro n_
    induction n_ with
    | zero =>
      intro k acc hk ha hm_5
      exact absurd hm_5 (Nat.not_lt_zero _)
    | succ n_ ih_5 =>
      intro k acc hk ha hm_5 ls hl
      refine lv_iload hx hb dX2_cellsBeside_5 (lv_at hl 3 rfl) ?_
      refine lv_iconst (v := 4) hx hb dX2_cellsBeside_7 (by decide) ?_
      refine lv_icmp_ge (tgt := 44) hx hb dX2_cellsBeside_8 (by decide) (fun c8 => ?_) (fun c8 => ?_)
      · have hkn : 4 ≤ k := le_of_le (n := 4) (by omega) (by omega) c8
        refine lv_lload_n hx hb dX2_cellsBeside_44 rfl (lv_at hl 2 rfl) ?_
        exact rd_lret hx hb hr hlk dX2_cellsBeside_45 (by rw [ha, show k = 4 by omega])
      · have hkn : k < 4 := lt_of_nle (n := 4) (by omega) (by omega) c8
        refine lv_aload_n hx hb dX2_cellsBeside_11 rfl (lv_at hl 0 rfl) ?_
        refine lv_iload_n hx hb dX2_cellsBeside_12 rfl (lv_at hl 1 rfl) ?_
        refine lv_iload hx hb dX2_cellsBeside_13 (lv_at hl 3 rfl) ?_
        refine rd_callV (As := [.int x, .int (nI k)]) (rest := []) hx hb hml hown hts hE hl.1 (c_X2_beside l G g0 nr nc x (nI k) (by first | assumption | omega) (by first | assumption | omega)) (cw_X2_52 hts) ⟨(Nat.le_of_ble_eq_true rfl), (Nat.le_of_ble_eq_true rfl)⟩ ⟨Nat.zero_le _, Nat.zero_le _⟩ rfl (sub_P hP [0] rfl) rfl rfl rfl rfl (Nat.le_of_ble_eq_true rfl) dX2_cellsBeside_15 ?_
        refine lv_istore (lv' := [(5, .int (bsd nr nc x (nI k))), (0, .ref g0), (1, .int x), (2, .long acc), (4, .int (nI k))]) hx hb dX2_cellsBeside_18 hl (by decide) rfl (fun ls hl => ?_)
        refine lv_lload_n hx hb dX2_cellsBeside_20 rfl (lv_at hl 3 rfl) ?_
        refine lv_iload hx hb dX2_cellsBeside_21 (lv_at hl 0 rfl) ?_
        refine lv_iconst (v := -1) hx hb dX2_cellsBeside_23 (by decide) ?_
        refine lv_icmp_ne (tgt := 31) hx hb dX2_cellsBeside_24 (by decide) (fun c24 => ?_) (fun c24 => ?_)
        · refine lv_iload hx hb dX2_cellsBeside_31 (lv_at hl 0 rfl) ?_
          refine rd_callN (As := [.int (bsd nr nc x (nI k))]) (rest := [.long acc]) hx hb hml hown hts hE hl.1 (c_X9_bitOf l G (bsd nr nc x (nI k)) ) (cz_X2_41 hts) ⟨(Nat.le_of_ble_eq_true rfl), (Nat.le_of_ble_eq_true rfl)⟩ ⟨Nat.zero_le _, Nat.zero_le _⟩ rfl (sub_P hP [] rfl) rfl (Nat.le_of_ble_eq_true rfl) dX2_cellsBeside_33 ?_
          refine lv_lor hx hb dX2_cellsBeside_36 ?_
          refine lv_lstore_n (lv' := [(2, .long (acc ||| (bt (bsd nr nc x (nI k))))), (5, .int (bsd nr nc x (nI k))), (0, .ref g0), (1, .int x), (4, .int (nI k))]) hx hb dX2_cellsBeside_37 rfl hl (by decide) rfl (fun ls hl => ?_)
          refine lv_iinc (v := nI (k + 1)) (lv' := [(4, .int (nI (k + 1))), (2, .long (acc ||| (bt (bsd nr nc x (nI k))))), (5, .int (bsd nr nc x (nI k))), (0, .ref g0), (1, .int x)]) hx hb dX2_cellsBeside_38 hl (k := 4) rfl (nI_1 k) (by decide) rfl (fun ls hl => ?_)
          refine lv_goto (tgt := 5) hx hb dX2_cellsBeside_41 (by decide) ?_
          have ha0 := ha
          rw [bsA] at ha0
          exact ih_5 (k + 1) (acc ||| (bt (bsd nr nc x (nI k)))) (by first | assumption | omega | rfl) (by rw [bsA, it_s]; simp only [← ha0, c24]; rfl) (by omega) ls (lv_sub hl [3, 4, 1, 0] rfl)
        · refine lv_lconst (v := 0) hx hb dX2_cellsBeside_27 (by decide) ?_
          refine lv_goto (tgt := 36) hx hb dX2_cellsBeside_28 (by decide) ?_
          refine lv_lor hx hb dX2_cellsBeside_36 ?_
          refine lv_lstore_n (lv' := [(2, .long (acc ||| 0)), (5, .int (bsd nr nc x (nI k))), (0, .ref g0), (1, .int x), (4, .int (nI k))]) hx hb dX2_cellsBeside_37 rfl hl (by decide) rfl (fun ls hl => ?_)
          refine lv_iinc (v := nI (k + 1)) (lv' := [(4, .int (nI (k + 1))), (2, .long (acc ||| 0)), (5, .int (bsd nr nc x (nI k))), (0, .ref g0), (1, .int x)]) hx hb dX2_cellsBeside_38 hl (k := 4) rfl (nI_1 k) (by decide) rfl (fun ls hl => ?_)
          refine lv_goto (tgt := 5) hx hb dX2_cellsBeside_41 (by decide) ?_
          have ha0 := ha
          rw [bsA] at ha0
          exact ih_5 (k + 1) (acc ||| 0) (by first | assumption | omega | rfl) (by rw [bsA, it_s]; simp only [← ha0, c24]; rfl) (by omega) ls (lv_sub hl [3, 4, 1, 0] rfl)
  refine lv_lconst (v := 0) hx hb dX2_cellsBeside_0 (by decide) ?_
  refine lv_lstore_n (lv' := [(2, .long 0), (0, .ref g0), (1, .int x)]) hx hb dX2_cellsBeside_1 rfl hl (by decide) rfl (fun ls hl => ?_)
  refine lv_iconst (v := 0) hx hb dX2_cellsBeside_2 (by decide) ?_
  refine lv_istore (lv' := [(4, .int 0), (2, .long 0), (0, .ref g0), (1, .int x)]) hx hb dX2_cellsBeside_3 hl (by decide) rfl (fun ls hl => ?_)
  exact J_5 (4 - 0 + 1) 0 0 (by first | assumption | omega | rfl) rfl (Nat.lt_succ_self _) ls (lv_sub hl [2, 3, 1, 0] rfl)

set_option maxHeartbeats 4000000 in
set_option maxRecDepth 100000 in
theorem c_X2_shiftAll (l : Launch) (G : Gv) (g0 : Nat) (nr : Nat) (nc : Nat) (w : Int64) (dn : Int32) (rt : Int32) (hg1 : 2 ≤ nr ∧ nr ≤ 8) (hg2 : 2 ≤ nc ∧ nc ≤ 8) : Rd l yX2_shiftAll cX2_shiftAll 9 (some .long) (rmz 3 68) G [.ref g0, .long w, .int dn, .int rt] [(g0, .inr (2, [.int (nI nr), .int (nI nc)]))] (.long (shA nr nc w dn rt (nr * nc))) := by
  refine Rd.ofW (by decide) (Nat.le_of_ble_eq_true rfl) ?_
  intro p e s m below meth c ls hx hb hml hr hown hts hlk hP hE hl
  have hl : lv_has ls 9 [(0, .ref g0), (1, .long w), (3, .int dn), (4, .int rt)] := hl
  have hcl := cells_le hg1 hg2
  have J_6 : ∀ (n_ : Nat) (k : Nat) (acc : Int64) (hk : k ≤ nr * nc) (ha : acc = shA nr nc w dn rt k) (hm_6 : nr * nc - k < n_), ∀ ls : Array Slot, lv_has ls 9 [(0, .ref g0), (1, .long w), (3, .int dn), (4, .int rt), (5, .long acc), (7, .int (nI k))] → WR p l e (rmz 3 68) s m [.ref g0, .long w, .int dn, .int rt] below meth c (.long (shA nr nc w dn rt (nr * nc))) (F0 m 6 ls []) := by
    intro n_
    induction n_ with
    | zero =>
      intro k acc hk ha hm_6
      exact absurd hm_6 (Nat.not_lt_zero _)
    | succ n_ ih_6 =>
      intro k acc hk ha hm_6 ls hl
      refine lv_iload hx hb dX2_shiftAll_6 (lv_at hl 5 rfl) ?_
      refine lv_aload_n hx hb dX2_shiftAll_8 rfl (lv_at hl 0 rfl) ?_
      refine rd_callV (As := []) (rest := [.int (nI k)]) hx hb hml hown hts hE hl.1 (c_X2_cells l G g0 nr nc ) (cw_X2_22 hts) ⟨(Nat.le_of_ble_eq_true rfl), (Nat.le_of_ble_eq_true rfl)⟩ ⟨Nat.zero_le _, Nat.zero_le _⟩ rfl (sub_P hP [0] rfl) rfl rfl rfl rfl (Nat.le_of_ble_eq_true rfl) dX2_shiftAll_9 ?_
      refine lv_icmp_ge (tgt := 61) hx hb dX2_shiftAll_12 (by decide) (fun c12 => ?_) (fun c12 => ?_)
      · have hkn : nr * nc ≤ k := le_of_le (by omega) (by omega) c12
        refine lv_lload hx hb dX2_shiftAll_61 (lv_at hl 4 rfl) ?_
        exact rd_lret hx hb hr hlk dX2_shiftAll_63 (by rw [ha, show k = nr * nc by omega])
      · have hkn : k < nr * nc := lt_of_nle (by omega) (by omega) c12
        refine lv_lload_n hx hb dX2_shiftAll_15 rfl (lv_at hl 1 rfl) ?_
        refine lv_iload hx hb dX2_shiftAll_16 (lv_at hl 5 rfl) ?_
        refine rd_callN (As := [.long w, .int (nI k)]) (rest := []) hx hb hml hown hts hE hl.1 (c_X9_holds l G w (nI k) ) (cz_X2_33 hts) ⟨(Nat.le_of_ble_eq_true rfl), (Nat.le_of_ble_eq_true rfl)⟩ ⟨Nat.zero_le _, Nat.zero_le _⟩ rfl (sub_P hP [] rfl) rfl (Nat.le_of_ble_eq_true rfl) dX2_shiftAll_18 ?_
        refine lv_if_eq (tgt := 55) hx hb dX2_shiftAll_21 (by decide) (fun c21 => ?_) (fun c21 => ?_)
        · have c21 := zb_0.mp c21
          refine lv_iinc (v := nI (k + 1)) (lv' := [(7, .int (nI (k + 1))), (0, .ref g0), (1, .long w), (3, .int dn), (4, .int rt), (5, .long acc)]) hx hb dX2_shiftAll_55 hl (k := 5) rfl (nI_1 k) (by decide) rfl (fun ls hl => ?_)
          refine lv_goto (tgt := 6) hx hb dX2_shiftAll_58 (by decide) ?_
          have ha0 := ha
          rw [shA] at ha0
          exact ih_6 (k + 1) acc (by first | assumption | omega | rfl) (by rw [shA, it_s]; simp only [← ha0, c12, c21]; rfl) (by omega) ls (lv_sub hl [1, 2, 3, 4, 5, 0] rfl)
        · have c21 := zb_n0.mp c21
          refine lv_aload_n hx hb dX2_shiftAll_24 rfl (lv_at hl 0 rfl) ?_
          refine lv_iload hx hb dX2_shiftAll_25 (lv_at hl 5 rfl) ?_
          refine lv_iload_n hx hb dX2_shiftAll_27 rfl (lv_at hl 2 rfl) ?_
          refine lv_iload hx hb dX2_shiftAll_28 (lv_at hl 3 rfl) ?_
          refine rd_callV (As := [.int (nI k), .int dn, .int rt]) (rest := []) hx hb hml hown hts hE hl.1 (c_X2_shift l G g0 nr nc (nI k) dn rt (by first | assumption | omega) (by first | assumption | omega)) (cw_X2_37 hts) ⟨(Nat.le_of_ble_eq_true rfl), (Nat.le_of_ble_eq_true rfl)⟩ ⟨Nat.zero_le _, Nat.zero_le _⟩ rfl (sub_P hP [0] rfl) rfl rfl rfl rfl (Nat.le_of_ble_eq_true rfl) dX2_shiftAll_30 ?_
          refine lv_istore (lv' := [(8, .int (shf nr nc (nI k) dn rt)), (0, .ref g0), (1, .long w), (3, .int dn), (4, .int rt), (5, .long acc), (7, .int (nI k))]) hx hb dX2_shiftAll_33 hl (by decide) rfl (fun ls hl => ?_)
          refine lv_lload hx hb dX2_shiftAll_35 (lv_at hl 5 rfl) ?_
          refine lv_iload hx hb dX2_shiftAll_37 (lv_at hl 0 rfl) ?_
          refine lv_iconst (v := -1) hx hb dX2_shiftAll_39 (by decide) ?_
          refine lv_icmp_ne (tgt := 47) hx hb dX2_shiftAll_40 (by decide) (fun c40 => ?_) (fun c40 => ?_)
          · refine lv_iload hx hb dX2_shiftAll_47 (lv_at hl 0 rfl) ?_
            refine rd_callN (As := [.int (shf nr nc (nI k) dn rt)]) (rest := [.long acc]) hx hb hml hown hts hE hl.1 (c_X9_bitOf l G (shf nr nc (nI k) dn rt) ) (cz_X2_41 hts) ⟨(Nat.le_of_ble_eq_true rfl), (Nat.le_of_ble_eq_true rfl)⟩ ⟨Nat.zero_le _, Nat.zero_le _⟩ rfl (sub_P hP [] rfl) rfl (Nat.le_of_ble_eq_true rfl) dX2_shiftAll_49 ?_
            refine lv_lor hx hb dX2_shiftAll_52 ?_
            refine lv_lstore (lv' := [(5, .long (acc ||| (bt (shf nr nc (nI k) dn rt)))), (8, .int (shf nr nc (nI k) dn rt)), (0, .ref g0), (1, .long w), (3, .int dn), (4, .int rt), (7, .int (nI k))]) hx hb dX2_shiftAll_53 hl (by decide) rfl (fun ls hl => ?_)
            refine lv_iinc (v := nI (k + 1)) (lv' := [(7, .int (nI (k + 1))), (5, .long (acc ||| (bt (shf nr nc (nI k) dn rt)))), (8, .int (shf nr nc (nI k) dn rt)), (0, .ref g0), (1, .long w), (3, .int dn), (4, .int rt)]) hx hb dX2_shiftAll_55 hl (k := 6) rfl (nI_1 k) (by decide) rfl (fun ls hl => ?_)
            refine lv_goto (tgt := 6) hx hb dX2_shiftAll_58 (by decide) ?_
            have ha0 := ha
            rw [shA] at ha0
            exact ih_6 (k + 1) (acc ||| (bt (shf nr nc (nI k) dn rt))) (by first | assumption | omega | rfl) (by rw [shA, it_s]; simp only [← ha0, c12, c21, c40]; rfl) (by omega) ls (lv_sub hl [3, 4, 5, 6, 1, 0] rfl)
          · refine lv_lconst (v := 0) hx hb dX2_shiftAll_43 (by decide) ?_
            refine lv_goto (tgt := 52) hx hb dX2_shiftAll_44 (by decide) ?_
            refine lv_lor hx hb dX2_shiftAll_52 ?_
            refine lv_lstore (lv' := [(5, .long (acc ||| 0)), (8, .int (shf nr nc (nI k) dn rt)), (0, .ref g0), (1, .long w), (3, .int dn), (4, .int rt), (7, .int (nI k))]) hx hb dX2_shiftAll_53 hl (by decide) rfl (fun ls hl => ?_)
            refine lv_iinc (v := nI (k + 1)) (lv' := [(7, .int (nI (k + 1))), (5, .long (acc ||| 0)), (8, .int (shf nr nc (nI k) dn rt)), (0, .ref g0), (1, .long w), (3, .int dn), (4, .int rt)]) hx hb dX2_shiftAll_55 hl (k := 6) rfl (nI_1 k) (by decide) rfl (fun ls hl => ?_)
            refine lv_goto (tgt := 6) hx hb dX2_shiftAll_58 (by decide) ?_
            have ha0 := ha
            rw [shA] at ha0
            exact ih_6 (k + 1) (acc ||| 0) (by first | assumption | omega | rfl) (by rw [shA, it_s]; simp only [← ha0, c12, c21, c40]; rfl) (by omega) ls (lv_sub hl [3, 4, 5, 6, 1, 0] rfl)
  refine lv_lconst (v := 0) hx hb dX2_shiftAll_0 (by decide) ?_
  refine lv_lstore (lv' := [(5, .long 0), (0, .ref g0), (1, .long w), (3, .int dn), (4, .int rt)]) hx hb dX2_shiftAll_1 hl (by decide) rfl (fun ls hl => ?_)
  refine lv_iconst (v := 0) hx hb dX2_shiftAll_3 (by decide) ?_
  refine lv_istore (lv' := [(7, .int 0), (5, .long 0), (0, .ref g0), (1, .long w), (3, .int dn), (4, .int rt)]) hx hb dX2_shiftAll_4 hl (by decide) rfl (fun ls hl => ?_)
  exact J_6 (nr * nc - 0 + 1) 0 0 (by first | assumption | omega | rfl) rfl (Nat.lt_succ_self _) ls (lv_sub hl [2, 3, 4, 5, 1, 0] rfl)

set_option maxHeartbeats 4000000 in
set_option maxRecDepth 100000 in
theorem c_X2_resize (l : Launch) (G : Gv) (g0 : Nat) (nr : Nat) (nc : Nat) (r2 : Nat) (c2 : Nat) (hs1 : isS (nI r2) = true) (hs2 : isS (nI c2) = true) : Ct l yX2_resize cX2_resize 3 (some .boolean) (rmz 1 20) G [.ref g0, .int (nI r2), .int (nI c2)] [(g0, .inr (2, [.int (nI nr), .int (nI nc)]))] (one (some (.int 1)) [(g0, .inr (2, [.int (nI r2), .int (nI c2)]))]) := by
  refine Ct.ofW (by decide) (Nat.le_of_ble_eq_true rfl) ?_
  intro p e s m below meth c ls A hx hb hml hr hown hts hlk hnm hP hD hA hE hS hl
  obtain ⟨H, eH⟩ : ∃ H : Heap, H = s.heap := ⟨_, rfl⟩
  obtain ⟨locs, eL⟩ : ∃ ll : List Loc, ll = [] := ⟨_, rfl⟩
  rw [← eH] at hP
  have hS : va_S A s.heap H locs := by rw [eH, eL]; exact hS
  show WC p l e _ s m _ below meth c G A _ s.heap [] 0 0 _
  rw [← eH, ← eL]
  clear eH eL
  have hl : lv_has ls 3 [(0, .ref g0), (1, .int (nI r2)), (2, .int (nI c2))] := hl
  refine lv_iload_n hx hb dX2_resize_0 rfl (lv_at hl 1 rfl) ?_
  refine rd_callS (As := [.int (nI r2)]) (rest := []) hx hb hml hown hts (hE.at0 hS) hl.1 (c_X2_isSide l G (nI r2) ) (cs_X2_18 hts) ⟨(Nat.le_of_ble_eq_true rfl), (Nat.le_of_ble_eq_true rfl)⟩ ⟨Nat.zero_le _, Nat.zero_le _⟩ rfl (sub_P hP [] rfl) rfl (Nat.le_of_ble_eq_true rfl) dX2_resize_1 ?_
  refine lv_if_eq (tgt := 14) hx hb dX2_resize_4 (by decide) (fun c4 => ?_) (fun c4 => ?_)
  · have c4 := zb_0.mp c4
    exact absurd (c4.symm.trans hs1) (by decide)
  · have c4 := zb_n0.mp c4
    refine lv_iload_n hx hb dX2_resize_7 rfl (lv_at hl 2 rfl) ?_
    refine rd_callS (As := [.int (nI c2)]) (rest := []) hx hb hml hown hts (hE.at0 hS) hl.1 (c_X2_isSide l G (nI c2) ) (cs_X2_18 hts) ⟨(Nat.le_of_ble_eq_true rfl), (Nat.le_of_ble_eq_true rfl)⟩ ⟨Nat.zero_le _, Nat.zero_le _⟩ rfl (sub_P hP [] rfl) rfl (Nat.le_of_ble_eq_true rfl) dX2_resize_8 ?_
    refine lv_if_ne (tgt := 16) hx hb dX2_resize_11 (by decide) (fun c11 => ?_) (fun c11 => ?_)
    · have c11 := zb_n0.mp c11
      refine lv_aload_n hx hb dX2_resize_16 rfl (lv_at hl 0 rfl) ?_
      refine lv_iload_n hx hb dX2_resize_17 rfl (lv_at hl 1 rfl) ?_
      refine va_put (v := .int (nI r2)) (ty := .int) hx hb hts inlX2 tyX2 tyX2_ok nmX2 hown hE.1 hP hD hS 0 rfl rfl 0 (by decide) (fl_X2_9 hts) (fun _ h9 => h9) rfl (by decide +kernel) rfl rfl (Nat.le_of_ble_eq_true rfl) dX2_resize_18 (fun H locs hP hD hS => ?_)
      have hP : va_P G.1 vwCl [(g0, .inr (2, [.int (nI r2), .int (nI nc)]))] H := hP
      have hD : va_D A [(g0, .inr (2, [.int (nI r2), .int (nI nc)]))] := hD
      refine lv_aload_n hx hb dX2_resize_21 rfl (lv_at hl 0 rfl) ?_
      refine lv_iload_n hx hb dX2_resize_22 rfl (lv_at hl 2 rfl) ?_
      refine va_put (v := .int (nI c2)) (ty := .int) hx hb hts inlX2 tyX2 tyX2_ok nmX2 hown hE.1 hP hD hS 0 rfl rfl 1 (by decide) (fl_X2_15 hts) (fun _ h9 => h9) rfl (by decide +kernel) rfl rfl (Nat.le_of_ble_eq_true rfl) dX2_resize_23 (fun H locs hP hD hS => ?_)
      have hP : va_P G.1 vwCl [(g0, .inr (2, [.int (nI r2), .int (nI c2)]))] H := hP
      have hD : va_D A [(g0, .inr (2, [.int (nI r2), .int (nI c2)]))] := hD
      refine lv_iconst (v := 1) hx hb dX2_resize_26 (by decide) ?_
      exact ct_zret hx hb hr hlk dX2_resize_27 rfl hP hD hS (by first | exact ⟨rfl, rfl⟩ | (simp [one, c4, c11]; done))
    · have c11 := zb_0.mp c11
      exact absurd (c11.symm.trans hs2) (by decide)

set_option maxHeartbeats 4000000 in
set_option maxRecDepth 100000 in
theorem c_X2_resize_no (l : Launch) (G : Gv) (g0 : Nat) (nr : Nat) (nc : Nat) (r2 : Int32) (c2 : Int32) (hs1 : (isS r2 && isS c2) = false) : Ct l yX2_resize cX2_resize 3 (some .boolean) (rmz 1 20) G [.ref g0, .int r2, .int c2] [(g0, .inr (2, [.int (nI nr), .int (nI nc)]))] (one (some (.int 0)) [(g0, .inr (2, [.int (nI nr), .int (nI nc)]))]) := by
  refine Ct.ofW (by decide) (Nat.le_of_ble_eq_true rfl) ?_
  intro p e s m below meth c ls A hx hb hml hr hown hts hlk hnm hP hD hA hE hS hl
  obtain ⟨H, eH⟩ : ∃ H : Heap, H = s.heap := ⟨_, rfl⟩
  obtain ⟨locs, eL⟩ : ∃ ll : List Loc, ll = [] := ⟨_, rfl⟩
  rw [← eH] at hP
  have hS : va_S A s.heap H locs := by rw [eH, eL]; exact hS
  show WC p l e _ s m _ below meth c G A _ s.heap [] 0 0 _
  rw [← eH, ← eL]
  clear eH eL
  have hl : lv_has ls 3 [(0, .ref g0), (1, .int r2), (2, .int c2)] := hl
  refine lv_iload_n hx hb dX2_resize_0 rfl (lv_at hl 1 rfl) ?_
  refine rd_callS (As := [.int r2]) (rest := []) hx hb hml hown hts (hE.at0 hS) hl.1 (c_X2_isSide l G r2 ) (cs_X2_18 hts) ⟨(Nat.le_of_ble_eq_true rfl), (Nat.le_of_ble_eq_true rfl)⟩ ⟨Nat.zero_le _, Nat.zero_le _⟩ rfl (sub_P hP [] rfl) rfl (Nat.le_of_ble_eq_true rfl) dX2_resize_1 ?_
  refine lv_if_eq (tgt := 14) hx hb dX2_resize_4 (by decide) (fun c4 => ?_) (fun c4 => ?_)
  · have c4 := zb_0.mp c4
    refine lv_iconst (v := 0) hx hb dX2_resize_14 (by decide) ?_
    exact ct_zret hx hb hr hlk dX2_resize_15 rfl hP hD hS (by first | exact ⟨rfl, rfl⟩ | (simp [one, c4]; done))
  · have c4 := zb_n0.mp c4
    refine lv_iload_n hx hb dX2_resize_7 rfl (lv_at hl 2 rfl) ?_
    refine rd_callS (As := [.int c2]) (rest := []) hx hb hml hown hts (hE.at0 hS) hl.1 (c_X2_isSide l G c2 ) (cs_X2_18 hts) ⟨(Nat.le_of_ble_eq_true rfl), (Nat.le_of_ble_eq_true rfl)⟩ ⟨Nat.zero_le _, Nat.zero_le _⟩ rfl (sub_P hP [] rfl) rfl (Nat.le_of_ble_eq_true rfl) dX2_resize_8 ?_
    refine lv_if_ne (tgt := 16) hx hb dX2_resize_11 (by decide) (fun c11 => ?_) (fun c11 => ?_)
    · have c11 := zb_n0.mp c11
      exact absurd hs1 (by rw [c4, c11]; decide)
    · have c11 := zb_0.mp c11
      refine lv_iconst (v := 0) hx hb dX2_resize_14 (by decide) ?_
      exact ct_zret hx hb hr hlk dX2_resize_15 rfl hP hD hS (by first | exact ⟨rfl, rfl⟩ | (simp [one, c4, c11]; done))

set_option maxHeartbeats 4000000 in
set_option maxRecDepth 100000 in
theorem c_X3_length (l : Launch) (G : Gv) (t0 : Nat) (t1 : Nat) (Sg : Nat → Int32) (tn : Nat)  : Rd l yX3_length cX3_length 1 (some .int) (rmz 0 0) G [.ref t0] [(t0, .inr (3, [.ref t1, .int (nI tn)])), (t1, .inl (kC G, 200, .inl Sg))] (.int (nI tn)) := by
  refine Rd.ofW (by decide) (Nat.le_of_ble_eq_true rfl) ?_
  intro p e s m below meth c ls hx hb hml hr hown hts hlk hP hE hl
  have hl : lv_has ls 1 [(0, .ref t0)] := hl
  refine lv_aload_n hx hb dX3_length_0 rfl (lv_at hl 0 rfl) ?_
  refine va_get hx hb hts inlX3 hown hE.1 hP 0 rfl rfl 1 (by decide) (fl_X3_15 hts) (fun _ h9 => h9) rfl dX3_length_1 ?_
  exact rd_iret hx hb hr hlk dX3_length_4 (by first | rfl | (simp [zb]; done))

set_option maxHeartbeats 4000000 in
set_option maxRecDepth 100000 in
theorem c_X3_clear (l : Launch) (G : Gv) (t0 : Nat) (t1 : Nat) (Sg : Nat → Int32) (tn : Nat)  : Ct l yX3_clear cX3_clear 1 none (rmz 0 0) G [.ref t0] [(t0, .inr (3, [.ref t1, .int (nI tn)])), (t1, .inl (kC G, 200, .inl Sg))] (one none [(t0, .inr (3, [.ref t1, .int 0])), (t1, .inl (kC G, 200, .inl Sg))]) := by
  refine Ct.ofW (by decide) (Nat.le_of_ble_eq_true rfl) ?_
  intro p e s m below meth c ls A hx hb hml hr hown hts hlk hnm hP hD hA hE hS hl
  obtain ⟨H, eH⟩ : ∃ H : Heap, H = s.heap := ⟨_, rfl⟩
  obtain ⟨locs, eL⟩ : ∃ ll : List Loc, ll = [] := ⟨_, rfl⟩
  rw [← eH] at hP
  have hS : va_S A s.heap H locs := by rw [eH, eL]; exact hS
  show WC p l e _ s m _ below meth c G A _ s.heap [] 0 0 _
  rw [← eH, ← eL]
  clear eH eL
  have hl : lv_has ls 1 [(0, .ref t0)] := hl
  refine lv_aload_n hx hb dX3_clear_0 rfl (lv_at hl 0 rfl) ?_
  refine lv_iconst (v := 0) hx hb dX3_clear_1 (by decide) ?_
  refine va_put (v := .int 0) (ty := .int) hx hb hts inlX3 tyX3 tyX3_ok nmX3 hown hE.1 hP hD hS 0 rfl rfl 1 (by decide) (fl_X3_15 hts) (fun _ h9 => h9) rfl (by decide +kernel) rfl rfl (Nat.le_of_ble_eq_true rfl) dX3_clear_2 (fun H locs hP hD hS => ?_)
  have hP : va_P G.1 vwCl [(t0, .inr (3, [.ref t1, .int 0])), (t1, .inl (kC G, 200, .inl Sg))] H := hP
  have hD : va_D A [(t0, .inr (3, [.ref t1, .int 0])), (t1, .inl (kC G, 200, .inl Sg))] := hD
  exact ct_vret hx hb hr hlk dX3_clear_5 hP hD hS (by first | exact ⟨rfl, rfl⟩ | (simp [one]; done))

set_option maxHeartbeats 4000000 in
set_option maxRecDepth 100000 in
theorem c_X3_signAt (l : Launch) (G : Gv) (t0 : Nat) (t1 : Nat) (Sg : Nat → Int32) (tn : Nat) (x : Int32) (ht : tn ≤ 200) (hc : ∀ j, narrow .char (.int (Sg j)) = .int (Sg j)) : Rd l yX3_signAt cX3_signAt 2 (some .char) (rmz 0 0) G [.ref t0, .int x] [(t0, .inr (3, [.ref t1, .int (nI tn)])), (t1, .inl (kC G, 200, .inl Sg))] (.int (sgI Sg tn x)) := by
  refine Rd.ofW (by decide) (Nat.le_of_ble_eq_true rfl) ?_
  intro p e s m below meth c ls hx hb hml hr hown hts hlk hP hE hl
  have hl : lv_has ls 2 [(0, .ref t0), (1, .int x)] := hl
  refine lv_iload_n hx hb dX3_signAt_0 rfl (lv_at hl 1 rfl) ?_
  refine lv_if_lt (tgt := 21) hx hb dX3_signAt_1 (by decide) (fun c1 => ?_) (fun c1 => ?_)
  · have c1 := inB_neg (n := tn) c1
    refine lv_iconst (v := 0) hx hb dX3_signAt_21 (by decide) ?_
    exact rd_zret hx hb hr hlk dX3_signAt_22 rfl (by first | rfl | (simp [zb, c1, sgI]; done))
  · refine lv_iload_n hx hb dX3_signAt_4 rfl (lv_at hl 1 rfl) ?_
    refine lv_aload_n hx hb dX3_signAt_5 rfl (lv_at hl 0 rfl) ?_
    refine va_get hx hb hts inlX3 hown hE.1 hP 0 rfl rfl 1 (by decide) (fl_X3_15 hts) (fun _ h9 => h9) rfl dX3_signAt_6 ?_
    refine lv_icmp_ge (tgt := 21) hx hb dX3_signAt_9 (by decide) (fun c9 => ?_) (fun c9 => ?_)
    · have c9 := inB_ge (n := tn) (by omega) c9
      refine lv_iconst (v := 0) hx hb dX3_signAt_21 (by decide) ?_
      exact rd_zret hx hb hr hlk dX3_signAt_22 rfl (by first | rfl | (simp [zb, c1, c9, sgI]; done))
    · have c9 := inB_yes (n := tn) (by omega) c1 c9
      refine lv_aload_n hx hb dX3_signAt_12 rfl (lv_at hl 0 rfl) ?_
      refine va_get hx hb hts inlX3 hown hE.1 hP 0 rfl rfl 0 (by decide) (fl_X3_9 hts) (fun _ h9 => h9) rfl dX3_signAt_13 ?_
      refine lv_iload_n hx hb dX3_signAt_16 rfl (lv_at hl 1 rfl) ?_
      refine va_cald hx hb hE.1 hP 1 1 rfl rfl (inB_in c9 (by omega)) dX3_signAt_17 ?_
      refine lv_goto (tgt := 22) hx hb dX3_signAt_18 (by decide) ?_
      exact rd_zret hx hb hr hlk dX3_signAt_22 (hc _) (by first | rfl | (simp [zb, c1, c9, sgI]; done))

set_option maxHeartbeats 4000000 in
set_option maxRecDepth 100000 in
theorem c_X3_isFigureAt (l : Launch) (G : Gv) (t0 : Nat) (t1 : Nat) (Sg : Nat → Int32) (tn : Nat) (x : Int32) (ht : tn ≤ 200) (hc : ∀ j, narrow .char (.int (Sg j)) = .int (Sg j)) : Rd l yX3_isFigureAt cX3_isFigureAt 3 (some .boolean) (rmz 1 21) G [.ref t0, .int x] [(t0, .inr (3, [.ref t1, .int (nI tn)])), (t1, .inl (kC G, 200, .inl Sg))] (.int (zb (fgI Sg tn x))) := by
  refine Rd.ofW (by decide) (Nat.le_of_ble_eq_true rfl) ?_
  intro p e s m below meth c ls hx hb hml hr hown hts hlk hP hE hl
  have hl : lv_has ls 3 [(0, .ref t0), (1, .int x)] := hl
  refine lv_aload_n hx hb dX3_isFigureAt_0 rfl (lv_at hl 0 rfl) ?_
  refine lv_iload_n hx hb dX3_isFigureAt_1 rfl (lv_at hl 1 rfl) ?_
  refine rd_callV (As := [.int x]) (rest := []) hx hb hml hown hts hE hl.1 (c_X3_signAt l G t0 t1 Sg tn x (by first | assumption | omega) (by first | assumption | omega)) (cw_X3_19 hts) ⟨(Nat.le_of_ble_eq_true rfl), (Nat.le_of_ble_eq_true rfl)⟩ ⟨Nat.zero_le _, Nat.zero_le _⟩ rfl (sub_P hP [0, 1] rfl) rfl rfl rfl rfl (Nat.le_of_ble_eq_true rfl) dX3_isFigureAt_2 ?_
  refine lv_istore_n (lv' := [(2, .int (sgI Sg tn x)), (0, .ref t0), (1, .int x)]) hx hb dX3_isFigureAt_5 rfl hl (by decide) rfl (fun ls hl => ?_)
  refine lv_iload_n hx hb dX3_isFigureAt_6 rfl (lv_at hl 0 rfl) ?_
  refine lv_bipush (v := 48) hx hb dX3_isFigureAt_7 (by decide) ?_
  refine lv_icmp_lt (tgt := 22) hx hb dX3_isFigureAt_9 (by decide) (fun c9 => ?_) (fun c9 => ?_)
  · refine lv_iconst (v := 0) hx hb dX3_isFigureAt_22 (by decide) ?_
    exact rd_zret hx hb hr hlk dX3_isFigureAt_23 rfl (by first | rfl | (simp [zb, c9, fgI]; done))
  · refine lv_iload_n hx hb dX3_isFigureAt_12 rfl (lv_at hl 0 rfl) ?_
    refine lv_bipush (v := 57) hx hb dX3_isFigureAt_13 (by decide) ?_
    refine lv_icmp_gt (tgt := 22) hx hb dX3_isFigureAt_15 (by decide) (fun c15 => ?_) (fun c15 => ?_)
    · refine lv_iconst (v := 0) hx hb dX3_isFigureAt_22 (by decide) ?_
      exact rd_zret hx hb hr hlk dX3_isFigureAt_23 rfl (by first | rfl | (simp [zb, c9, c15, fgI]; done))
    · refine lv_iconst (v := 1) hx hb dX3_isFigureAt_18 (by decide) ?_
      refine lv_goto (tgt := 23) hx hb dX3_isFigureAt_19 (by decide) ?_
      exact rd_zret hx hb hr hlk dX3_isFigureAt_23 rfl (by first | rfl | (simp [zb, c9, c15, fgI]; done))

set_option maxHeartbeats 4000000 in
set_option maxRecDepth 100000 in
theorem c_X3_append (l : Launch) (G : Gv) (t0 : Nat) (t1 : Nat) (Sg : Nat → Int32) (tn : Nat) (x : Int32) (ht2 : tn < 200) : Ct l yX3_append cX3_append 2 (some .boolean) (rmz 0 0) G [.ref t0, .int x] [(t0, .inr (3, [.ref t1, .int (nI tn)])), (t1, .inl (kC G, 200, .inl Sg))] (one (some (.int 1)) [(t0, .inr (3, [.ref t1, .int (nI (tn + 1))])), (t1, .inl (kC G, 200, .inl (upd Sg tn (vp_nar .char x))))]) := by
  refine Ct.ofW (by decide) (Nat.le_of_ble_eq_true rfl) ?_
  intro p e s m below meth c ls A hx hb hml hr hown hts hlk hnm hP hD hA hE hS hl
  obtain ⟨H, eH⟩ : ∃ H : Heap, H = s.heap := ⟨_, rfl⟩
  obtain ⟨locs, eL⟩ : ∃ ll : List Loc, ll = [] := ⟨_, rfl⟩
  rw [← eH] at hP
  have hS : va_S A s.heap H locs := by rw [eH, eL]; exact hS
  show WC p l e _ s m _ below meth c G A _ s.heap [] 0 0 _
  rw [← eH, ← eL]
  clear eH eL
  have hl : lv_has ls 2 [(0, .ref t0), (1, .int x)] := hl
  refine lv_aload_n hx hb dX3_append_0 rfl (lv_at hl 0 rfl) ?_
  refine va_get hx hb hts inlX3 hown hE.1 hP 0 rfl rfl 1 (by decide) (fl_X3_15 hts) (fun _ h9 => h9) rfl dX3_append_1 ?_
  refine lv_aload_n hx hb dX3_append_4 rfl (lv_at hl 0 rfl) ?_
  refine va_get hx hb hts inlX3 hown hE.1 hP 0 rfl rfl 0 (by decide) (fl_X3_9 hts) (fun _ h9 => h9) rfl dX3_append_5 ?_
  refine va_alen hx hb hE.1 hP 1 1 rfl rfl rfl dX3_append_8 ?_
  refine lv_icmp_lt (tgt := 14) hx hb dX3_append_9 (by decide) (fun c9 => ?_) (fun c9 => ?_)
  · refine lv_aload_n hx hb dX3_append_14 rfl (lv_at hl 0 rfl) ?_
    refine va_get hx hb hts inlX3 hown hE.1 hP 0 rfl rfl 0 (by decide) (fl_X3_9 hts) (fun _ h9 => h9) rfl dX3_append_15 ?_
    refine lv_aload_n hx hb dX3_append_18 rfl (lv_at hl 0 rfl) ?_
    refine va_get hx hb hts inlX3 hown hE.1 hP 0 rfl rfl 1 (by decide) (fl_X3_15 hts) (fun _ h9 => h9) rfl dX3_append_19 ?_
    refine lv_iload_n hx hb dX3_append_22 rfl (lv_at hl 1 rfl) ?_
    refine va_cast hx hb hE.1 hP hD hS 1 1 rfl rfl (vp_in_nI ht2 (by decide)) dX3_append_23 (fun H locs hP hD hS => ?_)
    have hP : va_P G.1 vwCl [(t0, .inr (3, [.ref t1, .int (nI tn)])), (t1, .inl (kC G, 200, .inl (upd Sg (nI tn).toNatClampNeg (vp_nar .char x))))] H := hP
    have hD : va_D A [(t0, .inr (3, [.ref t1, .int (nI tn)])), (t1, .inl (kC G, 200, .inl (upd Sg (nI tn).toNatClampNeg (vp_nar .char x))))] := hD
    refine lv_aload_n hx hb dX3_append_24 rfl (lv_at hl 0 rfl) ?_
    refine lv_dup hx hb dX3_append_25 rfl ?_
    refine va_get hx hb hts inlX3 hown hE.1 hP 0 rfl rfl 1 (by decide) (fl_X3_15 hts) (fun _ h9 => h9) rfl dX3_append_26 ?_
    refine lv_iconst (v := 1) hx hb dX3_append_29 (by decide) ?_
    refine lv_iadd hx hb dX3_append_30 ?_
    refine va_put (v := .int ((nI tn) + 1)) (ty := .int) hx hb hts inlX3 tyX3 tyX3_ok nmX3 hown hE.1 hP hD hS 0 rfl rfl 1 (by decide) (fl_X3_15 hts) (fun _ h9 => h9) rfl (by decide +kernel) rfl rfl (Nat.le_of_ble_eq_true rfl) dX3_append_31 (fun H locs hP hD hS => ?_)
    have hP : va_P G.1 vwCl [(t0, .inr (3, [.ref t1, .int ((nI tn) + 1)])), (t1, .inl (kC G, 200, .inl (upd Sg (nI tn).toNatClampNeg (vp_nar .char x))))] H := hP
    have hD : va_D A [(t0, .inr (3, [.ref t1, .int ((nI tn) + 1)])), (t1, .inl (kC G, 200, .inl (upd Sg (nI tn).toNatClampNeg (vp_nar .char x))))] := hD
    refine lv_iconst (v := 1) hx hb dX3_append_34 (by decide) ?_
    exact ct_zret hx hb hr hlk dX3_append_35 rfl hP hD hS (by have e1 : (nI tn).toNatClampNeg = tn := nI_clamp (by omega); exact ⟨rfl, by simp only [e1, nI_1]⟩)
  · exact absurd (nI_lt (b := 200) ht2 (by decide)) c9

set_option maxHeartbeats 4000000 in
set_option maxRecDepth 100000 in
theorem c_X3_append_full (l : Launch) (G : Gv) (t0 : Nat) (t1 : Nat) (Sg : Nat → Int32) (tn : Nat) (x : Int32) (ht2 : tn = 200) : Ct l yX3_append cX3_append 2 (some .boolean) (rmz 0 0) G [.ref t0, .int x] [(t0, .inr (3, [.ref t1, .int (nI tn)])), (t1, .inl (kC G, 200, .inl Sg))] (one (some (.int 0)) [(t0, .inr (3, [.ref t1, .int (nI tn)])), (t1, .inl (kC G, 200, .inl Sg))]) := by
  refine Ct.ofW (by decide) (Nat.le_of_ble_eq_true rfl) ?_
  intro p e s m below meth c ls A hx hb hml hr hown hts hlk hnm hP hD hA hE hS hl
  obtain ⟨H, eH⟩ : ∃ H : Heap, H = s.heap := ⟨_, rfl⟩
  obtain ⟨locs, eL⟩ : ∃ ll : List Loc, ll = [] := ⟨_, rfl⟩
  rw [← eH] at hP
  have hS : va_S A s.heap H locs := by rw [eH, eL]; exact hS
  show WC p l e _ s m _ below meth c G A _ s.heap [] 0 0 _
  rw [← eH, ← eL]
  clear eH eL
  have hl : lv_has ls 2 [(0, .ref t0), (1, .int x)] := hl
  refine lv_aload_n hx hb dX3_append_0 rfl (lv_at hl 0 rfl) ?_
  refine va_get hx hb hts inlX3 hown hE.1 hP 0 rfl rfl 1 (by decide) (fl_X3_15 hts) (fun _ h9 => h9) rfl dX3_append_1 ?_
  refine lv_aload_n hx hb dX3_append_4 rfl (lv_at hl 0 rfl) ?_
  refine va_get hx hb hts inlX3 hown hE.1 hP 0 rfl rfl 0 (by decide) (fl_X3_9 hts) (fun _ h9 => h9) rfl dX3_append_5 ?_
  refine va_alen hx hb hE.1 hP 1 1 rfl rfl rfl dX3_append_8 ?_
  refine lv_icmp_lt (tgt := 14) hx hb dX3_append_9 (by decide) (fun c9 => ?_) (fun c9 => ?_)
  · exact absurd c9 (by rw [ht2]; exact (show ¬ nI 200 < nI 200 from by decide))
  · refine lv_iconst (v := 0) hx hb dX3_append_12 (by decide) ?_
    exact ct_zret hx hb hr hlk dX3_append_13 rfl hP hD hS (by first | exact ⟨rfl, rfl⟩ | (simp [one, c9]; done))
