/-! the reference: pull, fire, round -/
def fvM (nr nc : Nat) (nw : Nat → Int32) (n av bv k : Nat) : Int32 := if cbB (sta nw 0) (fal nw 0) (kin nw 0) (nw 0) k then stX nr nc ((stC (cel nw 0) (sta nw 0) (fal nw 0) (nw 0) n &&& (bt (nw (2 + k)) ^^^ (-1))) ^^^ (-1)) av bv else -4
def fiS (v : Int32) (k : Nat) (s : Int32 × Int32) : Int32 × Int32 := if v = -4 then s else if s.2 = -4 then (nI k, v) else if s.2 ≤ v then s else (nI k, v)
def fiM (nr nc : Nat) (nw : Nat → Int32) (n av bv k : Nat) : Int32 × Int32 := it (fun k s => fiS (fvM nr nc nw n av bv k) k s) (-4, stX nr nc (stC (cel nw 0) (sta nw 0) (fal nw 0) (nw 0) n ^^^ (-1)) av bv) k
theorem fiM_s (nr nc : Nat) (nw : Nat → Int32) (n av bv k : Nat) : fiM nr nc nw n av bv (k + 1) = fiS (fvM nr nc nw n av bv k) k (fiM nr nc nw n av bv k) := by
  unfold fiM
  exact it_s _ _ _
def fiMR (s : Int32 × Int32) (w : Int32) : Int32 := if s.1 = -4 then s.1 else if w = 0 then s.1 else s.2
def rvM (nc : Nat) (go to : Nat → Int32) (rs k j : Nat) : Int32 := if gbt (nI rs) j then to (8 * rs + j) + apM nc (go j) (go k) else 100000
def rb0 (nc : Nat) (go : Nat → Int32) (x : Int32) (rs k : Nat) : Int32 := if rs = 0 then apM nc x (go k) else 100000
def rbM (nc : Nat) (go to : Nat → Int32) (x : Int32) (rs k n : Nat) : Int32 := it (fun j a => if a ≤ rvM nc go to rs k j then a else rvM nc go to rs k j) (rb0 nc go x rs k) n
def roI (nc : Nat) (go : Nat → Int32) (x : Int32) (u st : Nat) (to : Nat → Int32) (n : Nat) : Nat → Int32 := it (fun k t => upd t (8 * st + k) (if gbt (nI st) k then rbM nc go t x (oth st k) k u else 100000)) to n
def roO (nc : Nat) (go : Nat → Int32) (x : Int32) (u : Nat) (to : Nat → Int32) (n : Nat) : Nat → Int32 := it (fun j t => roI nc go x u (j + 1) t u) to n
def roL (nc : Nat) (go to : Nat → Int32) (x : Int32) (al n : Nat) : Int32 := it (fun k a => if a ≤ to (8 * al + k) + apM nc (go k) x then a else to (8 * al + k) + apM nc (go k) x) 100000 n
theorem roO_s (nc : Nat) (go : Nat → Int32) (x : Int32) (u : Nat) (to : Nat → Int32) (n : Nat) : roO nc go x u to (n + 1) = roI nc go x u (n + 1) (roO nc go x u to n) u := by
  unfold roO
  exact it_s _ _ _
def roR (nc : Nat) (C F : Nat → Int32) (n : Nat) (y : Int32) (go to : Nat → Int32) (x : Int32) : Int32 :=
  if 8 < (rdA C F y go n).2 then -4 else if (rdA C F y go n).2 = 0 then -4 else
    roL nc (rdA C F y go n).1 (roO nc (rdA C F y go n).1 x (rdA C F y go n).2 to (2 ^ (rdA C F y go n).2 - 1)) x (2 ^ (rdA C F y go n).2 - 1) (rdA C F y go n).2

set_option maxHeartbeats 4000000 in
set_option maxRecDepth 100000 in
theorem c_X10_pull_f (l : Launch) (G : Gv) (q0 : Nat) (q1 : Nat) (q2 : Nat) (q3 : Nat) (q4 : Nat) (q5 : Nat) (q6 : Nat) (q7 : Nat) (q8 : Nat) (q9 : Nat) (q10 : Nat) (q11 : Nat) (q12 : Nat) (q13 : Nat) (q14 : Nat) (tx : Nat → Int32) (ro : Nat → Int32) (co : Nat → Int32) (mp : Nat → Int32) (my : Nat → Int32) (md : Nat → Int32) (mr : Nat → Int32) (dr : Nat → Int32) (nw : Nat → Int32) (tk : Nat → Int32) (cs : Nat → Int32) (sa : Nat → Int32) (go : Nat → Int32) (to : Nat → Int32) (ty : Nat) (dm : Nat) (at_ : Nat) (so : Bool) (de : Nat) (ke : Nat) (sm : Nat) (nr : Nat) (nc : Nat) (n : Nat) (av : Nat) (bv : Nat) (hro : ro 0 = nI nr) (hco : co 0 = nI nc) (hg1 : 2 ≤ nr ∧ nr ≤ 8) (hg2 : 2 ≤ nc ∧ nc ≤ 8) (hn1 : nw 1 = nI n) (hn : n ≤ 10) (hav : av < nr * nc) (hbv : bv < nr * nc) : Ct l yX10_pull cX10_pull 4 (some .int) (rmz 5 122) G [.ref q0, .int (nI av), .int (nI bv), .int 1] [(q0, .inr (10, [.ref q1, .int (nI ty), .ref q2, .ref q3, .ref q4, .ref q5, .ref q6, .ref q7, .ref q8, .int (nI dm), .int (nI at_), .int (zb so), .ref q9, .int (nI de), .int (nI ke), .ref q10, .ref q11, .ref q12, .int (nI sm), .ref q13, .ref q14])), (q1, .inl (kB G, 200, .inl tx)), (q2, .inl (kI G, 2, .inl ro)), (q3, .inl (kI G, 2, .inl co)), (q4, .inl (kI G, 2, .inl mp)), (q5, .inl (kI G, 10, .inl my)), (q6, .inl (kI G, 10, .inl md)), (q7, .inl (kI G, 10, .inl mr)), (q8, .inl (kI G, 40, .inl dr)), (q9, .inl (kI G, 504, .inl nw)), (q10, .inl (kI G, 64, .inl tk)), (q11, .inl (kI G, 64, .inl cs)), (q12, .inl (kI G, 12, .inl sa)), (q13, .inl (kI G, 8, .inl go)), (q14, .inl (kI G, 2048, .inl to))] (fun v9 w9 => v9 = (some (.int ((frA nr nc nw n av bv (2 ^ n)).2))) ∧ ∃ (tk9 : Nat → Int32) (cs9 : Nat → Int32), w9 = [(q0, .inr (10, [.ref q1, .int (nI ty), .ref q2, .ref q3, .ref q4, .ref q5, .ref q6, .ref q7, .ref q8, .int (nI dm), .int (nI at_), .int (zb so), .ref q9, .int (nI de), .int (nI ke), .ref q10, .ref q11, .ref q12, .int (nI sm), .ref q13, .ref q14])), (q1, .inl (kB G, 200, .inl tx)), (q2, .inl (kI G, 2, .inl ro)), (q3, .inl (kI G, 2, .inl co)), (q4, .inl (kI G, 2, .inl mp)), (q5, .inl (kI G, 10, .inl my)), (q6, .inl (kI G, 10, .inl md)), (q7, .inl (kI G, 10, .inl mr)), (q8, .inl (kI G, 40, .inl dr)), (q9, .inl (kI G, 504, .inl ((frA nr nc nw n av bv (2 ^ n)).1))), (q10, .inl (kI G, 64, .inl tk9)), (q11, .inl (kI G, 64, .inl cs9)), (q12, .inl (kI G, 12, .inl sa)), (q13, .inl (kI G, 8, .inl go)), (q14, .inl (kI G, 2048, .inl to))]) := by
  refine Ct.ofW (by decide) (Nat.le_of_ble_eq_true rfl) ?_
  intro p e s m below meth c ls A hx hb hml hr hown hts hlk hnm hP hD hA hE hS hl
  obtain ⟨H, eH⟩ : ∃ H : Heap, H = s.heap := ⟨_, rfl⟩
  obtain ⟨locs, eL⟩ : ∃ ll : List Loc, ll = [] := ⟨_, rfl⟩
  rw [← eH] at hP
  have hS : va_S A s.heap H locs := by rw [eH, eL]; exact hS
  show WC p l e _ s m _ below meth c G A _ s.heap [] 0 0 _
  rw [← eH, ← eL]
  clear eH eL
  have hl : lv_has ls 4 [(0, .ref q0), (1, .int (nI av)), (2, .int (nI bv)), (3, .int 1)] := hl
  have hcl := cells_le hg1 hg2
  refine lv_aload_n hx hb dX10_pull_0 rfl (lv_at hl 0 rfl) ?_
  refine lv_iload_n hx hb dX10_pull_1 rfl (lv_at hl 1 rfl) ?_
  refine rd_callV (As := [.int (nI av)]) (rest := []) hx hb hml hown hts (hE.at0 hS) hl.1 (c_X10_isCell l G q0 q1 q2 q3 q4 q5 q6 q7 q8 q9 q10 q11 q12 q13 q14 tx ro co mp my md mr dr nw tk cs sa go to ty dm at_ so de ke sm nr nc (nI av) (by first | assumption | omega) (by first | assumption | omega) (by first | assumption | omega) (by first | assumption | omega)) (cw_X10_116 hts) ⟨(Nat.le_of_ble_eq_true rfl), (Nat.le_of_ble_eq_true rfl)⟩ ⟨Nat.zero_le _, Nat.zero_le _⟩ rfl (sub_P hP [0, 1, 2, 3, 4, 5, 6, 7, 8, 9, 10, 11, 12, 13, 14] rfl) rfl rfl rfl rfl (Nat.le_of_ble_eq_true rfl) dX10_pull_2 ?_
  refine lv_if_eq (tgt := 16) hx hb dX10_pull_5 (by decide) (fun c5 => ?_) (fun c5 => ?_)
  · have c5 := zb_0.mp c5
    exact absurd c5 (by rw [inG, inB_nI (by omega)]; simp [hav])
  · have c5 := zb_n0.mp c5
    refine lv_aload_n hx hb dX10_pull_8 rfl (lv_at hl 0 rfl) ?_
    refine lv_iload_n hx hb dX10_pull_9 rfl (lv_at hl 2 rfl) ?_
    refine rd_callV (As := [.int (nI bv)]) (rest := []) hx hb hml hown hts (hE.at0 hS) hl.1 (c_X10_isCell l G q0 q1 q2 q3 q4 q5 q6 q7 q8 q9 q10 q11 q12 q13 q14 tx ro co mp my md mr dr nw tk cs sa go to ty dm at_ so de ke sm nr nc (nI bv) (by first | assumption | omega) (by first | assumption | omega) (by first | assumption | omega) (by first | assumption | omega)) (cw_X10_116 hts) ⟨(Nat.le_of_ble_eq_true rfl), (Nat.le_of_ble_eq_true rfl)⟩ ⟨Nat.zero_le _, Nat.zero_le _⟩ rfl (sub_P hP [0, 1, 2, 3, 4, 5, 6, 7, 8, 9, 10, 11, 12, 13, 14] rfl) rfl rfl rfl rfl (Nat.le_of_ble_eq_true rfl) dX10_pull_10 ?_
    refine lv_if_ne (tgt := 18) hx hb dX10_pull_13 (by decide) (fun c13 => ?_) (fun c13 => ?_)
    · have c13 := zb_n0.mp c13
      refine lv_iload_n hx hb dX10_pull_18 rfl (lv_at hl 3 rfl) ?_
      refine lv_if_eq (tgt := 31) hx hb dX10_pull_19 (by decide) (fun c19 => ?_) (fun c19 => ?_)
      · exact absurd c19 (by decide)
      · refine lv_aload_n hx hb dX10_pull_22 rfl (lv_at hl 0 rfl) ?_
        refine lv_iload_n hx hb dX10_pull_23 rfl (lv_at hl 1 rfl) ?_
        refine lv_iload_n hx hb dX10_pull_24 rfl (lv_at hl 2 rfl) ?_
        refine ct_callVx (wr := []) (As := [.int (nI av), .int (nI bv)]) (rest := []) hx hb hml hown hts hE hA hl.1 hP hD hS (c_X10_friends l G q0 q1 q2 q3 q4 q5 q6 q7 q8 q9 q10 q11 q12 q13 q14 tx ro co mp my md mr dr nw tk cs sa go to ty dm at_ so de ke sm nr nc n av bv (by first | assumption | omega) (by first | assumption | omega) (by first | assumption | omega) (by first | assumption | omega) (by first | assumption | omega) (by first | assumption | omega) (by first | assumption | omega) (by first | assumption | omega)) (cw_X10_172 hts) ⟨(Nat.le_of_ble_eq_true rfl), (Nat.le_of_ble_eq_true rfl)⟩ ⟨(Nat.le_of_ble_eq_true rfl), (Nat.le_of_ble_eq_true rfl)⟩ rfl [0, 1, 2, 3, 4, 5, 6, 7, 8, 9, 10, 11, 12, 13, 14] [] rfl rfl ⟨by decide, by decide, by decide⟩ rfl rfl rfl rfl (Nat.le_of_ble_eq_true rfl) dX10_pull_25 (fun v9 w9 H locs hpo hP hD hS => ?_)
        obtain ⟨rfl, tk9_25, cs9_25, rfl⟩ := hpo
        have hP := sub_P (wc := [(q0, .inr (10, [.ref q1, .int (nI ty), .ref q2, .ref q3, .ref q4, .ref q5, .ref q6, .ref q7, .ref q8, .int (nI dm), .int (nI at_), .int (zb so), .ref q9, .int (nI de), .int (nI ke), .ref q10, .ref q11, .ref q12, .int (nI sm), .ref q13, .ref q14])), (q1, .inl (kB G, 200, .inl tx)), (q2, .inl (kI G, 2, .inl ro)), (q3, .inl (kI G, 2, .inl co)), (q4, .inl (kI G, 2, .inl mp)), (q5, .inl (kI G, 10, .inl my)), (q6, .inl (kI G, 10, .inl md)), (q7, .inl (kI G, 10, .inl mr)), (q8, .inl (kI G, 40, .inl dr)), (q9, .inl (kI G, 504, .inl ((frA nr nc nw n av bv (2 ^ n)).1))), (q10, .inl (kI G, 64, .inl tk9_25)), (q11, .inl (kI G, 64, .inl cs9_25)), (q12, .inl (kI G, 12, .inl sa)), (q13, .inl (kI G, 8, .inl go)), (q14, .inl (kI G, 2048, .inl to))]) hP [0, 1, 2, 3, 4, 5, 6, 7, 8, 9, 10, 11, 12, 13, 14] rfl
        have hD := hD.sub (ws' := [(q0, .inr (10, [.ref q1, .int (nI ty), .ref q2, .ref q3, .ref q4, .ref q5, .ref q6, .ref q7, .ref q8, .int (nI dm), .int (nI at_), .int (zb so), .ref q9, .int (nI de), .int (nI ke), .ref q10, .ref q11, .ref q12, .int (nI sm), .ref q13, .ref q14])), (q1, .inl (kB G, 200, .inl tx)), (q2, .inl (kI G, 2, .inl ro)), (q3, .inl (kI G, 2, .inl co)), (q4, .inl (kI G, 2, .inl mp)), (q5, .inl (kI G, 10, .inl my)), (q6, .inl (kI G, 10, .inl md)), (q7, .inl (kI G, 10, .inl mr)), (q8, .inl (kI G, 40, .inl dr)), (q9, .inl (kI G, 504, .inl ((frA nr nc nw n av bv (2 ^ n)).1))), (q10, .inl (kI G, 64, .inl tk9_25)), (q11, .inl (kI G, 64, .inl cs9_25)), (q12, .inl (kI G, 12, .inl sa)), (q13, .inl (kI G, 8, .inl go)), (q14, .inl (kI G, 2048, .inl to))]) [0, 1, 2, 3, 4, 5, 6, 7, 8, 9, 10, 11, 12, 13, 14] (by decide) rfl
        show WC p l e _ s m _ below meth c G A _ H locs 0 0 (F0 m 28 ls [.int ((frA nr nc nw n av bv (2 ^ n)).2)])
        refine lv_goto (tgt := 37) hx hb dX10_pull_28 (by decide) ?_
        exact ct_iret hx hb hr hlk dX10_pull_37 hP hD hS (by exact ⟨rfl, _, _, rfl⟩)
    · have c13 := zb_0.mp c13
      exact absurd c13 (by rw [inG, inB_nI (by omega)]; simp [hbv])

set_option maxHeartbeats 4000000 in
set_option maxRecDepth 100000 in
theorem c_X10_pull_p (l : Launch) (G : Gv) (q0 : Nat) (q1 : Nat) (q2 : Nat) (q3 : Nat) (q4 : Nat) (q5 : Nat) (q6 : Nat) (q7 : Nat) (q8 : Nat) (q9 : Nat) (q10 : Nat) (q11 : Nat) (q12 : Nat) (q13 : Nat) (q14 : Nat) (tx : Nat → Int32) (ro : Nat → Int32) (co : Nat → Int32) (mp : Nat → Int32) (my : Nat → Int32) (md : Nat → Int32) (mr : Nat → Int32) (dr : Nat → Int32) (nw : Nat → Int32) (tk : Nat → Int32) (cs : Nat → Int32) (sa : Nat → Int32) (go : Nat → Int32) (to : Nat → Int32) (ty : Nat) (dm : Nat) (at_ : Nat) (so : Bool) (de : Nat) (ke : Nat) (sm : Nat) (nr : Nat) (nc : Nat) (n : Nat) (av : Nat) (bv : Nat) (hro : ro 0 = nI nr) (hco : co 0 = nI nc) (hg1 : 2 ≤ nr ∧ nr ≤ 8) (hg2 : 2 ≤ nc ∧ nc ≤ 8) (hn1 : nw 1 = nI n) (hn : n ≤ 10) (hav : av < nr * nc) (hbv : bv < nr * nc) : Ct l yX10_pull cX10_pull 4 (some .int) (rmz 4 96) G [.ref q0, .int (nI av), .int (nI bv), .int 0] [(q0, .inr (10, [.ref q1, .int (nI ty), .ref q2, .ref q3, .ref q4, .ref q5, .ref q6, .ref q7, .ref q8, .int (nI dm), .int (nI at_), .int (zb so), .ref q9, .int (nI de), .int (nI ke), .ref q10, .ref q11, .ref q12, .int (nI sm), .ref q13, .ref q14])), (q1, .inl (kB G, 200, .inl tx)), (q2, .inl (kI G, 2, .inl ro)), (q3, .inl (kI G, 2, .inl co)), (q4, .inl (kI G, 2, .inl mp)), (q5, .inl (kI G, 10, .inl my)), (q6, .inl (kI G, 10, .inl md)), (q7, .inl (kI G, 10, .inl mr)), (q8, .inl (kI G, 40, .inl dr)), (q9, .inl (kI G, 504, .inl nw)), (q10, .inl (kI G, 64, .inl tk)), (q11, .inl (kI G, 64, .inl cs)), (q12, .inl (kI G, 12, .inl sa)), (q13, .inl (kI G, 8, .inl go)), (q14, .inl (kI G, 2048, .inl to))] (fun v9 w9 => v9 = (some (.int (fnX nr nc (bi1 (stC (cel nw 0) (sta nw 0) (fal nw 0) (nw 0) n)) bv av + bi1 (stC (cel nw 0) (sta nw 0) (fal nw 0) (nw 0) n) av))) ∧ ∃ (tk9 : Nat → Int32) (cs9 : Nat → Int32), w9 = [(q0, .inr (10, [.ref q1, .int (nI ty), .ref q2, .ref q3, .ref q4, .ref q5, .ref q6, .ref q7, .ref q8, .int (nI dm), .int (nI at_), .int (zb so), .ref q9, .int (nI de), .int (nI ke), .ref q10, .ref q11, .ref q12, .int (nI sm), .ref q13, .ref q14])), (q1, .inl (kB G, 200, .inl tx)), (q2, .inl (kI G, 2, .inl ro)), (q3, .inl (kI G, 2, .inl co)), (q4, .inl (kI G, 2, .inl mp)), (q5, .inl (kI G, 10, .inl my)), (q6, .inl (kI G, 10, .inl md)), (q7, .inl (kI G, 10, .inl mr)), (q8, .inl (kI G, 40, .inl dr)), (q9, .inl (kI G, 504, .inl nw)), (q10, .inl (kI G, 64, .inl tk9)), (q11, .inl (kI G, 64, .inl cs9)), (q12, .inl (kI G, 12, .inl sa)), (q13, .inl (kI G, 8, .inl go)), (q14, .inl (kI G, 2048, .inl to))]) := by
  refine Ct.ofW (by decide) (Nat.le_of_ble_eq_true rfl) ?_
  intro p e s m below meth c ls A hx hb hml hr hown hts hlk hnm hP hD hA hE hS hl
  obtain ⟨H, eH⟩ : ∃ H : Heap, H = s.heap := ⟨_, rfl⟩
  obtain ⟨locs, eL⟩ : ∃ ll : List Loc, ll = [] := ⟨_, rfl⟩
  rw [← eH] at hP
  have hS : va_S A s.heap H locs := by rw [eH, eL]; exact hS
  show WC p l e _ s m _ below meth c G A _ s.heap [] 0 0 _
  rw [← eH, ← eL]
  clear eH eL
  have hl : lv_has ls 4 [(0, .ref q0), (1, .int (nI av)), (2, .int (nI bv)), (3, .int 0)] := hl
  have hcl := cells_le hg1 hg2
  refine lv_aload_n hx hb dX10_pull_0 rfl (lv_at hl 0 rfl) ?_
  refine lv_iload_n hx hb dX10_pull_1 rfl (lv_at hl 1 rfl) ?_
  refine rd_callV (As := [.int (nI av)]) (rest := []) hx hb hml hown hts (hE.at0 hS) hl.1 (c_X10_isCell l G q0 q1 q2 q3 q4 q5 q6 q7 q8 q9 q10 q11 q12 q13 q14 tx ro co mp my md mr dr nw tk cs sa go to ty dm at_ so de ke sm nr nc (nI av) (by first | assumption | omega) (by first | assumption | omega) (by first | assumption | omega) (by first | assumption | omega)) (cw_X10_116 hts) ⟨(Nat.le_of_ble_eq_true rfl), (Nat.le_of_ble_eq_true rfl)⟩ ⟨Nat.zero_le _, Nat.zero_le _⟩ rfl (sub_P hP [0, 1, 2, 3, 4, 5, 6, 7, 8, 9, 10, 11, 12, 13, 14] rfl) rfl rfl rfl rfl (Nat.le_of_ble_eq_true rfl) dX10_pull_2 ?_
  refine lv_if_eq (tgt := 16) hx hb dX10_pull_5 (by decide) (fun c5 => ?_) (fun c5 => ?_)
  · have c5 := zb_0.mp c5
    exact absurd c5 (by rw [inG, inB_nI (by omega)]; simp [hav])
  · have c5 := zb_n0.mp c5
    refine lv_aload_n hx hb dX10_pull_8 rfl (lv_at hl 0 rfl) ?_
    refine lv_iload_n hx hb dX10_pull_9 rfl (lv_at hl 2 rfl) ?_
    refine rd_callV (As := [.int (nI bv)]) (rest := []) hx hb hml hown hts (hE.at0 hS) hl.1 (c_X10_isCell l G q0 q1 q2 q3 q4 q5 q6 q7 q8 q9 q10 q11 q12 q13 q14 tx ro co mp my md mr dr nw tk cs sa go to ty dm at_ so de ke sm nr nc (nI bv) (by first | assumption | omega) (by first | assumption | omega) (by first | assumption | omega) (by first | assumption | omega)) (cw_X10_116 hts) ⟨(Nat.le_of_ble_eq_true rfl), (Nat.le_of_ble_eq_true rfl)⟩ ⟨Nat.zero_le _, Nat.zero_le _⟩ rfl (sub_P hP [0, 1, 2, 3, 4, 5, 6, 7, 8, 9, 10, 11, 12, 13, 14] rfl) rfl rfl rfl rfl (Nat.le_of_ble_eq_true rfl) dX10_pull_10 ?_
    refine lv_if_ne (tgt := 18) hx hb dX10_pull_13 (by decide) (fun c13 => ?_) (fun c13 => ?_)
    · have c13 := zb_n0.mp c13
      refine lv_iload_n hx hb dX10_pull_18 rfl (lv_at hl 3 rfl) ?_
      refine lv_if_eq (tgt := 31) hx hb dX10_pull_19 (by decide) (fun c19 => ?_) (fun c19 => ?_)
      · refine lv_aload_n hx hb dX10_pull_31 rfl (lv_at hl 0 rfl) ?_
        refine lv_iload_n hx hb dX10_pull_32 rfl (lv_at hl 1 rfl) ?_
        refine lv_iload_n hx hb dX10_pull_33 rfl (lv_at hl 2 rfl) ?_
        refine ct_callVx (wr := []) (As := [.int (nI av), .int (nI bv)]) (rest := []) hx hb hml hown hts hE hA hl.1 hP hD hS (c_X10_pulled l G q0 q1 q2 q3 q4 q5 q6 q7 q8 q9 q10 q11 q12 q13 q14 tx ro co mp my md mr dr nw tk cs sa go to ty dm at_ so de ke sm nr nc n av bv (by first | assumption | omega) (by first | assumption | omega) (by first | assumption | omega) (by first | assumption | omega) (by first | assumption | omega) (by first | assumption | omega) (by first | assumption | omega) (by first | assumption | omega)) (cw_X10_175 hts) ⟨(Nat.le_of_ble_eq_true rfl), (Nat.le_of_ble_eq_true rfl)⟩ ⟨(Nat.le_of_ble_eq_true rfl), (Nat.le_of_ble_eq_true rfl)⟩ rfl [0, 1, 2, 3, 4, 5, 6, 7, 8, 9, 10, 11, 12, 13, 14] [] rfl rfl ⟨by decide, by decide, by decide⟩ rfl rfl rfl rfl (Nat.le_of_ble_eq_true rfl) dX10_pull_34 (fun v9 w9 H locs hpo hP hD hS => ?_)
        obtain ⟨rfl, tk9_34, cs9_34, rfl⟩ := hpo
        have hP := sub_P (wc := [(q0, .inr (10, [.ref q1, .int (nI ty), .ref q2, .ref q3, .ref q4, .ref q5, .ref q6, .ref q7, .ref q8, .int (nI dm), .int (nI at_), .int (zb so), .ref q9, .int (nI de), .int (nI ke), .ref q10, .ref q11, .ref q12, .int (nI sm), .ref q13, .ref q14])), (q1, .inl (kB G, 200, .inl tx)), (q2, .inl (kI G, 2, .inl ro)), (q3, .inl (kI G, 2, .inl co)), (q4, .inl (kI G, 2, .inl mp)), (q5, .inl (kI G, 10, .inl my)), (q6, .inl (kI G, 10, .inl md)), (q7, .inl (kI G, 10, .inl mr)), (q8, .inl (kI G, 40, .inl dr)), (q9, .inl (kI G, 504, .inl nw)), (q10, .inl (kI G, 64, .inl tk9_34)), (q11, .inl (kI G, 64, .inl cs9_34)), (q12, .inl (kI G, 12, .inl sa)), (q13, .inl (kI G, 8, .inl go)), (q14, .inl (kI G, 2048, .inl to))]) hP [0, 1, 2, 3, 4, 5, 6, 7, 8, 9, 10, 11, 12, 13, 14] rfl
        have hD := hD.sub (ws' := [(q0, .inr (10, [.ref q1, .int (nI ty), .ref q2, .ref q3, .ref q4, .ref q5, .ref q6, .ref q7, .ref q8, .int (nI dm), .int (nI at_), .int (zb so), .ref q9, .int (nI de), .int (nI ke), .ref q10, .ref q11, .ref q12, .int (nI sm), .ref q13, .ref q14])), (q1, .inl (kB G, 200, .inl tx)), (q2, .inl (kI G, 2, .inl ro)), (q3, .inl (kI G, 2, .inl co)), (q4, .inl (kI G, 2, .inl mp)), (q5, .inl (kI G, 10, .inl my)), (q6, .inl (kI G, 10, .inl md)), (q7, .inl (kI G, 10, .inl mr)), (q8, .inl (kI G, 40, .inl dr)), (q9, .inl (kI G, 504, .inl nw)), (q10, .inl (kI G, 64, .inl tk9_34)), (q11, .inl (kI G, 64, .inl cs9_34)), (q12, .inl (kI G, 12, .inl sa)), (q13, .inl (kI G, 8, .inl go)), (q14, .inl (kI G, 2048, .inl to))]) [0, 1, 2, 3, 4, 5, 6, 7, 8, 9, 10, 11, 12, 13, 14] (by decide) rfl
        show WC p l e _ s m _ below meth c G A _ H locs 0 0 (F0 m 37 ls [.int (fnX nr nc (bi1 (stC (cel nw 0) (sta nw 0) (fal nw 0) (nw 0) n)) bv av + bi1 (stC (cel nw 0) (sta nw 0) (fal nw 0) (nw 0) n) av)])
        exact ct_iret hx hb hr hlk dX10_pull_37 hP hD hS (by exact ⟨rfl, _, _, rfl⟩)
      · exact absurd c19 (by decide)
    · have c13 := zb_0.mp c13
      exact absurd c13 (by rw [inG, inB_nI (by omega)]; simp [hbv])

set_option maxHeartbeats 4000000 in
set_option maxRecDepth 100000 in
theorem c_X10_pull_n (l : Launch) (G : Gv) (q0 : Nat) (q1 : Nat) (q2 : Nat) (q3 : Nat) (q4 : Nat) (q5 : Nat) (q6 : Nat) (q7 : Nat) (q8 : Nat) (q9 : Nat) (q10 : Nat) (q11 : Nat) (q12 : Nat) (q13 : Nat) (q14 : Nat) (tx : Nat → Int32) (ro : Nat → Int32) (co : Nat → Int32) (mp : Nat → Int32) (my : Nat → Int32) (md : Nat → Int32) (mr : Nat → Int32) (dr : Nat → Int32) (nw : Nat → Int32) (tk : Nat → Int32) (cs : Nat → Int32) (sa : Nat → Int32) (go : Nat → Int32) (to : Nat → Int32) (ty : Nat) (dm : Nat) (at_ : Nat) (so : Bool) (de : Nat) (ke : Nat) (sm : Nat) (nr : Nat) (nc : Nat) (n : Nat) (a : Int32) (b : Int32) (fr : Bool) (hro : ro 0 = nI nr) (hco : co 0 = nI nc) (hg1 : 2 ≤ nr ∧ nr ≤ 8) (hg2 : 2 ≤ nc ∧ nc ≤ 8) (hn1 : nw 1 = nI n) (hn : n ≤ 10) (hno : ¬ (inG nr nc a = true ∧ inG nr nc b = true)) : Rd l yX10_pull cX10_pull 4 (some .int) (rmz 2 43) G [.ref q0, .int a, .int b, .int (zb fr)] [(q0, .inr (10, [.ref q1, .int (nI ty), .ref q2, .ref q3, .ref q4, .ref q5, .ref q6, .ref q7, .ref q8, .int (nI dm), .int (nI at_), .int (zb so), .ref q9, .int (nI de), .int (nI ke), .ref q10, .ref q11, .ref q12, .int (nI sm), .ref q13, .ref q14])), (q1, .inl (kB G, 200, .inl tx)), (q2, .inl (kI G, 2, .inl ro)), (q3, .inl (kI G, 2, .inl co)), (q4, .inl (kI G, 2, .inl mp)), (q5, .inl (kI G, 10, .inl my)), (q6, .inl (kI G, 10, .inl md)), (q7, .inl (kI G, 10, .inl mr)), (q8, .inl (kI G, 40, .inl dr)), (q9, .inl (kI G, 504, .inl nw)), (q10, .inl (kI G, 64, .inl tk)), (q11, .inl (kI G, 64, .inl cs)), (q12, .inl (kI G, 12, .inl sa)), (q13, .inl (kI G, 8, .inl go)), (q14, .inl (kI G, 2048, .inl to))] (.int (-1)) := by
  refine Rd.ofW (by decide) (Nat.le_of_ble_eq_true rfl) ?_
  intro p e s m below meth c ls hx hb hml hr hown hts hlk hP hE hl
  have hl : lv_has ls 4 [(0, .ref q0), (1, .int a), (2, .int b), (3, .int (zb fr))] := hl
  refine lv_aload_n hx hb dX10_pull_0 rfl (lv_at hl 0 rfl) ?_
  refine lv_iload_n hx hb dX10_pull_1 rfl (lv_at hl 1 rfl) ?_
  refine rd_callV (As := [.int a]) (rest := []) hx hb hml hown hts hE hl.1 (c_X10_isCell l G q0 q1 q2 q3 q4 q5 q6 q7 q8 q9 q10 q11 q12 q13 q14 tx ro co mp my md mr dr nw tk cs sa go to ty dm at_ so de ke sm nr nc a (by first | assumption | omega) (by first | assumption | omega) (by first | assumption | omega) (by first | assumption | omega)) (cw_X10_116 hts) ⟨(Nat.le_of_ble_eq_true rfl), (Nat.le_of_ble_eq_true rfl)⟩ ⟨Nat.zero_le _, Nat.zero_le _⟩ rfl (sub_P hP [0, 1, 2, 3, 4, 5, 6, 7, 8, 9, 10, 11, 12, 13, 14] rfl) rfl rfl rfl rfl (Nat.le_of_ble_eq_true rfl) dX10_pull_2 ?_
  refine lv_if_eq (tgt := 16) hx hb dX10_pull_5 (by decide) (fun c5 => ?_) (fun c5 => ?_)
  · have c5 := zb_0.mp c5
    refine lv_iconst (v := -1) hx hb dX10_pull_16 (by decide) ?_
    exact rd_iret hx hb hr hlk dX10_pull_17 (by first | rfl | (simp [zb, c5]; done))
  · have c5 := zb_n0.mp c5
    refine lv_aload_n hx hb dX10_pull_8 rfl (lv_at hl 0 rfl) ?_
    refine lv_iload_n hx hb dX10_pull_9 rfl (lv_at hl 2 rfl) ?_
    refine rd_callV (As := [.int b]) (rest := []) hx hb hml hown hts hE hl.1 (c_X10_isCell l G q0 q1 q2 q3 q4 q5 q6 q7 q8 q9 q10 q11 q12 q13 q14 tx ro co mp my md mr dr nw tk cs sa go to ty dm at_ so de ke sm nr nc b (by first | assumption | omega) (by first | assumption | omega) (by first | assumption | omega) (by first | assumption | omega)) (cw_X10_116 hts) ⟨(Nat.le_of_ble_eq_true rfl), (Nat.le_of_ble_eq_true rfl)⟩ ⟨Nat.zero_le _, Nat.zero_le _⟩ rfl (sub_P hP [0, 1, 2, 3, 4, 5, 6, 7, 8, 9, 10, 11, 12, 13, 14] rfl) rfl rfl rfl rfl (Nat.le_of_ble_eq_true rfl) dX10_pull_10 ?_
    refine lv_if_ne (tgt := 18) hx hb dX10_pull_13 (by decide) (fun c13 => ?_) (fun c13 => ?_)
    · have c13 := zb_n0.mp c13
      exact absurd ⟨c5, c13⟩ hno
    · have c13 := zb_0.mp c13
      refine lv_iconst (v := -1) hx hb dX10_pull_16 (by decide) ?_
      exact rd_iret hx hb hr hlk dX10_pull_17 (by first | rfl | (simp [zb, c5, c13]; done))

set_option maxHeartbeats 4000000 in
set_option maxRecDepth 100000 in
theorem c_X10_fire_y (l : Launch) (G : Gv) (q0 : Nat) (q1 : Nat) (q2 : Nat) (q3 : Nat) (q4 : Nat) (q5 : Nat) (q6 : Nat) (q7 : Nat) (q8 : Nat) (q9 : Nat) (q10 : Nat) (q11 : Nat) (q12 : Nat) (q13 : Nat) (q14 : Nat) (tx : Nat → Int32) (ro : Nat → Int32) (co : Nat → Int32) (mp : Nat → Int32) (my : Nat → Int32) (md : Nat → Int32) (mr : Nat → Int32) (dr : Nat → Int32) (nw : Nat → Int32) (tk : Nat → Int32) (cs : Nat → Int32) (sa : Nat → Int32) (go : Nat → Int32) (to : Nat → Int32) (ty : Nat) (dm : Nat) (at_ : Nat) (so : Bool) (de : Nat) (ke : Nat) (sm : Nat) (nr : Nat) (nc : Nat) (n : Nat) (av : Nat) (bv : Nat) (w : Int32) (hro : ro 0 = nI nr) (hco : co 0 = nI nc) (hg1 : 2 ≤ nr ∧ nr ≤ 8) (hg2 : 2 ≤ nc ∧ nc ≤ 8) (hn1 : nw 1 = nI n) (hn : n ≤ 10) (hav : av < nr * nc) (hbv : bv < nr * nc) (hw : inn w 0 1 = true) : Ct l yX10_fire cX10_fire 10 (some .int) (rmz 5 118) G [.ref q0, .int (nI av), .int (nI bv), .int w] [(q0, .inr (10, [.ref q1, .int (nI ty), .ref q2, .ref q3, .ref q4, .ref q5, .ref q6, .ref q7, .ref q8, .int (nI dm), .int (nI at_), .int (zb so), .ref q9, .int (nI de), .int (nI ke), .ref q10, .ref q11, .ref q12, .int (nI sm), .ref q13, .ref q14])), (q1, .inl (kB G, 200, .inl tx)), (q2, .inl (kI G, 2, .inl ro)), (q3, .inl (kI G, 2, .inl co)), (q4, .inl (kI G, 2, .inl mp)), (q5, .inl (kI G, 10, .inl my)), (q6, .inl (kI G, 10, .inl md)), (q7, .inl (kI G, 10, .inl mr)), (q8, .inl (kI G, 40, .inl dr)), (q9, .inl (kI G, 504, .inl nw)), (q10, .inl (kI G, 64, .inl tk)), (q11, .inl (kI G, 64, .inl cs)), (q12, .inl (kI G, 12, .inl sa)), (q13, .inl (kI G, 8, .inl go)), (q14, .inl (kI G, 2048, .inl to))] (fun v9 w9 => v9 = (some (.int (fiMR (fiM nr nc nw n av bv n) w))) ∧ ∃ (tk9 : Nat → Int32) (cs9 : Nat → Int32), w9 = [(q0, .inr (10, [.ref q1, .int (nI ty), .ref q2, .ref q3, .ref q4, .ref q5, .ref q6, .ref q7, .ref q8, .int (nI dm), .int (nI at_), .int (zb so), .ref q9, .int (nI de), .int (nI ke), .ref q10, .ref q11, .ref q12, .int (nI sm), .ref q13, .ref q14])), (q1, .inl (kB G, 200, .inl tx)), (q2, .inl (kI G, 2, .inl ro)), (q3, .inl (kI G, 2, .inl co)), (q4, .inl (kI G, 2, .inl mp)), (q5, .inl (kI G, 10, .inl my)), (q6, .inl (kI G, 10, .inl md)), (q7, .inl (kI G, 10, .inl mr)), (q8, .inl (kI G, 40, .inl dr)), (q9, .inl (kI G, 504, .inl nw)), (q10, .inl (kI G, 64, .inl tk9)), (q11, .inl (kI G, 64, .inl cs9)), (q12, .inl (kI G, 12, .inl sa)), (q13, .inl (kI G, 8, .inl go)), (q14, .inl (kI G, 2048, .inl to))]) := by
  refine Ct.ofW (by decide) (Nat.le_of_ble_eq_true rfl) ?_
  intro p e s m below meth c ls A hx hb hml hr hown hts hlk hnm hP hD hA hE hS hl
  obtain ⟨H, eH⟩ : ∃ H : Heap, H = s.heap := ⟨_, rfl⟩
  obtain ⟨locs, eL⟩ : ∃ ll : List Loc, ll = [] := ⟨_, rfl⟩
  rw [← eH] at hP
  have hS : va_S A s.heap H locs := by rw [eH, eL]; exact hS
  show WC p l e _ s m _ below meth c G A _ s.heap [] 0 0 _
  rw [← eH, ← eL]
  clear eH eL
  have hl : lv_has ls 10 [(0, .ref q0), (1, .int (nI av)), (2, .int (nI bv)), (3, .int w)] := hl
  have hcl := cells_le hg1 hg2
  have J_55 : ∀ (n_ : Nat) (k : Nat) (fo : Int32) (le : Int32) (t1 : Nat → Int32) (c1 : Nat → Int32) (hk : k ≤ n) (hF : (fo, le) = fiM nr nc nw n av bv k) (hm_55 : n - k < n_), ∀ (H : Heap) (locs : List Loc), va_P G.1 vwCl [(q0, .inr (10, [.ref q1, .int (nI ty), .ref q2, .ref q3, .ref q4, .ref q5, .ref q6, .ref q7, .ref q8, .int (nI dm), .int (nI at_), .int (zb so), .ref q9, .int (nI de), .int (nI ke), .ref q10, .ref q11, .ref q12, .int (nI sm), .ref q13, .ref q14])), (q1, .inl (kB G, 200, .inl tx)), (q2, .inl (kI G, 2, .inl ro)), (q3, .inl (kI G, 2, .inl co)), (q4, .inl (kI G, 2, .inl mp)), (q5, .inl (kI G, 10, .inl my)), (q6, .inl (kI G, 10, .inl md)), (q7, .inl (kI G, 10, .inl mr)), (q8, .inl (kI G, 40, .inl dr)), (q9, .inl (kI G, 504, .inl nw)), (q10, .inl (kI G, 64, .inl t1)), (q11, .inl (kI G, 64, .inl c1)), (q12, .inl (kI G, 12, .inl sa)), (q13, .inl (kI G, 8, .inl go)), (q14, .inl (kI G, 2048, .inl to))] H → va_D A [(q0, .inr (10, [.ref q1, .int (nI ty), .ref q2, .ref q3, .ref q4, .ref q5, .ref q6, .ref q7, .ref q8, .int (nI dm), .int (nI at_), .int (zb so), .ref q9, .int (nI de), .int (nI ke), .ref q10, .ref q11, .ref q12, .int (nI sm), .ref q13, .ref q14])), (q1, .inl (kB G, 200, .inl tx)), (q2, .inl (kI G, 2, .inl ro)), (q3, .inl (kI G, 2, .inl co)), (q4, .inl (kI G, 2, .inl mp)), (q5, .inl (kI G, 10, .inl my)), (q6, .inl (kI G, 10, .inl md)), (q7, .inl (kI G, 10, .inl mr)), (q8, .inl (kI G, 40, .inl dr)), (q9, .inl (kI G, 504, .inl nw)), (q10, .inl (kI G, 64, .inl t1)), (q11, .inl (kI G, 64, .inl c1)), (q12, .inl (kI G, 12, .inl sa)), (q13, .inl (kI G, 8, .inl go)), (q14, .inl (kI G, 2048, .inl to))] → va_S A s.heap H locs → ∀ ls : Array Slot, lv_has ls 10 [(0, .ref q0), (1, .int (nI av)), (2, .int (nI bv)), (3, .int w), (4, .int fo), (5, .int le), (6, .long (stC (cel nw 0) (sta nw 0) (fal nw 0) (nw 0) n)), (8, .int (nI k))] → WC p l e (rmz 5 118) s m [.ref q0, .int (nI av), .int (nI bv), .int w] below meth c G A (fun v9 w9 => v9 = (some (.int (fiMR (fiM nr nc nw n av bv n) w))) ∧ ∃ (tk9 : Nat → Int32) (cs9 : Nat → Int32), w9 = [(q0, .inr (10, [.ref q1, .int (nI ty), .ref q2, .ref q3, .ref q4, .ref q5, .ref q6, .ref q7, .ref q8, .int (nI dm), .int (nI at_), .int (zb so), .ref q9, .int (nI de), .int (nI ke), .ref q10, .ref q11, .ref q12, .int (nI sm), .ref q13, .ref q14])), (q1, .inl (kB G, 200, .inl tx)), (q2, .inl (kI G, 2, .inl ro)), (q3, .inl (kI G, 2, .inl co)), (q4, .inl (kI G, 2, .inl mp)), (q5, .inl (kI G, 10, .inl my)), (q6, .inl (kI G, 10, .inl md)), (q7, .inl (kI G, 10, .inl mr)), (q8, .inl (kI G, 40, .inl dr)), (q9, .inl (kI G, 504, .inl nw)), (q10, .inl (kI G, 64, .inl tk9)), (q11, .inl (kI G, 64, .inl cs9)), (q12, .inl (kI G, 12, .inl sa)), (q13, .inl (kI G, 8, .inl go)), (q14, .inl (kI G, 2048, .inl to))]) H locs 0 0 (F0 m 55 ls []) := by
    intro n_
    induction n_ with
    | zero =>
      intro k fo le t1 c1 hk hF hm_55
      exact absurd hm_55 (Nat.not_lt_zero _)
    | succ n_ ih_55 =>
      intro k fo le t1 c1 hk hF hm_55 H locs hP hD hS ls hl
      have J_109 : ∀ (vv : Int32) (t2 : Nat → Int32) (c2 : Nat → Int32) (hkn : k < n) (hv : vv = fvM nr nc nw n av bv k), ∀ (H : Heap) (locs : List Loc), va_P G.1 vwCl [(q0, .inr (10, [.ref q1, .int (nI ty), .ref q2, .ref q3, .ref q4, .ref q5, .ref q6, .ref q7, .ref q8, .int (nI dm), .int (nI at_), .int (zb so), .ref q9, .int (nI de), .int (nI ke), .ref q10, .ref q11, .ref q12, .int (nI sm), .ref q13, .ref q14])), (q1, .inl (kB G, 200, .inl tx)), (q2, .inl (kI G, 2, .inl ro)), (q3, .inl (kI G, 2, .inl co)), (q4, .inl (kI G, 2, .inl mp)), (q5, .inl (kI G, 10, .inl my)), (q6, .inl (kI G, 10, .inl md)), (q7, .inl (kI G, 10, .inl mr)), (q8, .inl (kI G, 40, .inl dr)), (q9, .inl (kI G, 504, .inl nw)), (q10, .inl (kI G, 64, .inl t2)), (q11, .inl (kI G, 64, .inl c2)), (q12, .inl (kI G, 12, .inl sa)), (q13, .inl (kI G, 8, .inl go)), (q14, .inl (kI G, 2048, .inl to))] H → va_D A [(q0, .inr (10, [.ref q1, .int (nI ty), .ref q2, .ref q3, .ref q4, .ref q5, .ref q6, .ref q7, .ref q8, .int (nI dm), .int (nI at_), .int (zb so), .ref q9, .int (nI de), .int (nI ke), .ref q10, .ref q11, .ref q12, .int (nI sm), .ref q13, .ref q14])), (q1, .inl (kB G, 200, .inl tx)), (q2, .inl (kI G, 2, .inl ro)), (q3, .inl (kI G, 2, .inl co)), (q4, .inl (kI G, 2, .inl mp)), (q5, .inl (kI G, 10, .inl my)), (q6, .inl (kI G, 10, .inl md)), (q7, .inl (kI G, 10, .inl mr)), (q8, .inl (kI G, 40, .inl dr)), (q9, .inl (kI G, 504, .inl nw)), (q10, .inl (kI G, 64, .inl t2)), (q11, .inl (kI G, 64, .inl c2)), (q12, .inl (kI G, 12, .inl sa)), (q13, .inl (kI G, 8, .inl go)), (q14, .inl (kI G, 2048, .inl to))] → va_S A s.heap H locs → ∀ ls : Array Slot, lv_has ls 10 [(0, .ref q0), (1, .int (nI av)), (2, .int (nI bv)), (3, .int w), (4, .int fo), (5, .int le), (6, .long (stC (cel nw 0) (sta nw 0) (fal nw 0) (nw 0) n)), (8, .int (nI k))] → WC p l e (rmz 5 118) s m [.ref q0, .int (nI av), .int (nI bv), .int w] below meth c G A (fun v9 w9 => v9 = (some (.int (fiMR (fiM nr nc nw n av bv n) w))) ∧ ∃ (tk9 : Nat → Int32) (cs9 : Nat → Int32), w9 = [(q0, .inr (10, [.ref q1, .int (nI ty), .ref q2, .ref q3, .ref q4, .ref q5, .ref q6, .ref q7, .ref q8, .int (nI dm), .int (nI at_), .int (zb so), .ref q9, .int (nI de), .int (nI ke), .ref q10, .ref q11, .ref q12, .int (nI sm), .ref q13, .ref q14])), (q1, .inl (kB G, 200, .inl tx)), (q2, .inl (kI G, 2, .inl ro)), (q3, .inl (kI G, 2, .inl co)), (q4, .inl (kI G, 2, .inl mp)), (q5, .inl (kI G, 10, .inl my)), (q6, .inl (kI G, 10, .inl md)), (q7, .inl (kI G, 10, .inl mr)), (q8, .inl (kI G, 40, .inl dr)), (q9, .inl (kI G, 504, .inl nw)), (q10, .inl (kI G, 64, .inl tk9)), (q11, .inl (kI G, 64, .inl cs9)), (q12, .inl (kI G, 12, .inl sa)), (q13, .inl (kI G, 8, .inl go)), (q14, .inl (kI G, 2048, .inl to))]) H locs 0 0 (F0 m 109 ls [.int vv]) := by
        intro vv t2 c2 hkn hv H locs hP hD hS ls hl
        refine lv_istore (lv' := [(9, .int vv), (0, .ref q0), (1, .int (nI av)), (2, .int (nI bv)), (3, .int w), (4, .int fo), (5, .int le), (6, .long (stC (cel nw 0) (sta nw 0) (fal nw 0) (nw 0) n)), (8, .int (nI k))]) hx hb dX10_fire_109 hl (by decide) rfl (fun ls hl => ?_)
        refine lv_iload hx hb dX10_fire_111 (lv_at hl 0 rfl) ?_
        refine lv_bipush (v := -4) hx hb dX10_fire_113 (by decide) ?_
        refine lv_icmp_eq (tgt := 140) hx hb dX10_fire_115 (by decide) (fun c115 => ?_) (fun c115 => ?_)
        · refine lv_iinc (v := nI (k + 1)) (lv' := [(8, .int (nI (k + 1))), (9, .int vv), (0, .ref q0), (1, .int (nI av)), (2, .int (nI bv)), (3, .int w), (4, .int fo), (5, .int le), (6, .long (stC (cel nw 0) (sta nw 0) (fal nw 0) (nw 0) n))]) hx hb dX10_fire_140 hl (k := 8) rfl (nI_1 k) (by decide) rfl (fun ls hl => ?_)
          refine lv_goto (tgt := 55) hx hb dX10_fire_143 (by decide) ?_
          exact ih_55 (k + 1) fo le t2 c2 (by first | assumption | omega | rfl) (by rw [fiM_s, ← hF, ← hv, fiS]; simp [c115]) (by omega) _ _ hP hD hS ls (lv_sub hl [2, 3, 4, 5, 6, 7, 8, 0] rfl)
        · refine lv_iload hx hb dX10_fire_118 (lv_at hl 6 rfl) ?_
          refine lv_bipush (v := -4) hx hb dX10_fire_120 (by decide) ?_
          refine lv_icmp_eq (tgt := 132) hx hb dX10_fire_122 (by decide) (fun c122 => ?_) (fun c122 => ?_)
          · refine lv_iload hx hb dX10_fire_132 (lv_at hl 8 rfl) ?_
            refine lv_istore (lv' := [(4, .int (nI k)), (9, .int vv), (0, .ref q0), (1, .int (nI av)), (2, .int (nI bv)), (3, .int w), (5, .int le), (6, .long (stC (cel nw 0) (sta nw 0) (fal nw 0) (nw 0) n)), (8, .int (nI k))]) hx hb dX10_fire_134 hl (by decide) rfl (fun ls hl => ?_)
            refine lv_iload hx hb dX10_fire_136 (lv_at hl 1 rfl) ?_
            refine lv_istore (lv' := [(5, .int vv), (4, .int (nI k)), (9, .int vv), (0, .ref q0), (1, .int (nI av)), (2, .int (nI bv)), (3, .int w), (6, .long (stC (cel nw 0) (sta nw 0) (fal nw 0) (nw 0) n)), (8, .int (nI k))]) hx hb dX10_fire_138 hl (by decide) rfl (fun ls hl => ?_)
            refine lv_iinc (v := nI (k + 1)) (lv' := [(8, .int (nI (k + 1))), (5, .int vv), (4, .int (nI k)), (9, .int vv), (0, .ref q0), (1, .int (nI av)), (2, .int (nI bv)), (3, .int w), (6, .long (stC (cel nw 0) (sta nw 0) (fal nw 0) (nw 0) n))]) hx hb dX10_fire_140 hl (k := 8) rfl (nI_1 k) (by decide) rfl (fun ls hl => ?_)
            refine lv_goto (tgt := 55) hx hb dX10_fire_143 (by decide) ?_
            exact ih_55 (k + 1) (nI k) vv t2 c2 (by first | assumption | omega | rfl) (by rw [fiM_s, ← hF, ← hv, fiS]; simp [c115, c122]) (by omega) _ _ hP hD hS ls (lv_sub hl [4, 5, 6, 7, 2, 1, 8, 0] rfl)
          · refine lv_iload hx hb dX10_fire_125 (lv_at hl 0 rfl) ?_
            refine lv_iload hx hb dX10_fire_127 (lv_at hl 6 rfl) ?_
            refine lv_icmp_ge (tgt := 140) hx hb dX10_fire_129 (by decide) (fun c129 => ?_) (fun c129 => ?_)
            · refine lv_iinc (v := nI (k + 1)) (lv' := [(8, .int (nI (k + 1))), (9, .int vv), (0, .ref q0), (1, .int (nI av)), (2, .int (nI bv)), (3, .int w), (4, .int fo), (5, .int le), (6, .long (stC (cel nw 0) (sta nw 0) (fal nw 0) (nw 0) n))]) hx hb dX10_fire_140 hl (k := 8) rfl (nI_1 k) (by decide) rfl (fun ls hl => ?_)
              refine lv_goto (tgt := 55) hx hb dX10_fire_143 (by decide) ?_
              exact ih_55 (k + 1) fo le t2 c2 (by first | assumption | omega | rfl) (by rw [fiM_s, ← hF, ← hv, fiS]; simp [c115, c122, c129]) (by omega) _ _ hP hD hS ls (lv_sub hl [2, 3, 4, 5, 6, 7, 8, 0] rfl)
            · refine lv_iload hx hb dX10_fire_132 (lv_at hl 8 rfl) ?_
              refine lv_istore (lv' := [(4, .int (nI k)), (9, .int vv), (0, .ref q0), (1, .int (nI av)), (2, .int (nI bv)), (3, .int w), (5, .int le), (6, .long (stC (cel nw 0) (sta nw 0) (fal nw 0) (nw 0) n)), (8, .int (nI k))]) hx hb dX10_fire_134 hl (by decide) rfl (fun ls hl => ?_)
              refine lv_iload hx hb dX10_fire_136 (lv_at hl 1 rfl) ?_
              refine lv_istore (lv' := [(5, .int vv), (4, .int (nI k)), (9, .int vv), (0, .ref q0), (1, .int (nI av)), (2, .int (nI bv)), (3, .int w), (6, .long (stC (cel nw 0) (sta nw 0) (fal nw 0) (nw 0) n)), (8, .int (nI k))]) hx hb dX10_fire_138 hl (by decide) rfl (fun ls hl => ?_)
              refine lv_iinc (v := nI (k + 1)) (lv' := [(8, .int (nI (k + 1))), (5, .int vv), (4, .int (nI k)), (9, .int vv), (0, .ref q0), (1, .int (nI av)), (2, .int (nI bv)), (3, .int w), (6, .long (stC (cel nw 0) (sta nw 0) (fal nw 0) (nw 0) n))]) hx hb dX10_fire_140 hl (k := 8) rfl (nI_1 k) (by decide) rfl (fun ls hl => ?_)
              refine lv_goto (tgt := 55) hx hb dX10_fire_143 (by decide) ?_
              exact ih_55 (k + 1) (nI k) vv t2 c2 (by first | assumption | omega | rfl) (by rw [fiM_s, ← hF, ← hv, fiS]; simp [c115, c122, c129]) (by omega) _ _ hP hD hS ls (lv_sub hl [4, 5, 6, 7, 2, 1, 8, 0] rfl)
      refine lv_iload hx hb dX10_fire_55 (lv_at hl 7 rfl) ?_
      refine lv_aload_n hx hb dX10_fire_57 rfl (lv_at hl 0 rfl) ?_
      refine va_get hx hb hts inlX10 hown hE.1 hP 0 rfl rfl 12 (by decide) (fl_X10_35 hts) (fun _ h9 => h9) rfl dX10_fire_58 ?_
      refine lv_iconst (v := 1) hx hb dX10_fire_61 (by decide) ?_
      refine va_iald hx hb hE.1 hP 9 0 rfl rfl (inB_iff.mp (by decide)) dX10_fire_62 ?_
      rw [show (1 : Int32).toNatClampNeg = 1 from rfl]
      rw [hn1]
      refine lv_icmp_ge (tgt := 146) hx hb dX10_fire_63 (by decide) (fun c63 => ?_) (fun c63 => ?_)
      · have hkn : n ≤ k := le_of_le (by omega) (by omega) c63
        refine lv_iload hx hb dX10_fire_146 (lv_at hl 4 rfl) ?_
        refine lv_bipush (v := -4) hx hb dX10_fire_148 (by decide) ?_
        refine lv_icmp_eq (tgt := 157) hx hb dX10_fire_150 (by decide) (fun c150 => ?_) (fun c150 => ?_)
        · refine lv_iload hx hb dX10_fire_157 (lv_at hl 4 rfl) ?_
          refine lv_goto (tgt := 164) hx hb dX10_fire_159 (by decide) ?_
          exact ct_iret hx hb hr hlk dX10_fire_164 hP hD hS (by refine ⟨?_, _, _, rfl⟩; rw [show k = n by omega] at hF; rw [← hF, fiMR]; first | (rw [if_pos c150]; done) | (rw [if_neg c150, if_pos c154]; done) | (rw [if_neg c150, if_neg c154]; done))
        · refine lv_iload_n hx hb dX10_fire_153 rfl (lv_at hl 3 rfl) ?_
          refine lv_if_ne (tgt := 162) hx hb dX10_fire_154 (by decide) (fun c154 => ?_) (fun c154 => ?_)
          · refine lv_iload hx hb dX10_fire_162 (lv_at hl 5 rfl) ?_
            exact ct_iret hx hb hr hlk dX10_fire_164 hP hD hS (by refine ⟨?_, _, _, rfl⟩; rw [show k = n by omega] at hF; rw [← hF, fiMR]; first | (rw [if_pos c150]; done) | (rw [if_neg c150, if_pos c154]; done) | (rw [if_neg c150, if_neg c154]; done))
          · refine lv_iload hx hb dX10_fire_157 (lv_at hl 4 rfl) ?_
            refine lv_goto (tgt := 164) hx hb dX10_fire_159 (by decide) ?_
            exact ct_iret hx hb hr hlk dX10_fire_164 hP hD hS (by refine ⟨?_, _, _, rfl⟩; rw [show k = n by omega] at hF; rw [← hF, fiMR]; first | (rw [if_pos c150]; done) | (rw [if_neg c150, if_pos c154]; done) | (rw [if_neg c150, if_neg c154]; done))
      · have hkn : k < n := lt_of_nle (by omega) (by omega) c63
        refine lv_aload_n hx hb dX10_fire_66 rfl (lv_at hl 0 rfl) ?_
        refine lv_iconst (v := 0) hx hb dX10_fire_67 (by decide) ?_
        refine lv_iload hx hb dX10_fire_68 (lv_at hl 7 rfl) ?_
        refine rd_callV (As := [.int 0, .int (nI k)]) (rest := []) hx hb hml hown hts (hE.at0 hS) hl.1 (c_X10_canBurn l G q0 q1 q2 q3 q4 q5 q6 q7 q8 q9 q10 q11 q12 q13 q14 tx ro co mp my md mr dr nw t1 c1 sa go to ty dm at_ so de ke sm 0 k (by decide) (by first | assumption | omega)) (cw_X10_151 hts) ⟨(Nat.le_of_ble_eq_true rfl), (Nat.le_of_ble_eq_true rfl)⟩ ⟨Nat.zero_le _, Nat.zero_le _⟩ rfl (sub_P hP [0, 1, 2, 3, 4, 5, 6, 7, 8, 9, 10, 11, 12, 13, 14] rfl) rfl rfl rfl rfl (Nat.le_of_ble_eq_true rfl) dX10_fire_70 ?_
        refine lv_if_eq (tgt := 107) hx hb dX10_fire_73 (by decide) (fun c73 => ?_) (fun c73 => ?_)
        · have c73 := zb_0.mp c73
          refine lv_bipush (v := -4) hx hb dX10_fire_107 (by decide) ?_
          exact J_109 (-4) t1 c1 (by first | assumption | omega | rfl) (by simp [fvM, c63, c73]) _ _ hP hD hS ls (lv_sub hl [0, 1, 2, 3, 4, 5, 6, 7] rfl)
        · have c73 := zb_n0.mp c73
          refine lv_aload_n hx hb dX10_fire_76 rfl (lv_at hl 0 rfl) ?_
          refine lv_lload hx hb dX10_fire_77 (lv_at hl 6 rfl) ?_
          refine lv_lconst (v := 1) hx hb dX10_fire_79 (by decide) ?_
          refine lv_aload_n hx hb dX10_fire_80 rfl (lv_at hl 0 rfl) ?_
          refine va_get hx hb hts inlX10 hown hE.1 hP 0 rfl rfl 12 (by decide) (fl_X10_35 hts) (fun _ h9 => h9) rfl dX10_fire_81 ?_
          refine lv_iconst (v := 2) hx hb dX10_fire_84 (by decide) ?_
          refine lv_iload hx hb dX10_fire_85 (lv_at hl 7 rfl) ?_
          refine lv_iadd hx hb dX10_fire_87 ?_
          rw [show (2 : Int32) + (nI k) = nI (2 + k) from nI_add 2 k]
          refine va_iald hx hb hE.1 hP 9 0 rfl rfl (vp_in_nI (by omega) (by omega)) dX10_fire_88 ?_
          rw [nI_clamp (show 2 + k < 2 ^ 31 by omega)]
          refine lv_lshl hx hb dX10_fire_89 rfl ?_
          rw [show (1 <<< ((nw (2 + k)).toInt64 &&& 63)) = bt (nw (2 + k)) from rfl]
          refine lv_ldc2 hx hb hown (cL_X10_163 hts) dX10_fire_90 ?_
          refine lv_lxor hx hb dX10_fire_93 ?_
          refine lv_land hx hb dX10_fire_94 ?_
          refine lv_ldc2 hx hb hown (cL_X10_163 hts) dX10_fire_95 ?_
          refine lv_lxor hx hb dX10_fire_98 ?_
          refine lv_iload_n hx hb dX10_fire_99 rfl (lv_at hl 1 rfl) ?_
          refine lv_iload_n hx hb dX10_fire_100 rfl (lv_at hl 2 rfl) ?_
          refine ct_callVx (wr := []) (As := [.long (((stC (cel nw 0) (sta nw 0) (fal nw 0) (nw 0) n) &&& ((bt (nw (2 + k))) ^^^ (-1))) ^^^ (-1)), .int (nI av), .int (nI bv)]) (rest := []) hx hb hml hown hts hE hA hl.1 hP hD hS (c_X10_stepsIn l G q0 q1 q2 q3 q4 q5 q6 q7 q8 q9 q10 q11 q12 q13 q14 tx ro co mp my md mr dr nw t1 c1 sa go to ty dm at_ so de ke sm nr nc (((stC (cel nw 0) (sta nw 0) (fal nw 0) (nw 0) n) &&& ((bt (nw (2 + k))) ^^^ (-1))) ^^^ (-1)) av bv (by first | assumption | omega) (by first | assumption | omega) (by first | assumption | omega) (by first | assumption | omega) (by first | assumption | omega) (by first | assumption | omega)) (cw_X10_165 hts) ⟨(Nat.le_of_ble_eq_true rfl), (Nat.le_of_ble_eq_true rfl)⟩ ⟨(Nat.le_of_ble_eq_true rfl), (Nat.le_of_ble_eq_true rfl)⟩ rfl [0, 1, 2, 3, 4, 5, 6, 7, 8, 9, 10, 11, 12, 13, 14] [] rfl rfl ⟨by decide, by decide, by decide⟩ rfl rfl rfl rfl (Nat.le_of_ble_eq_true rfl) dX10_fire_101 (fun v9 w9 H locs hpo hP hD hS => ?_)
          obtain ⟨rfl, tk9_101, cs9_101, rfl⟩ := hpo
          have hP := sub_P (wc := [(q0, .inr (10, [.ref q1, .int (nI ty), .ref q2, .ref q3, .ref q4, .ref q5, .ref q6, .ref q7, .ref q8, .int (nI dm), .int (nI at_), .int (zb so), .ref q9, .int (nI de), .int (nI ke), .ref q10, .ref q11, .ref q12, .int (nI sm), .ref q13, .ref q14])), (q1, .inl (kB G, 200, .inl tx)), (q2, .inl (kI G, 2, .inl ro)), (q3, .inl (kI G, 2, .inl co)), (q4, .inl (kI G, 2, .inl mp)), (q5, .inl (kI G, 10, .inl my)), (q6, .inl (kI G, 10, .inl md)), (q7, .inl (kI G, 10, .inl mr)), (q8, .inl (kI G, 40, .inl dr)), (q9, .inl (kI G, 504, .inl nw)), (q10, .inl (kI G, 64, .inl tk9_101)), (q11, .inl (kI G, 64, .inl cs9_101)), (q12, .inl (kI G, 12, .inl sa)), (q13, .inl (kI G, 8, .inl go)), (q14, .inl (kI G, 2048, .inl to))]) hP [0, 1, 2, 3, 4, 5, 6, 7, 8, 9, 10, 11, 12, 13, 14] rfl
          have hD := hD.sub (ws' := [(q0, .inr (10, [.ref q1, .int (nI ty), .ref q2, .ref q3, .ref q4, .ref q5, .ref q6, .ref q7, .ref q8, .int (nI dm), .int (nI at_), .int (zb so), .ref q9, .int (nI de), .int (nI ke), .ref q10, .ref q11, .ref q12, .int (nI sm), .ref q13, .ref q14])), (q1, .inl (kB G, 200, .inl tx)), (q2, .inl (kI G, 2, .inl ro)), (q3, .inl (kI G, 2, .inl co)), (q4, .inl (kI G, 2, .inl mp)), (q5, .inl (kI G, 10, .inl my)), (q6, .inl (kI G, 10, .inl md)), (q7, .inl (kI G, 10, .inl mr)), (q8, .inl (kI G, 40, .inl dr)), (q9, .inl (kI G, 504, .inl nw)), (q10, .inl (kI G, 64, .inl tk9_101)), (q11, .inl (kI G, 64, .inl cs9_101)), (q12, .inl (kI G, 12, .inl sa)), (q13, .inl (kI G, 8, .inl go)), (q14, .inl (kI G, 2048, .inl to))]) [0, 1, 2, 3, 4, 5, 6, 7, 8, 9, 10, 11, 12, 13, 14] (by decide) rfl
          show WC p l e _ s m _ below meth c G A _ H locs 0 0 (F0 m 104 ls [.int (stX nr nc (((stC (cel nw 0) (sta nw 0) (fal nw 0) (nw 0) n) &&& ((bt (nw (2 + k))) ^^^ (-1))) ^^^ (-1)) av bv)])
          refine lv_goto (tgt := 109) hx hb dX10_fire_104 (by decide) ?_
          exact J_109 (stX nr nc (((stC (cel nw 0) (sta nw 0) (fal nw 0) (nw 0) n) &&& ((bt (nw (2 + k))) ^^^ (-1))) ^^^ (-1)) av bv) tk9_101 cs9_101 (by first | assumption | omega | rfl) (by simp [fvM, c63, c73]) _ _ hP hD hS ls (lv_sub hl [0, 1, 2, 3, 4, 5, 6, 7] rfl)
  refine lv_aload_n hx hb dX10_fire_0 rfl (lv_at hl 0 rfl) ?_
  refine lv_iload_n hx hb dX10_fire_1 rfl (lv_at hl 1 rfl) ?_
  refine rd_callV (As := [.int (nI av)]) (rest := []) hx hb hml hown hts (hE.at0 hS) hl.1 (c_X10_isCell l G q0 q1 q2 q3 q4 q5 q6 q7 q8 q9 q10 q11 q12 q13 q14 tx ro co mp my md mr dr nw tk cs sa go to ty dm at_ so de ke sm nr nc (nI av) (by first | assumption | omega) (by first | assumption | omega) (by first | assumption | omega) (by first | assumption | omega)) (cw_X10_116 hts) ⟨(Nat.le_of_ble_eq_true rfl), (Nat.le_of_ble_eq_true rfl)⟩ ⟨Nat.zero_le _, Nat.zero_le _⟩ rfl (sub_P hP [0, 1, 2, 3, 4, 5, 6, 7, 8, 9, 10, 11, 12, 13, 14] rfl) rfl rfl rfl rfl (Nat.le_of_ble_eq_true rfl) dX10_fire_2 ?_
  refine lv_if_eq (tgt := 25) hx hb dX10_fire_5 (by decide) (fun c5 => ?_) (fun c5 => ?_)
  · have c5 := zb_0.mp c5
    exact absurd c5 (by rw [inG, inB_nI (by omega)]; simp [hav])
  · have c5 := zb_n0.mp c5
    refine lv_aload_n hx hb dX10_fire_8 rfl (lv_at hl 0 rfl) ?_
    refine lv_iload_n hx hb dX10_fire_9 rfl (lv_at hl 2 rfl) ?_
    refine rd_callV (As := [.int (nI bv)]) (rest := []) hx hb hml hown hts (hE.at0 hS) hl.1 (c_X10_isCell l G q0 q1 q2 q3 q4 q5 q6 q7 q8 q9 q10 q11 q12 q13 q14 tx ro co mp my md mr dr nw tk cs sa go to ty dm at_ so de ke sm nr nc (nI bv) (by first | assumption | omega) (by first | assumption | omega) (by first | assumption | omega) (by first | assumption | omega)) (cw_X10_116 hts) ⟨(Nat.le_of_ble_eq_true rfl), (Nat.le_of_ble_eq_true rfl)⟩ ⟨Nat.zero_le _, Nat.zero_le _⟩ rfl (sub_P hP [0, 1, 2, 3, 4, 5, 6, 7, 8, 9, 10, 11, 12, 13, 14] rfl) rfl rfl rfl rfl (Nat.le_of_ble_eq_true rfl) dX10_fire_10 ?_
    refine lv_if_eq (tgt := 25) hx hb dX10_fire_13 (by decide) (fun c13 => ?_) (fun c13 => ?_)
    · have c13 := zb_0.mp c13
      exact absurd c13 (by rw [inG, inB_nI (by omega)]; simp [hbv])
    · have c13 := zb_n0.mp c13
      refine lv_iload_n hx hb dX10_fire_16 rfl (lv_at hl 3 rfl) ?_
      refine lv_iconst (v := 0) hx hb dX10_fire_17 (by decide) ?_
      refine lv_iconst (v := 1) hx hb dX10_fire_18 (by decide) ?_
      refine rd_callS (As := [.int w, .int 0, .int 1]) (rest := []) hx hb hml hown hts (hE.at0 hS) hl.1 (c_X10_in l G w 0 1 ) (cs_X10_61 hts) ⟨(Nat.le_of_ble_eq_true rfl), (Nat.le_of_ble_eq_true rfl)⟩ ⟨Nat.zero_le _, Nat.zero_le _⟩ rfl (sub_P hP [] rfl) rfl (Nat.le_of_ble_eq_true rfl) dX10_fire_19 ?_
      refine lv_if_ne (tgt := 27) hx hb dX10_fire_22 (by decide) (fun c22 => ?_) (fun c22 => ?_)
      · have c22 := zb_n0.mp c22
        refine lv_bipush (v := -4) hx hb dX10_fire_27 (by decide) ?_
        refine lv_istore (lv' := [(4, .int (-4)), (0, .ref q0), (1, .int (nI av)), (2, .int (nI bv)), (3, .int w)]) hx hb dX10_fire_29 hl (by decide) rfl (fun ls hl => ?_)
        refine lv_aload_n hx hb dX10_fire_31 rfl (lv_at hl 1 rfl) ?_
        refine lv_iload_n hx hb dX10_fire_32 rfl (lv_at hl 2 rfl) ?_
        refine lv_iload_n hx hb dX10_fire_33 rfl (lv_at hl 3 rfl) ?_
        refine ct_callVx (wr := []) (As := [.int (nI av), .int (nI bv)]) (rest := []) hx hb hml hown hts hE hA hl.1 hP hD hS (c_X10_way_y l G q0 q1 q2 q3 q4 q5 q6 q7 q8 q9 q10 q11 q12 q13 q14 tx ro co mp my md mr dr nw tk cs sa go to ty dm at_ so de ke sm nr nc n av bv (by first | assumption | omega) (by first | assumption | omega) (by first | assumption | omega) (by first | assumption | omega) (by first | assumption | omega) (by first | assumption | omega) (by first | assumption | omega) (by first | assumption | omega)) (cw_X10_187 hts) ⟨(Nat.le_of_ble_eq_true rfl), (Nat.le_of_ble_eq_true rfl)⟩ ⟨(Nat.le_of_ble_eq_true rfl), (Nat.le_of_ble_eq_true rfl)⟩ rfl [0, 1, 2, 3, 4, 5, 6, 7, 8, 9, 10, 11, 12, 13, 14] [] rfl rfl ⟨by decide, by decide, by decide⟩ rfl rfl rfl rfl (Nat.le_of_ble_eq_true rfl) dX10_fire_34 (fun v9 w9 H locs hpo hP hD hS => ?_)
        obtain ⟨rfl, tk9_34, cs9_34, rfl⟩ := hpo
        have hP := sub_P (wc := [(q0, .inr (10, [.ref q1, .int (nI ty), .ref q2, .ref q3, .ref q4, .ref q5, .ref q6, .ref q7, .ref q8, .int (nI dm), .int (nI at_), .int (zb so), .ref q9, .int (nI de), .int (nI ke), .ref q10, .ref q11, .ref q12, .int (nI sm), .ref q13, .ref q14])), (q1, .inl (kB G, 200, .inl tx)), (q2, .inl (kI G, 2, .inl ro)), (q3, .inl (kI G, 2, .inl co)), (q4, .inl (kI G, 2, .inl mp)), (q5, .inl (kI G, 10, .inl my)), (q6, .inl (kI G, 10, .inl md)), (q7, .inl (kI G, 10, .inl mr)), (q8, .inl (kI G, 40, .inl dr)), (q9, .inl (kI G, 504, .inl nw)), (q10, .inl (kI G, 64, .inl tk9_34)), (q11, .inl (kI G, 64, .inl cs9_34)), (q12, .inl (kI G, 12, .inl sa)), (q13, .inl (kI G, 8, .inl go)), (q14, .inl (kI G, 2048, .inl to))]) hP [0, 1, 2, 3, 4, 5, 6, 7, 8, 9, 10, 11, 12, 13, 14] rfl
        have hD := hD.sub (ws' := [(q0, .inr (10, [.ref q1, .int (nI ty), .ref q2, .ref q3, .ref q4, .ref q5, .ref q6, .ref q7, .ref q8, .int (nI dm), .int (nI at_), .int (zb so), .ref q9, .int (nI de), .int (nI ke), .ref q10, .ref q11, .ref q12, .int (nI sm), .ref q13, .ref q14])), (q1, .inl (kB G, 200, .inl tx)), (q2, .inl (kI G, 2, .inl ro)), (q3, .inl (kI G, 2, .inl co)), (q4, .inl (kI G, 2, .inl mp)), (q5, .inl (kI G, 10, .inl my)), (q6, .inl (kI G, 10, .inl md)), (q7, .inl (kI G, 10, .inl mr)), (q8, .inl (kI G, 40, .inl dr)), (q9, .inl (kI G, 504, .inl nw)), (q10, .inl (kI G, 64, .inl tk9_34)), (q11, .inl (kI G, 64, .inl cs9_34)), (q12, .inl (kI G, 12, .inl sa)), (q13, .inl (kI G, 8, .inl go)), (q14, .inl (kI G, 2048, .inl to))]) [0, 1, 2, 3, 4, 5, 6, 7, 8, 9, 10, 11, 12, 13, 14] (by decide) rfl
        show WC p l e _ s m _ below meth c G A _ H locs 0 0 (F0 m 37 ls [.int (stX nr nc (stC (cel nw 0) (sta nw 0) (fal nw 0) (nw 0) n ^^^ (-1)) av bv)])
        refine lv_istore (lv' := [(5, .int (stX nr nc (stC (cel nw 0) (sta nw 0) (fal nw 0) (nw 0) n ^^^ (-1)) av bv)), (4, .int (-4)), (0, .ref q0), (1, .int (nI av)), (2, .int (nI bv)), (3, .int w)]) hx hb dX10_fire_37 hl (by decide) rfl (fun ls hl => ?_)
        refine lv_aload_n hx hb dX10_fire_39 rfl (lv_at hl 2 rfl) ?_
        refine lv_iconst (v := 0) hx hb dX10_fire_40 (by decide) ?_
        refine lv_aload_n hx hb dX10_fire_41 rfl (lv_at hl 2 rfl) ?_
        refine va_get hx hb hts inlX10 hown hE.1 hP 0 rfl rfl 12 (by decide) (fl_X10_35 hts) (fun _ h9 => h9) rfl dX10_fire_42 ?_
        refine lv_iconst (v := 0) hx hb dX10_fire_45 (by decide) ?_
        refine va_iald hx hb hE.1 hP 9 0 rfl rfl (inB_iff.mp (by decide)) dX10_fire_46 ?_
        rw [show (0 : Int32).toNatClampNeg = 0 from rfl]
        refine rd_callV (As := [.int 0, .int (nw 0)]) (rest := []) hx hb hml hown hts (hE.at0 hS) hl.1 (c_X10_taken l G q0 q1 q2 q3 q4 q5 q6 q7 q8 q9 q10 q11 q12 q13 q14 tx ro co mp my md mr dr nw tk9_34 cs9_34 sa go to ty dm at_ so de ke sm 0 n (nw 0) (by decide) (by first | assumption | omega) (by first | assumption | omega)) (cw_X10_122 hts) ⟨(Nat.le_of_ble_eq_true rfl), (Nat.le_of_ble_eq_true rfl)⟩ ⟨Nat.zero_le _, Nat.zero_le _⟩ rfl (sub_P hP [0, 1, 2, 3, 4, 5, 6, 7, 8, 9, 10, 11, 12, 13, 14] rfl) rfl rfl rfl rfl (Nat.le_of_ble_eq_true rfl) dX10_fire_47 ?_
        refine lv_lstore (lv' := [(6, .long (stC (cel nw 0) (sta nw 0) (fal nw 0) (nw 0) n)), (5, .int (stX nr nc (stC (cel nw 0) (sta nw 0) (fal nw 0) (nw 0) n ^^^ (-1)) av bv)), (4, .int (-4)), (0, .ref q0), (1, .int (nI av)), (2, .int (nI bv)), (3, .int w)]) hx hb dX10_fire_50 hl (by decide) rfl (fun ls hl => ?_)
        refine lv_iconst (v := 0) hx hb dX10_fire_52 (by decide) ?_
        refine lv_istore (lv' := [(8, .int 0), (6, .long (stC (cel nw 0) (sta nw 0) (fal nw 0) (nw 0) n)), (5, .int (stX nr nc (stC (cel nw 0) (sta nw 0) (fal nw 0) (nw 0) n ^^^ (-1)) av bv)), (4, .int (-4)), (0, .ref q0), (1, .int (nI av)), (2, .int (nI bv)), (3, .int w)]) hx hb dX10_fire_53 hl (by decide) rfl (fun ls hl => ?_)
        exact J_55 (n - 0 + 1) 0 (-4) (stX nr nc (stC (cel nw 0) (sta nw 0) (fal nw 0) (nw 0) n ^^^ (-1)) av bv) tk9_34 cs9_34 (by first | assumption | omega | rfl) rfl (Nat.lt_succ_self _) _ _ hP hD hS ls (lv_sub hl [4, 5, 6, 7, 3, 2, 1, 0] rfl)
      · have c22 := zb_0.mp c22
        exact absurd (c22.symm.trans hw) (by decide)

set_option maxHeartbeats 4000000 in
set_option maxRecDepth 100000 in
theorem c_X10_fire_n (l : Launch) (G : Gv) (q0 : Nat) (q1 : Nat) (q2 : Nat) (q3 : Nat) (q4 : Nat) (q5 : Nat) (q6 : Nat) (q7 : Nat) (q8 : Nat) (q9 : Nat) (q10 : Nat) (q11 : Nat) (q12 : Nat) (q13 : Nat) (q14 : Nat) (tx : Nat → Int32) (ro : Nat → Int32) (co : Nat → Int32) (mp : Nat → Int32) (my : Nat → Int32) (md : Nat → Int32) (mr : Nat → Int32) (dr : Nat → Int32) (nw : Nat → Int32) (tk : Nat → Int32) (cs : Nat → Int32) (sa : Nat → Int32) (go : Nat → Int32) (to : Nat → Int32) (ty : Nat) (dm : Nat) (at_ : Nat) (so : Bool) (de : Nat) (ke : Nat) (sm : Nat) (nr : Nat) (nc : Nat) (n : Nat) (a : Int32) (b : Int32) (w : Int32) (hro : ro 0 = nI nr) (hco : co 0 = nI nc) (hg1 : 2 ≤ nr ∧ nr ≤ 8) (hg2 : 2 ≤ nc ∧ nc ≤ 8) (hn1 : nw 1 = nI n) (hn : n ≤ 10) (hno : ¬ (inG nr nc a = true ∧ inG nr nc b = true ∧ inn w 0 1 = true)) : Rd l yX10_fire cX10_fire 10 (some .int) (rmz 2 43) G [.ref q0, .int a, .int b, .int w] [(q0, .inr (10, [.ref q1, .int (nI ty), .ref q2, .ref q3, .ref q4, .ref q5, .ref q6, .ref q7, .ref q8, .int (nI dm), .int (nI at_), .int (zb so), .ref q9, .int (nI de), .int (nI ke), .ref q10, .ref q11, .ref q12, .int (nI sm), .ref q13, .ref q14])), (q1, .inl (kB G, 200, .inl tx)), (q2, .inl (kI G, 2, .inl ro)), (q3, .inl (kI G, 2, .inl co)), (q4, .inl (kI G, 2, .inl mp)), (q5, .inl (kI G, 10, .inl my)), (q6, .inl (kI G, 10, .inl md)), (q7, .inl (kI G, 10, .inl mr)), (q8, .inl (kI G, 40, .inl dr)), (q9, .inl (kI G, 504, .inl nw)), (q10, .inl (kI G, 64, .inl tk)), (q11, .inl (kI G, 64, .inl cs)), (q12, .inl (kI G, 12, .inl sa)), (q13, .inl (kI G, 8, .inl go)), (q14, .inl (kI G, 2048, .inl to))] (.int (-1)) := by
  refine Rd.ofW (by decide) (Nat.le_of_ble_eq_true rfl) ?_
  intro p e s m below meth c ls hx hb hml hr hown hts hlk hP hE hl
  have hl : lv_has ls 10 [(0, .ref q0), (1, .int a), (2, .int b), (3, .int w)] := hl
  refine lv_aload_n hx hb dX10_fire_0 rfl (lv_at hl 0 rfl) ?_
  refine lv_iload_n hx hb dX10_fire_1 rfl (lv_at hl 1 rfl) ?_
  refine rd_callV (As := [.int a]) (rest := []) hx hb hml hown hts hE hl.1 (c_X10_isCell l G q0 q1 q2 q3 q4 q5 q6 q7 q8 q9 q10 q11 q12 q13 q14 tx ro co mp my md mr dr nw tk cs sa go to ty dm at_ so de ke sm nr nc a (by first | assumption | omega) (by first | assumption | omega) (by first | assumption | omega) (by first | assumption | omega)) (cw_X10_116 hts) ⟨(Nat.le_of_ble_eq_true rfl), (Nat.le_of_ble_eq_true rfl)⟩ ⟨Nat.zero_le _, Nat.zero_le _⟩ rfl (sub_P hP [0, 1, 2, 3, 4, 5, 6, 7, 8, 9, 10, 11, 12, 13, 14] rfl) rfl rfl rfl rfl (Nat.le_of_ble_eq_true rfl) dX10_fire_2 ?_
  refine lv_if_eq (tgt := 25) hx hb dX10_fire_5 (by decide) (fun c5 => ?_) (fun c5 => ?_)
  · have c5 := zb_0.mp c5
    refine lv_iconst (v := -1) hx hb dX10_fire_25 (by decide) ?_
    exact rd_iret hx hb hr hlk dX10_fire_26 (by first | rfl | (simp [zb, c5]; done))
  · have c5 := zb_n0.mp c5
    refine lv_aload_n hx hb dX10_fire_8 rfl (lv_at hl 0 rfl) ?_
    refine lv_iload_n hx hb dX10_fire_9 rfl (lv_at hl 2 rfl) ?_
    refine rd_callV (As := [.int b]) (rest := []) hx hb hml hown hts hE hl.1 (c_X10_isCell l G q0 q1 q2 q3 q4 q5 q6 q7 q8 q9 q10 q11 q12 q13 q14 tx ro co mp my md mr dr nw tk cs sa go to ty dm at_ so de ke sm nr nc b (by first | assumption | omega) (by first | assumption | omega) (by first | assumption | omega) (by first | assumption | omega)) (cw_X10_116 hts) ⟨(Nat.le_of_ble_eq_true rfl), (Nat.le_of_ble_eq_true rfl)⟩ ⟨Nat.zero_le _, Nat.zero_le _⟩ rfl (sub_P hP [0, 1, 2, 3, 4, 5, 6, 7, 8, 9, 10, 11, 12, 13, 14] rfl) rfl rfl rfl rfl (Nat.le_of_ble_eq_true rfl) dX10_fire_10 ?_
    refine lv_if_eq (tgt := 25) hx hb dX10_fire_13 (by decide) (fun c13 => ?_) (fun c13 => ?_)
    · have c13 := zb_0.mp c13
      refine lv_iconst (v := -1) hx hb dX10_fire_25 (by decide) ?_
      exact rd_iret hx hb hr hlk dX10_fire_26 (by first | rfl | (simp [zb, c5, c13]; done))
    · have c13 := zb_n0.mp c13
      refine lv_iload_n hx hb dX10_fire_16 rfl (lv_at hl 3 rfl) ?_
      refine lv_iconst (v := 0) hx hb dX10_fire_17 (by decide) ?_
      refine lv_iconst (v := 1) hx hb dX10_fire_18 (by decide) ?_
      refine rd_callS (As := [.int w, .int 0, .int 1]) (rest := []) hx hb hml hown hts hE hl.1 (c_X10_in l G w 0 1 ) (cs_X10_61 hts) ⟨(Nat.le_of_ble_eq_true rfl), (Nat.le_of_ble_eq_true rfl)⟩ ⟨Nat.zero_le _, Nat.zero_le _⟩ rfl (sub_P hP [] rfl) rfl (Nat.le_of_ble_eq_true rfl) dX10_fire_19 ?_
      refine lv_if_ne (tgt := 27) hx hb dX10_fire_22 (by decide) (fun c22 => ?_) (fun c22 => ?_)
      · have c22 := zb_n0.mp c22
        exact absurd ⟨c5, c13, c22⟩ hno
      · have c22 := zb_0.mp c22
        refine lv_iconst (v := -1) hx hb dX10_fire_25 (by decide) ?_
        exact rd_iret hx hb hr hlk dX10_fire_26 (by first | rfl | (simp [zb, c5, c13, c22]; done))

set_option maxHeartbeats 4000000 in
set_option maxRecDepth 100000 in
theorem c_X10_round_y (l : Launch) (G : Gv) (q0 : Nat) (q1 : Nat) (q2 : Nat) (q3 : Nat) (q4 : Nat) (q5 : Nat) (q6 : Nat) (q7 : Nat) (q8 : Nat) (q9 : Nat) (q10 : Nat) (q11 : Nat) (q12 : Nat) (q13 : Nat) (q14 : Nat) (tx : Nat → Int32) (ro : Nat → Int32) (co : Nat → Int32) (mp : Nat → Int32) (my : Nat → Int32) (md : Nat → Int32) (mr : Nat → Int32) (dr : Nat → Int32) (nw : Nat → Int32) (tk : Nat → Int32) (cs : Nat → Int32) (sa : Nat → Int32) (go : Nat → Int32) (to : Nat → Int32) (ty : Nat) (dm : Nat) (at_ : Nat) (so : Bool) (de : Nat) (ke : Nat) (sm : Nat) (nr : Nat) (nc : Nat) (n : Nat) (x : Int32) (hro : ro 0 = nI nr) (hco : co 0 = nI nc) (hg1 : 2 ≤ nr ∧ nr ≤ 8) (hg2 : 2 ≤ nc ∧ nc ≤ 8) (hn1 : nw 1 = nI n) (hn : n ≤ 10) (hb1 : inG nr nc x = true) : Ct l yX10_round cX10_round 9 (some .int) (rmz 2 43) G [.ref q0, .int x] [(q0, .inr (10, [.ref q1, .int (nI ty), .ref q2, .ref q3, .ref q4, .ref q5, .ref q6, .ref q7, .ref q8, .int (nI dm), .int (nI at_), .int (zb so), .ref q9, .int (nI de), .int (nI ke), .ref q10, .ref q11, .ref q12, .int (nI sm), .ref q13, .ref q14])), (q1, .inl (kB G, 200, .inl tx)), (q2, .inl (kI G, 2, .inl ro)), (q3, .inl (kI G, 2, .inl co)), (q4, .inl (kI G, 2, .inl mp)), (q5, .inl (kI G, 10, .inl my)), (q6, .inl (kI G, 10, .inl md)), (q7, .inl (kI G, 10, .inl mr)), (q8, .inl (kI G, 40, .inl dr)), (q9, .inl (kI G, 504, .inl nw)), (q10, .inl (kI G, 64, .inl tk)), (q11, .inl (kI G, 64, .inl cs)), (q12, .inl (kI G, 12, .inl sa)), (q13, .inl (kI G, 8, .inl go)), (q14, .inl (kI G, 2048, .inl to))] (fun v9 w9 => v9 = (some (.int (roR nc (cel nw 0) (fal nw 0) n (nw 0) go to x))) ∧ ∃ (go9 : Nat → Int32) (to9 : Nat → Int32), w9 = [(q0, .inr (10, [.ref q1, .int (nI ty), .ref q2, .ref q3, .ref q4, .ref q5, .ref q6, .ref q7, .ref q8, .int (nI dm), .int (nI at_), .int (zb so), .ref q9, .int (nI de), .int (nI ke), .ref q10, .ref q11, .ref q12, .int (nI sm), .ref q13, .ref q14])), (q1, .inl (kB G, 200, .inl tx)), (q2, .inl (kI G, 2, .inl ro)), (q3, .inl (kI G, 2, .inl co)), (q4, .inl (kI G, 2, .inl mp)), (q5, .inl (kI G, 10, .inl my)), (q6, .inl (kI G, 10, .inl md)), (q7, .inl (kI G, 10, .inl mr)), (q8, .inl (kI G, 40, .inl dr)), (q9, .inl (kI G, 504, .inl nw)), (q10, .inl (kI G, 64, .inl tk)), (q11, .inl (kI G, 64, .inl cs)), (q12, .inl (kI G, 12, .inl sa)), (q13, .inl (kI G, 8, .inl go9)), (q14, .inl (kI G, 2048, .inl to9))]) := by
  refine Ct.ofW (by decide) (Nat.le_of_ble_eq_true rfl) ?_
  intro p e s m below meth c ls A hx hb hml hr hown hts hlk hnm hP hD hA hE hS hl
  obtain ⟨H, eH⟩ : ∃ H : Heap, H = s.heap := ⟨_, rfl⟩
  obtain ⟨locs, eL⟩ : ∃ ll : List Loc, ll = [] := ⟨_, rfl⟩
  rw [← eH] at hP
  have hS : va_S A s.heap H locs := by rw [eH, eL]; exact hS
  show WC p l e _ s m _ below meth c G A _ s.heap [] 0 0 _
  rw [← eH, ← eL]
  clear eH eL
  have hl : lv_has ls 9 [(0, .ref q0), (1, .int x)] := hl
  have J_261 : ∀ (n_ : Nat) (k : Nat) (le : Int32) (S1 : Nat → Int32) (u : Nat) (t1 : Nat → Int32) (hu : u ≤ 8) (hu0 : ¬ u = 0) (hL9 : (S1, u) = rdA (cel nw 0) (fal nw 0) (nw 0) go n) (hp8 : 2 ^ u ≤ 256) (hk : k ≤ u) (hB9 : t1 = roO nc S1 x u to (2 ^ u - 1)) (hle : le = roL nc S1 t1 x (2 ^ u - 1) k) (hm_261 : u - k < n_), ∀ (H : Heap) (locs : List Loc), va_P G.1 vwCl [(q0, .inr (10, [.ref q1, .int (nI ty), .ref q2, .ref q3, .ref q4, .ref q5, .ref q6, .ref q7, .ref q8, .int (nI dm), .int (nI at_), .int (zb so), .ref q9, .int (nI de), .int (nI ke), .ref q10, .ref q11, .ref q12, .int (nI sm), .ref q13, .ref q14])), (q1, .inl (kB G, 200, .inl tx)), (q2, .inl (kI G, 2, .inl ro)), (q3, .inl (kI G, 2, .inl co)), (q4, .inl (kI G, 2, .inl mp)), (q5, .inl (kI G, 10, .inl my)), (q6, .inl (kI G, 10, .inl md)), (q7, .inl (kI G, 10, .inl mr)), (q8, .inl (kI G, 40, .inl dr)), (q9, .inl (kI G, 504, .inl nw)), (q10, .inl (kI G, 64, .inl tk)), (q11, .inl (kI G, 64, .inl cs)), (q12, .inl (kI G, 12, .inl sa)), (q13, .inl (kI G, 8, .inl S1)), (q14, .inl (kI G, 2048, .inl t1))] H → va_D A [(q0, .inr (10, [.ref q1, .int (nI ty), .ref q2, .ref q3, .ref q4, .ref q5, .ref q6, .ref q7, .ref q8, .int (nI dm), .int (nI at_), .int (zb so), .ref q9, .int (nI de), .int (nI ke), .ref q10, .ref q11, .ref q12, .int (nI sm), .ref q13, .ref q14])), (q1, .inl (kB G, 200, .inl tx)), (q2, .inl (kI G, 2, .inl ro)), (q3, .inl (kI G, 2, .inl co)), (q4, .inl (kI G, 2, .inl mp)), (q5, .inl (kI G, 10, .inl my)), (q6, .inl (kI G, 10, .inl md)), (q7, .inl (kI G, 10, .inl mr)), (q8, .inl (kI G, 40, .inl dr)), (q9, .inl (kI G, 504, .inl nw)), (q10, .inl (kI G, 64, .inl tk)), (q11, .inl (kI G, 64, .inl cs)), (q12, .inl (kI G, 12, .inl sa)), (q13, .inl (kI G, 8, .inl S1)), (q14, .inl (kI G, 2048, .inl t1))] → va_S A s.heap H locs → ∀ ls : Array Slot, lv_has ls 9 [(0, .ref q0), (1, .int x), (2, .int (nI u)), (3, .int le), (4, .int (nI k))] → WC p l e (rmz 2 43) s m [.ref q0, .int x] below meth c G A (fun v9 w9 => v9 = (some (.int (roR nc (cel nw 0) (fal nw 0) n (nw 0) go to x))) ∧ ∃ (go9 : Nat → Int32) (to9 : Nat → Int32), w9 = [(q0, .inr (10, [.ref q1, .int (nI ty), .ref q2, .ref q3, .ref q4, .ref q5, .ref q6, .ref q7, .ref q8, .int (nI dm), .int (nI at_), .int (zb so), .ref q9, .int (nI de), .int (nI ke), .ref q10, .ref q11, .ref q12, .int (nI sm), .ref q13, .ref q14])), (q1, .inl (kB G, 200, .inl tx)), (q2, .inl (kI G, 2, .inl ro)), (q3, .inl (kI G, 2, .inl co)), (q4, .inl (kI G, 2, .inl mp)), (q5, .inl (kI G, 10, .inl my)), (q6, .inl (kI G, 10, .inl md)), (q7, .inl (kI G, 10, .inl mr)), (q8, .inl (kI G, 40, .inl dr)), (q9, .inl (kI G, 504, .inl nw)), (q10, .inl (kI G, 64, .inl tk)), (q11, .inl (kI G, 64, .inl cs)), (q12, .inl (kI G, 12, .inl sa)), (q13, .inl (kI G, 8, .inl go9)), (q14, .inl (kI G, 2048, .inl to9))]) H locs 0 0 (F0 m 261 ls []) := by
    intro n_
    induction n_ with
    | zero =>
      intro k le S1 u t1 hu hu0 hL9 hp8 hk hB9 hle hm_261
      exact absurd hm_261 (Nat.not_lt_zero _)
    | succ n_ ih_261 =>
      intro k le S1 u t1 hu hu0 hL9 hp8 hk hB9 hle hm_261 H locs hP hD hS ls hl
      refine lv_iload hx hb dX10_round_261 (lv_at hl 4 rfl) ?_
      refine lv_iload_n hx hb dX10_round_263 rfl (lv_at hl 2 rfl) ?_
      refine lv_icmp_ge (tgt := 317) hx hb dX10_round_264 (by decide) (fun c264 => ?_) (fun c264 => ?_)
      · have hkn : u ≤ k := le_of_le (by omega) (by omega) c264
        refine lv_iload_n hx hb dX10_round_317 rfl (lv_at hl 3 rfl) ?_
        exact ct_iret hx hb hr hlk dX10_round_318 hP hD hS (by refine ⟨?_, _, _, rfl⟩; rw [roR, ← hL9]; simp only; rw [if_neg (by omega), if_neg hu0, ← hB9, hle, show k = u by omega])
      · have hkn : k < u := lt_of_nle (by omega) (by omega) c264
        refine lv_aload_n hx hb dX10_round_267 rfl (lv_at hl 0 rfl) ?_
        refine va_get hx hb hts inlX10 hown hE.1 hP 0 rfl rfl 20 (by decide) (fl_X10_50 hts) (fun _ h9 => h9) rfl dX10_round_268 ?_
        refine lv_bipush (v := 8) hx hb dX10_round_271 (by decide) ?_
        refine lv_iconst (v := 1) hx hb dX10_round_273 (by decide) ?_
        refine lv_iload_n hx hb dX10_round_274 rfl (lv_at hl 2 rfl) ?_
        refine lv_ishl hx hb dX10_round_275 ?_
        refine lv_iconst (v := 1) hx hb dX10_round_276 (by decide) ?_
        refine lv_isub hx hb dX10_round_277 ?_
        rw [show ((1 <<< ((nI u) &&& 31)) - 1) = nI (2 ^ u - 1) from all_all u (by omega)]
        refine lv_imul hx hb dX10_round_278 ?_
        rw [show (8 : Int32) * (nI (2 ^ u - 1)) = nI (8 * (2 ^ u - 1)) from pk_mul 8 (2 ^ u - 1)]
        refine lv_iload hx hb dX10_round_279 (lv_at hl 4 rfl) ?_
        refine lv_iadd hx hb dX10_round_281 ?_
        rw [show (nI (8 * (2 ^ u - 1))) + (nI k) = nI (8 * (2 ^ u - 1) + k) from nI_add (8 * (2 ^ u - 1)) k]
        refine va_iald hx hb hE.1 hP 14 0 rfl rfl (vp_in_nI (by omega) (by omega)) dX10_round_282 ?_
        rw [nI_clamp (show 8 * (2 ^ u - 1) + k < 2 ^ 31 by omega)]
        refine lv_aload_n hx hb dX10_round_283 rfl (lv_at hl 0 rfl) ?_
        refine lv_aload_n hx hb dX10_round_284 rfl (lv_at hl 0 rfl) ?_
        refine va_get hx hb hts inlX10 hown hE.1 hP 0 rfl rfl 19 (by decide) (fl_X10_47 hts) (fun _ h9 => h9) rfl dX10_round_285 ?_
        refine lv_iload hx hb dX10_round_288 (lv_at hl 4 rfl) ?_
        refine va_iald hx hb hE.1 hP 13 0 rfl rfl (vp_in_nI (by omega) (by omega)) dX10_round_290 ?_
        rw [nI_clamp (show k < 2 ^ 31 by omega)]
        refine lv_iload_n hx hb dX10_round_291 rfl (lv_at hl 1 rfl) ?_
        refine rd_callV (As := [.int (S1 k), .int x]) (rest := [.int (t1 (8 * (2 ^ u - 1) + k))]) hx hb hml hown hts (hE.at0 hS) hl.1 (c_X10_apart l G q0 q1 q2 q3 q4 q5 q6 q7 q8 q9 q10 q11 q12 q13 q14 tx ro co mp my md mr dr nw tk cs sa S1 t1 ty dm at_ so de ke sm nr nc (S1 k) x (by first | assumption | omega) (by first | assumption | omega) (by first | assumption | omega) (by first | assumption | omega)) (cw_X10_184 hts) ⟨(Nat.le_of_ble_eq_true rfl), (Nat.le_of_ble_eq_true rfl)⟩ ⟨Nat.zero_le _, Nat.zero_le _⟩ rfl (sub_P hP [0, 1, 2, 3, 4, 5, 6, 7, 8, 9, 10, 11, 12, 13, 14] rfl) rfl rfl rfl rfl (Nat.le_of_ble_eq_true rfl) dX10_round_292 ?_
        refine lv_iadd hx hb dX10_round_295 ?_
        refine lv_istore (lv' := [(5, .int ((t1 (8 * (2 ^ u - 1) + k)) + (apM nc (S1 k) x))), (0, .ref q0), (1, .int x), (2, .int (nI u)), (3, .int le), (4, .int (nI k))]) hx hb dX10_round_296 hl (by decide) rfl (fun ls hl => ?_)
        refine lv_iload hx hb dX10_round_298 (lv_at hl 0 rfl) ?_
        refine lv_iload_n hx hb dX10_round_300 rfl (lv_at hl 4 rfl) ?_
        refine lv_icmp_ge (tgt := 309) hx hb dX10_round_301 (by decide) (fun c301 => ?_) (fun c301 => ?_)
        · refine lv_iload_n hx hb dX10_round_309 rfl (lv_at hl 4 rfl) ?_
          refine lv_istore_n (lv' := [(3, .int le), (5, .int ((t1 (8 * (2 ^ u - 1) + k)) + (apM nc (S1 k) x))), (0, .ref q0), (1, .int x), (2, .int (nI u)), (4, .int (nI k))]) hx hb dX10_round_310 rfl hl (by decide) rfl (fun ls hl => ?_)
          refine lv_iinc (v := nI (k + 1)) (lv' := [(4, .int (nI (k + 1))), (3, .int le), (5, .int ((t1 (8 * (2 ^ u - 1) + k)) + (apM nc (S1 k) x))), (0, .ref q0), (1, .int x), (2, .int (nI u))]) hx hb dX10_round_311 hl (k := 5) rfl (nI_1 k) (by decide) rfl (fun ls hl => ?_)
          refine lv_goto (tgt := 261) hx hb dX10_round_314 (by decide) ?_
          have hl0 := hle
          rw [roL] at hl0
          exact ih_261 (k + 1) le S1 u t1 hu (by first | exact c75 | exact hu0) hL9 (by first | assumption | omega | rfl) (by first | assumption | omega | rfl) hB9 (by rw [roL, it_s]; simp only [← hl0]; simp [c264, c301]) (by omega) _ _ hP hD hS ls (lv_sub hl [3, 4, 5, 1, 0] rfl)
        · refine lv_iload hx hb dX10_round_304 (lv_at hl 0 rfl) ?_
          refine lv_goto (tgt := 310) hx hb dX10_round_306 (by decide) ?_
          refine lv_istore_n (lv' := [(3, .int ((t1 (8 * (2 ^ u - 1) + k)) + (apM nc (S1 k) x))), (5, .int ((t1 (8 * (2 ^ u - 1) + k)) + (apM nc (S1 k) x))), (0, .ref q0), (1, .int x), (2, .int (nI u)), (4, .int (nI k))]) hx hb dX10_round_310 rfl hl (by decide) rfl (fun ls hl => ?_)
          refine lv_iinc (v := nI (k + 1)) (lv' := [(4, .int (nI (k + 1))), (3, .int ((t1 (8 * (2 ^ u - 1) + k)) + (apM nc (S1 k) x))), (5, .int ((t1 (8 * (2 ^ u - 1) + k)) + (apM nc (S1 k) x))), (0, .ref q0), (1, .int x), (2, .int (nI u))]) hx hb dX10_round_311 hl (k := 5) rfl (nI_1 k) (by decide) rfl (fun ls hl => ?_)
          refine lv_goto (tgt := 261) hx hb dX10_round_314 (by decide) ?_
          have hl0 := hle
          rw [roL] at hl0
          exact ih_261 (k + 1) ((t1 (8 * (2 ^ u - 1) + k)) + (apM nc (S1 k) x)) S1 u t1 hu (by first | exact c75 | exact hu0) hL9 (by first | assumption | omega | rfl) (by first | assumption | omega | rfl) hB9 (by rw [roL, it_s]; simp only [← hl0]; simp [c264, c301]) (by omega) _ _ hP hD hS ls (lv_sub hl [3, 4, 5, 1, 0] rfl)
  have J_83 : ∀ (n_ : Nat) (st : Nat) (S1 : Nat → Int32) (u : Nat) (t1 : Nat → Int32) (hu : u ≤ 8) (hu0 : ¬ u = 0) (hL9 : (S1, u) = rdA (cel nw 0) (fal nw 0) (nw 0) go n) (h1s : 1 ≤ st) (hst : st ≤ 2 ^ u) (hB : t1 = roO nc S1 x u to (st - 1)) (hm_83 : 2 ^ u - st < n_), ∀ (H : Heap) (locs : List Loc), va_P G.1 vwCl [(q0, .inr (10, [.ref q1, .int (nI ty), .ref q2, .ref q3, .ref q4, .ref q5, .ref q6, .ref q7, .ref q8, .int (nI dm), .int (nI at_), .int (zb so), .ref q9, .int (nI de), .int (nI ke), .ref q10, .ref q11, .ref q12, .int (nI sm), .ref q13, .ref q14])), (q1, .inl (kB G, 200, .inl tx)), (q2, .inl (kI G, 2, .inl ro)), (q3, .inl (kI G, 2, .inl co)), (q4, .inl (kI G, 2, .inl mp)), (q5, .inl (kI G, 10, .inl my)), (q6, .inl (kI G, 10, .inl md)), (q7, .inl (kI G, 10, .inl mr)), (q8, .inl (kI G, 40, .inl dr)), (q9, .inl (kI G, 504, .inl nw)), (q10, .inl (kI G, 64, .inl tk)), (q11, .inl (kI G, 64, .inl cs)), (q12, .inl (kI G, 12, .inl sa)), (q13, .inl (kI G, 8, .inl S1)), (q14, .inl (kI G, 2048, .inl t1))] H → va_D A [(q0, .inr (10, [.ref q1, .int (nI ty), .ref q2, .ref q3, .ref q4, .ref q5, .ref q6, .ref q7, .ref q8, .int (nI dm), .int (nI at_), .int (zb so), .ref q9, .int (nI de), .int (nI ke), .ref q10, .ref q11, .ref q12, .int (nI sm), .ref q13, .ref q14])), (q1, .inl (kB G, 200, .inl tx)), (q2, .inl (kI G, 2, .inl ro)), (q3, .inl (kI G, 2, .inl co)), (q4, .inl (kI G, 2, .inl mp)), (q5, .inl (kI G, 10, .inl my)), (q6, .inl (kI G, 10, .inl md)), (q7, .inl (kI G, 10, .inl mr)), (q8, .inl (kI G, 40, .inl dr)), (q9, .inl (kI G, 504, .inl nw)), (q10, .inl (kI G, 64, .inl tk)), (q11, .inl (kI G, 64, .inl cs)), (q12, .inl (kI G, 12, .inl sa)), (q13, .inl (kI G, 8, .inl S1)), (q14, .inl (kI G, 2048, .inl t1))] → va_S A s.heap H locs → ∀ ls : Array Slot, lv_has ls 9 [(0, .ref q0), (1, .int x), (2, .int (nI u)), (3, .int (nI st))] → WC p l e (rmz 2 43) s m [.ref q0, .int x] below meth c G A (fun v9 w9 => v9 = (some (.int (roR nc (cel nw 0) (fal nw 0) n (nw 0) go to x))) ∧ ∃ (go9 : Nat → Int32) (to9 : Nat → Int32), w9 = [(q0, .inr (10, [.ref q1, .int (nI ty), .ref q2, .ref q3, .ref q4, .ref q5, .ref q6, .ref q7, .ref q8, .int (nI dm), .int (nI at_), .int (zb so), .ref q9, .int (nI de), .int (nI ke), .ref q10, .ref q11, .ref q12, .int (nI sm), .ref q13, .ref q14])), (q1, .inl (kB G, 200, .inl tx)), (q2, .inl (kI G, 2, .inl ro)), (q3, .inl (kI G, 2, .inl co)), (q4, .inl (kI G, 2, .inl mp)), (q5, .inl (kI G, 10, .inl my)), (q6, .inl (kI G, 10, .inl md)), (q7, .inl (kI G, 10, .inl mr)), (q8, .inl (kI G, 40, .inl dr)), (q9, .inl (kI G, 504, .inl nw)), (q10, .inl (kI G, 64, .inl tk)), (q11, .inl (kI G, 64, .inl cs)), (q12, .inl (kI G, 12, .inl sa)), (q13, .inl (kI G, 8, .inl go9)), (q14, .inl (kI G, 2048, .inl to9))]) H locs 0 0 (F0 m 83 ls []) := by
    intro n_
    induction n_ with
    | zero =>
      intro st S1 u t1 hu hu0 hL9 h1s hst hB hm_83
      exact absurd hm_83 (Nat.not_lt_zero _)
    | succ n_ ih_83 =>
      intro st S1 u t1 hu hu0 hL9 h1s hst hB hm_83 H locs hP hD hS ls hl
      have J_93 : ∀ (n_ : Nat) (k : Nat) (t2 : Nat → Int32) (hsu : st < 2 ^ u) (hp8 : 2 ^ u ≤ 256) (hk : k ≤ u) (hB2 : t2 = roI nc S1 x u st t1 k) (hm_93 : u - k < n_), ∀ (H : Heap) (locs : List Loc), va_P G.1 vwCl [(q0, .inr (10, [.ref q1, .int (nI ty), .ref q2, .ref q3, .ref q4, .ref q5, .ref q6, .ref q7, .ref q8, .int (nI dm), .int (nI at_), .int (zb so), .ref q9, .int (nI de), .int (nI ke), .ref q10, .ref q11, .ref q12, .int (nI sm), .ref q13, .ref q14])), (q1, .inl (kB G, 200, .inl tx)), (q2, .inl (kI G, 2, .inl ro)), (q3, .inl (kI G, 2, .inl co)), (q4, .inl (kI G, 2, .inl mp)), (q5, .inl (kI G, 10, .inl my)), (q6, .inl (kI G, 10, .inl md)), (q7, .inl (kI G, 10, .inl mr)), (q8, .inl (kI G, 40, .inl dr)), (q9, .inl (kI G, 504, .inl nw)), (q10, .inl (kI G, 64, .inl tk)), (q11, .inl (kI G, 64, .inl cs)), (q12, .inl (kI G, 12, .inl sa)), (q13, .inl (kI G, 8, .inl S1)), (q14, .inl (kI G, 2048, .inl t2))] H → va_D A [(q0, .inr (10, [.ref q1, .int (nI ty), .ref q2, .ref q3, .ref q4, .ref q5, .ref q6, .ref q7, .ref q8, .int (nI dm), .int (nI at_), .int (zb so), .ref q9, .int (nI de), .int (nI ke), .ref q10, .ref q11, .ref q12, .int (nI sm), .ref q13, .ref q14])), (q1, .inl (kB G, 200, .inl tx)), (q2, .inl (kI G, 2, .inl ro)), (q3, .inl (kI G, 2, .inl co)), (q4, .inl (kI G, 2, .inl mp)), (q5, .inl (kI G, 10, .inl my)), (q6, .inl (kI G, 10, .inl md)), (q7, .inl (kI G, 10, .inl mr)), (q8, .inl (kI G, 40, .inl dr)), (q9, .inl (kI G, 504, .inl nw)), (q10, .inl (kI G, 64, .inl tk)), (q11, .inl (kI G, 64, .inl cs)), (q12, .inl (kI G, 12, .inl sa)), (q13, .inl (kI G, 8, .inl S1)), (q14, .inl (kI G, 2048, .inl t2))] → va_S A s.heap H locs → ∀ ls : Array Slot, lv_has ls 9 [(0, .ref q0), (1, .int x), (2, .int (nI u)), (3, .int (nI st)), (4, .int (nI k))] → WC p l e (rmz 2 43) s m [.ref q0, .int x] below meth c G A (fun v9 w9 => v9 = (some (.int (roR nc (cel nw 0) (fal nw 0) n (nw 0) go to x))) ∧ ∃ (go9 : Nat → Int32) (to9 : Nat → Int32), w9 = [(q0, .inr (10, [.ref q1, .int (nI ty), .ref q2, .ref q3, .ref q4, .ref q5, .ref q6, .ref q7, .ref q8, .int (nI dm), .int (nI at_), .int (zb so), .ref q9, .int (nI de), .int (nI ke), .ref q10, .ref q11, .ref q12, .int (nI sm), .ref q13, .ref q14])), (q1, .inl (kB G, 200, .inl tx)), (q2, .inl (kI G, 2, .inl ro)), (q3, .inl (kI G, 2, .inl co)), (q4, .inl (kI G, 2, .inl mp)), (q5, .inl (kI G, 10, .inl my)), (q6, .inl (kI G, 10, .inl md)), (q7, .inl (kI G, 10, .inl mr)), (q8, .inl (kI G, 40, .inl dr)), (q9, .inl (kI G, 504, .inl nw)), (q10, .inl (kI G, 64, .inl tk)), (q11, .inl (kI G, 64, .inl cs)), (q12, .inl (kI G, 12, .inl sa)), (q13, .inl (kI G, 8, .inl go9)), (q14, .inl (kI G, 2048, .inl to9))]) H locs 0 0 (F0 m 93 ls []) := by
        intro n_
        induction n_ with
        | zero =>
          intro k t2 hsu hp8 hk hB2 hm_93
          exact absurd hm_93 (Nat.not_lt_zero _)
        | succ n_ ih_93 =>
          intro k t2 hsu hp8 hk hB2 hm_93 H locs hP hD hS ls hl
          have J_136 : ∀ (n_ : Nat) (jj : Nat) (be : Int32) (hku : k < u) (hjj : jj ≤ u) (hot : oth st k ≤ st) (hbe : be = rbM nc S1 t2 x (oth st k) k jj) (hm_136 : u - jj < n_), ∀ (H : Heap) (locs : List Loc), va_P G.1 vwCl [(q0, .inr (10, [.ref q1, .int (nI ty), .ref q2, .ref q3, .ref q4, .ref q5, .ref q6, .ref q7, .ref q8, .int (nI dm), .int (nI at_), .int (zb so), .ref q9, .int (nI de), .int (nI ke), .ref q10, .ref q11, .ref q12, .int (nI sm), .ref q13, .ref q14])), (q1, .inl (kB G, 200, .inl tx)), (q2, .inl (kI G, 2, .inl ro)), (q3, .inl (kI G, 2, .inl co)), (q4, .inl (kI G, 2, .inl mp)), (q5, .inl (kI G, 10, .inl my)), (q6, .inl (kI G, 10, .inl md)), (q7, .inl (kI G, 10, .inl mr)), (q8, .inl (kI G, 40, .inl dr)), (q9, .inl (kI G, 504, .inl nw)), (q10, .inl (kI G, 64, .inl tk)), (q11, .inl (kI G, 64, .inl cs)), (q12, .inl (kI G, 12, .inl sa)), (q13, .inl (kI G, 8, .inl S1)), (q14, .inl (kI G, 2048, .inl t2))] H → va_D A [(q0, .inr (10, [.ref q1, .int (nI ty), .ref q2, .ref q3, .ref q4, .ref q5, .ref q6, .ref q7, .ref q8, .int (nI dm), .int (nI at_), .int (zb so), .ref q9, .int (nI de), .int (nI ke), .ref q10, .ref q11, .ref q12, .int (nI sm), .ref q13, .ref q14])), (q1, .inl (kB G, 200, .inl tx)), (q2, .inl (kI G, 2, .inl ro)), (q3, .inl (kI G, 2, .inl co)), (q4, .inl (kI G, 2, .inl mp)), (q5, .inl (kI G, 10, .inl my)), (q6, .inl (kI G, 10, .inl md)), (q7, .inl (kI G, 10, .inl mr)), (q8, .inl (kI G, 40, .inl dr)), (q9, .inl (kI G, 504, .inl nw)), (q10, .inl (kI G, 64, .inl tk)), (q11, .inl (kI G, 64, .inl cs)), (q12, .inl (kI G, 12, .inl sa)), (q13, .inl (kI G, 8, .inl S1)), (q14, .inl (kI G, 2048, .inl t2))] → va_S A s.heap H locs → ∀ ls : Array Slot, lv_has ls 9 [(0, .ref q0), (1, .int x), (2, .int (nI u)), (3, .int (nI st)), (4, .int (nI k)), (5, .int (nI (oth st k))), (6, .int be), (7, .int (nI jj))] → WC p l e (rmz 2 43) s m [.ref q0, .int x] below meth c G A (fun v9 w9 => v9 = (some (.int (roR nc (cel nw 0) (fal nw 0) n (nw 0) go to x))) ∧ ∃ (go9 : Nat → Int32) (to9 : Nat → Int32), w9 = [(q0, .inr (10, [.ref q1, .int (nI ty), .ref q2, .ref q3, .ref q4, .ref q5, .ref q6, .ref q7, .ref q8, .int (nI dm), .int (nI at_), .int (zb so), .ref q9, .int (nI de), .int (nI ke), .ref q10, .ref q11, .ref q12, .int (nI sm), .ref q13, .ref q14])), (q1, .inl (kB G, 200, .inl tx)), (q2, .inl (kI G, 2, .inl ro)), (q3, .inl (kI G, 2, .inl co)), (q4, .inl (kI G, 2, .inl mp)), (q5, .inl (kI G, 10, .inl my)), (q6, .inl (kI G, 10, .inl md)), (q7, .inl (kI G, 10, .inl mr)), (q8, .inl (kI G, 40, .inl dr)), (q9, .inl (kI G, 504, .inl nw)), (q10, .inl (kI G, 64, .inl tk)), (q11, .inl (kI G, 64, .inl cs)), (q12, .inl (kI G, 12, .inl sa)), (q13, .inl (kI G, 8, .inl go9)), (q14, .inl (kI G, 2048, .inl to9))]) H locs 0 0 (F0 m 136 ls []) := by
            intro n_
            induction n_ with
            | zero =>
              intro jj be hku hjj hot hbe hm_136
              exact absurd hm_136 (Nat.not_lt_zero _)
            | succ n_ ih_136 =>
              intro jj be hku hjj hot hbe hm_136 H locs hP hD hS ls hl
              refine lv_iload hx hb dX10_round_136 (lv_at hl 7 rfl) ?_
              refine lv_iload_n hx hb dX10_round_138 rfl (lv_at hl 2 rfl) ?_
              refine lv_icmp_ge (tgt := 214) hx hb dX10_round_139 (by decide) (fun c139 => ?_) (fun c139 => ?_)
              · have hkn : u ≤ jj := le_of_le (by omega) (by omega) c139
                refine lv_aload_n hx hb dX10_round_214 rfl (lv_at hl 0 rfl) ?_
                refine va_get hx hb hts inlX10 hown hE.1 hP 0 rfl rfl 20 (by decide) (fl_X10_50 hts) (fun _ h9 => h9) rfl dX10_round_215 ?_
                refine lv_bipush (v := 8) hx hb dX10_round_218 (by decide) ?_
                refine lv_iload_n hx hb dX10_round_220 rfl (lv_at hl 3 rfl) ?_
                refine lv_imul hx hb dX10_round_221 ?_
                rw [show (8 : Int32) * (nI st) = nI (8 * st) from pk_mul 8 st]
                refine lv_iload hx hb dX10_round_222 (lv_at hl 4 rfl) ?_
                refine lv_iadd hx hb dX10_round_224 ?_
                rw [show (nI (8 * st)) + (nI k) = nI (8 * st + k) from nI_add (8 * st) k]
                refine lv_iload_n hx hb dX10_round_225 rfl (lv_at hl 3 rfl) ?_
                refine lv_iload hx hb dX10_round_226 (lv_at hl 4 rfl) ?_
                refine lv_ishr hx hb dX10_round_228 ?_
                refine lv_iconst (v := 1) hx hb dX10_round_229 (by decide) ?_
                refine lv_iand hx hb dX10_round_230 ?_
                refine lv_iconst (v := 1) hx hb dX10_round_231 (by decide) ?_
                refine lv_icmp_ne (tgt := 240) hx hb dX10_round_232 (by decide) (fun c232 => ?_) (fun c232 => ?_)
                · have c232 : gbt (nI st) k = false := by simp [gbt, c232]
                  refine lv_ldc hx hb hown (cn_X10_57 hts) dX10_round_240 ?_
                  refine va_iast hx hb hE.1 hP hD hS 14 0 rfl rfl (vp_in_nI (by omega) (by omega)) dX10_round_242 (fun H locs hP hD hS => ?_)
                  rw [nI_clamp (show 8 * st + k < 2 ^ 31 by omega)] at hP hD
                  have hP : va_P G.1 vwCl [(q0, .inr (10, [.ref q1, .int (nI ty), .ref q2, .ref q3, .ref q4, .ref q5, .ref q6, .ref q7, .ref q8, .int (nI dm), .int (nI at_), .int (zb so), .ref q9, .int (nI de), .int (nI ke), .ref q10, .ref q11, .ref q12, .int (nI sm), .ref q13, .ref q14])), (q1, .inl (kB G, 200, .inl tx)), (q2, .inl (kI G, 2, .inl ro)), (q3, .inl (kI G, 2, .inl co)), (q4, .inl (kI G, 2, .inl mp)), (q5, .inl (kI G, 10, .inl my)), (q6, .inl (kI G, 10, .inl md)), (q7, .inl (kI G, 10, .inl mr)), (q8, .inl (kI G, 40, .inl dr)), (q9, .inl (kI G, 504, .inl nw)), (q10, .inl (kI G, 64, .inl tk)), (q11, .inl (kI G, 64, .inl cs)), (q12, .inl (kI G, 12, .inl sa)), (q13, .inl (kI G, 8, .inl S1)), (q14, .inl (kI G, 2048, .inl (upd t2 (8 * st + k) 100000)))] H := hP
                  have hD : va_D A [(q0, .inr (10, [.ref q1, .int (nI ty), .ref q2, .ref q3, .ref q4, .ref q5, .ref q6, .ref q7, .ref q8, .int (nI dm), .int (nI at_), .int (zb so), .ref q9, .int (nI de), .int (nI ke), .ref q10, .ref q11, .ref q12, .int (nI sm), .ref q13, .ref q14])), (q1, .inl (kB G, 200, .inl tx)), (q2, .inl (kI G, 2, .inl ro)), (q3, .inl (kI G, 2, .inl co)), (q4, .inl (kI G, 2, .inl mp)), (q5, .inl (kI G, 10, .inl my)), (q6, .inl (kI G, 10, .inl md)), (q7, .inl (kI G, 10, .inl mr)), (q8, .inl (kI G, 40, .inl dr)), (q9, .inl (kI G, 504, .inl nw)), (q10, .inl (kI G, 64, .inl tk)), (q11, .inl (kI G, 64, .inl cs)), (q12, .inl (kI G, 12, .inl sa)), (q13, .inl (kI G, 8, .inl S1)), (q14, .inl (kI G, 2048, .inl (upd t2 (8 * st + k) 100000)))] := hD
                  refine lv_iinc (v := nI (k + 1)) (lv' := [(4, .int (nI (k + 1))), (0, .ref q0), (1, .int x), (2, .int (nI u)), (3, .int (nI st)), (5, .int (nI (oth st k))), (6, .int be), (7, .int (nI jj))]) hx hb dX10_round_243 hl (k := 4) rfl (nI_1 k) (by decide) rfl (fun ls hl => ?_)
                  refine lv_goto (tgt := 93) hx hb dX10_round_246 (by decide) ?_
                  have hB0 := hB2
                  rw [roI] at hB0
                  exact ih_93 (k + 1) (upd t2 (8 * st + k) 100000) (by first | assumption | omega | rfl) (by first | assumption | omega | rfl) (by first | assumption | omega | rfl) (by rw [roI, it_s]; simp only [← hB0]; rw [show jj = u by omega] at hbe; simp [c139, c232, hbe]) (by omega) _ _ hP hD hS ls (lv_sub hl [1, 2, 3, 4, 0] rfl)
                · have c232 : gbt (nI st) k = true := by simp [gbt, c232]
                  refine lv_iload hx hb dX10_round_235 (lv_at hl 6 rfl) ?_
                  refine lv_goto (tgt := 242) hx hb dX10_round_237 (by decide) ?_
                  refine va_iast hx hb hE.1 hP hD hS 14 0 rfl rfl (vp_in_nI (by omega) (by omega)) dX10_round_242 (fun H locs hP hD hS => ?_)
                  rw [nI_clamp (show 8 * st + k < 2 ^ 31 by omega)] at hP hD
                  have hP : va_P G.1 vwCl [(q0, .inr (10, [.ref q1, .int (nI ty), .ref q2, .ref q3, .ref q4, .ref q5, .ref q6, .ref q7, .ref q8, .int (nI dm), .int (nI at_), .int (zb so), .ref q9, .int (nI de), .int (nI ke), .ref q10, .ref q11, .ref q12, .int (nI sm), .ref q13, .ref q14])), (q1, .inl (kB G, 200, .inl tx)), (q2, .inl (kI G, 2, .inl ro)), (q3, .inl (kI G, 2, .inl co)), (q4, .inl (kI G, 2, .inl mp)), (q5, .inl (kI G, 10, .inl my)), (q6, .inl (kI G, 10, .inl md)), (q7, .inl (kI G, 10, .inl mr)), (q8, .inl (kI G, 40, .inl dr)), (q9, .inl (kI G, 504, .inl nw)), (q10, .inl (kI G, 64, .inl tk)), (q11, .inl (kI G, 64, .inl cs)), (q12, .inl (kI G, 12, .inl sa)), (q13, .inl (kI G, 8, .inl S1)), (q14, .inl (kI G, 2048, .inl (upd t2 (8 * st + k) be)))] H := hP
                  have hD : va_D A [(q0, .inr (10, [.ref q1, .int (nI ty), .ref q2, .ref q3, .ref q4, .ref q5, .ref q6, .ref q7, .ref q8, .int (nI dm), .int (nI at_), .int (zb so), .ref q9, .int (nI de), .int (nI ke), .ref q10, .ref q11, .ref q12, .int (nI sm), .ref q13, .ref q14])), (q1, .inl (kB G, 200, .inl tx)), (q2, .inl (kI G, 2, .inl ro)), (q3, .inl (kI G, 2, .inl co)), (q4, .inl (kI G, 2, .inl mp)), (q5, .inl (kI G, 10, .inl my)), (q6, .inl (kI G, 10, .inl md)), (q7, .inl (kI G, 10, .inl mr)), (q8, .inl (kI G, 40, .inl dr)), (q9, .inl (kI G, 504, .inl nw)), (q10, .inl (kI G, 64, .inl tk)), (q11, .inl (kI G, 64, .inl cs)), (q12, .inl (kI G, 12, .inl sa)), (q13, .inl (kI G, 8, .inl S1)), (q14, .inl (kI G, 2048, .inl (upd t2 (8 * st + k) be)))] := hD
                  refine lv_iinc (v := nI (k + 1)) (lv' := [(4, .int (nI (k + 1))), (0, .ref q0), (1, .int x), (2, .int (nI u)), (3, .int (nI st)), (5, .int (nI (oth st k))), (6, .int be), (7, .int (nI jj))]) hx hb dX10_round_243 hl (k := 4) rfl (nI_1 k) (by decide) rfl (fun ls hl => ?_)
                  refine lv_goto (tgt := 93) hx hb dX10_round_246 (by decide) ?_
                  have hB0 := hB2
                  rw [roI] at hB0
                  exact ih_93 (k + 1) (upd t2 (8 * st + k) be) (by first | assumption | omega | rfl) (by first | assumption | omega | rfl) (by first | assumption | omega | rfl) (by rw [roI, it_s]; simp only [← hB0]; rw [show jj = u by omega] at hbe; simp [c139, c232, hbe]) (by omega) _ _ hP hD hS ls (lv_sub hl [1, 2, 3, 4, 0] rfl)
              · have hkn : jj < u := lt_of_nle (by omega) (by omega) c139
                refine lv_iload hx hb dX10_round_142 (lv_at hl 5 rfl) ?_
                refine lv_iload hx hb dX10_round_144 (lv_at hl 7 rfl) ?_
                refine lv_ishr hx hb dX10_round_146 ?_
                refine lv_iconst (v := 1) hx hb dX10_round_147 (by decide) ?_
                refine lv_iand hx hb dX10_round_148 ?_
                refine lv_iconst (v := 1) hx hb dX10_round_149 (by decide) ?_
                refine lv_icmp_ne (tgt := 188) hx hb dX10_round_150 (by decide) (fun c150 => ?_) (fun c150 => ?_)
                · have c150 : gbt (nI (oth st k)) jj = false := by simp [gbt, c150]
                  refine lv_ldc hx hb hown (cn_X10_57 hts) dX10_round_188 ?_
                  refine lv_istore (lv' := [(8, .int 100000), (0, .ref q0), (1, .int x), (2, .int (nI u)), (3, .int (nI st)), (4, .int (nI k)), (5, .int (nI (oth st k))), (6, .int be), (7, .int (nI jj))]) hx hb dX10_round_190 hl (by decide) rfl (fun ls hl => ?_)
                  refine lv_iload hx hb dX10_round_192 (lv_at hl 0 rfl) ?_
                  refine lv_iload hx hb dX10_round_194 (lv_at hl 7 rfl) ?_
                  refine lv_icmp_ge (tgt := 204) hx hb dX10_round_196 (by decide) (fun c196 => ?_) (fun c196 => ?_)
                  · refine lv_iload hx hb dX10_round_204 (lv_at hl 7 rfl) ?_
                    refine lv_istore (lv' := [(6, .int be), (8, .int 100000), (0, .ref q0), (1, .int x), (2, .int (nI u)), (3, .int (nI st)), (4, .int (nI k)), (5, .int (nI (oth st k))), (7, .int (nI jj))]) hx hb dX10_round_206 hl (by decide) rfl (fun ls hl => ?_)
                    refine lv_iinc (v := nI (jj + 1)) (lv' := [(7, .int (nI (jj + 1))), (6, .int be), (8, .int 100000), (0, .ref q0), (1, .int x), (2, .int (nI u)), (3, .int (nI st)), (4, .int (nI k)), (5, .int (nI (oth st k)))]) hx hb dX10_round_208 hl (k := 8) rfl (nI_1 jj) (by decide) rfl (fun ls hl => ?_)
                    refine lv_goto (tgt := 136) hx hb dX10_round_211 (by decide) ?_
                    have hb9 := hbe
                    rw [rbM] at hb9
                    exact ih_136 (jj + 1) be hku (by omega) hot (by rw [rbM, it_s]; simp only [← hb9]; simp [rvM, c139, c150, c196]) (by omega) _ _ hP hD hS ls (lv_sub hl [3, 4, 5, 6, 7, 8, 1, 0] rfl)
                  · refine lv_iload hx hb dX10_round_199 (lv_at hl 0 rfl) ?_
                    refine lv_goto (tgt := 206) hx hb dX10_round_201 (by decide) ?_
                    refine lv_istore (lv' := [(6, .int 100000), (8, .int 100000), (0, .ref q0), (1, .int x), (2, .int (nI u)), (3, .int (nI st)), (4, .int (nI k)), (5, .int (nI (oth st k))), (7, .int (nI jj))]) hx hb dX10_round_206 hl (by decide) rfl (fun ls hl => ?_)
                    refine lv_iinc (v := nI (jj + 1)) (lv' := [(7, .int (nI (jj + 1))), (6, .int 100000), (8, .int 100000), (0, .ref q0), (1, .int x), (2, .int (nI u)), (3, .int (nI st)), (4, .int (nI k)), (5, .int (nI (oth st k)))]) hx hb dX10_round_208 hl (k := 8) rfl (nI_1 jj) (by decide) rfl (fun ls hl => ?_)
                    refine lv_goto (tgt := 136) hx hb dX10_round_211 (by decide) ?_
                    have hb9 := hbe
                    rw [rbM] at hb9
                    exact ih_136 (jj + 1) 100000 hku (by omega) hot (by rw [rbM, it_s]; simp only [← hb9]; simp [rvM, c139, c150, c196]) (by omega) _ _ hP hD hS ls (lv_sub hl [3, 4, 5, 6, 7, 8, 1, 0] rfl)
                · have c150 : gbt (nI (oth st k)) jj = true := by simp [gbt, c150]
                  refine lv_aload_n hx hb dX10_round_153 rfl (lv_at hl 0 rfl) ?_
                  refine va_get hx hb hts inlX10 hown hE.1 hP 0 rfl rfl 20 (by decide) (fl_X10_50 hts) (fun _ h9 => h9) rfl dX10_round_154 ?_
                  refine lv_bipush (v := 8) hx hb dX10_round_157 (by decide) ?_
                  refine lv_iload hx hb dX10_round_159 (lv_at hl 5 rfl) ?_
                  refine lv_imul hx hb dX10_round_161 ?_
                  rw [show (8 : Int32) * (nI (oth st k)) = nI (8 * (oth st k)) from pk_mul 8 (oth st k)]
                  refine lv_iload hx hb dX10_round_162 (lv_at hl 7 rfl) ?_
                  refine lv_iadd hx hb dX10_round_164 ?_
                  rw [show (nI (8 * (oth st k))) + (nI jj) = nI (8 * (oth st k) + jj) from nI_add (8 * (oth st k)) jj]
                  refine va_iald hx hb hE.1 hP 14 0 rfl rfl (vp_in_nI (by omega) (by omega)) dX10_round_165 ?_
                  rw [nI_clamp (show 8 * (oth st k) + jj < 2 ^ 31 by omega)]
                  refine lv_aload_n hx hb dX10_round_166 rfl (lv_at hl 0 rfl) ?_
                  refine lv_aload_n hx hb dX10_round_167 rfl (lv_at hl 0 rfl) ?_
                  refine va_get hx hb hts inlX10 hown hE.1 hP 0 rfl rfl 19 (by decide) (fl_X10_47 hts) (fun _ h9 => h9) rfl dX10_round_168 ?_
                  refine lv_iload hx hb dX10_round_171 (lv_at hl 7 rfl) ?_
                  refine va_iald hx hb hE.1 hP 13 0 rfl rfl (vp_in_nI (by omega) (by omega)) dX10_round_173 ?_
                  rw [nI_clamp (show jj < 2 ^ 31 by omega)]
                  refine lv_aload_n hx hb dX10_round_174 rfl (lv_at hl 0 rfl) ?_
                  refine va_get hx hb hts inlX10 hown hE.1 hP 0 rfl rfl 19 (by decide) (fl_X10_47 hts) (fun _ h9 => h9) rfl dX10_round_175 ?_
                  refine lv_iload hx hb dX10_round_178 (lv_at hl 4 rfl) ?_
                  refine va_iald hx hb hE.1 hP 13 0 rfl rfl (vp_in_nI (by omega) (by omega)) dX10_round_180 ?_
                  rw [nI_clamp (show k < 2 ^ 31 by omega)]
                  refine rd_callV (As := [.int (S1 jj), .int (S1 k)]) (rest := [.int (t2 (8 * (oth st k) + jj))]) hx hb hml hown hts (hE.at0 hS) hl.1 (c_X10_apart l G q0 q1 q2 q3 q4 q5 q6 q7 q8 q9 q10 q11 q12 q13 q14 tx ro co mp my md mr dr nw tk cs sa S1 t2 ty dm at_ so de ke sm nr nc (S1 jj) (S1 k) (by first | assumption | omega) (by first | assumption | omega) (by first | assumption | omega) (by first | assumption | omega)) (cw_X10_184 hts) ⟨(Nat.le_of_ble_eq_true rfl), (Nat.le_of_ble_eq_true rfl)⟩ ⟨Nat.zero_le _, Nat.zero_le _⟩ rfl (sub_P hP [0, 1, 2, 3, 4, 5, 6, 7, 8, 9, 10, 11, 12, 13, 14] rfl) rfl rfl rfl rfl (Nat.le_of_ble_eq_true rfl) dX10_round_181 ?_
                  refine lv_iadd hx hb dX10_round_184 ?_
                  refine lv_goto (tgt := 190) hx hb dX10_round_185 (by decide) ?_
                  refine lv_istore (lv' := [(8, .int ((t2 (8 * (oth st k) + jj)) + (apM nc (S1 jj) (S1 k)))), (0, .ref q0), (1, .int x), (2, .int (nI u)), (3, .int (nI st)), (4, .int (nI k)), (5, .int (nI (oth st k))), (6, .int be), (7, .int (nI jj))]) hx hb dX10_round_190 hl (by decide) rfl (fun ls hl => ?_)
                  refine lv_iload hx hb dX10_round_192 (lv_at hl 0 rfl) ?_
                  refine lv_iload hx hb dX10_round_194 (lv_at hl 7 rfl) ?_
                  refine lv_icmp_ge (tgt := 204) hx hb dX10_round_196 (by decide) (fun c196 => ?_) (fun c196 => ?_)
                  · refine lv_iload hx hb dX10_round_204 (lv_at hl 7 rfl) ?_
                    refine lv_istore (lv' := [(6, .int be), (8, .int ((t2 (8 * (oth st k) + jj)) + (apM nc (S1 jj) (S1 k)))), (0, .ref q0), (1, .int x), (2, .int (nI u)), (3, .int (nI st)), (4, .int (nI k)), (5, .int (nI (oth st k))), (7, .int (nI jj))]) hx hb dX10_round_206 hl (by decide) rfl (fun ls hl => ?_)
                    refine lv_iinc (v := nI (jj + 1)) (lv' := [(7, .int (nI (jj + 1))), (6, .int be), (8, .int ((t2 (8 * (oth st k) + jj)) + (apM nc (S1 jj) (S1 k)))), (0, .ref q0), (1, .int x), (2, .int (nI u)), (3, .int (nI st)), (4, .int (nI k)), (5, .int (nI (oth st k)))]) hx hb dX10_round_208 hl (k := 8) rfl (nI_1 jj) (by decide) rfl (fun ls hl => ?_)
                    refine lv_goto (tgt := 136) hx hb dX10_round_211 (by decide) ?_
                    have hb9 := hbe
                    rw [rbM] at hb9
                    exact ih_136 (jj + 1) be hku (by omega) hot (by rw [rbM, it_s]; simp only [← hb9]; simp [rvM, c139, c150, c196]) (by omega) _ _ hP hD hS ls (lv_sub hl [3, 4, 5, 6, 7, 8, 1, 0] rfl)
                  · refine lv_iload hx hb dX10_round_199 (lv_at hl 0 rfl) ?_
                    refine lv_goto (tgt := 206) hx hb dX10_round_201 (by decide) ?_
                    refine lv_istore (lv' := [(6, .int ((t2 (8 * (oth st k) + jj)) + (apM nc (S1 jj) (S1 k)))), (8, .int ((t2 (8 * (oth st k) + jj)) + (apM nc (S1 jj) (S1 k)))), (0, .ref q0), (1, .int x), (2, .int (nI u)), (3, .int (nI st)), (4, .int (nI k)), (5, .int (nI (oth st k))), (7, .int (nI jj))]) hx hb dX10_round_206 hl (by decide) rfl (fun ls hl => ?_)
                    refine lv_iinc (v := nI (jj + 1)) (lv' := [(7, .int (nI (jj + 1))), (6, .int ((t2 (8 * (oth st k) + jj)) + (apM nc (S1 jj) (S1 k)))), (8, .int ((t2 (8 * (oth st k) + jj)) + (apM nc (S1 jj) (S1 k)))), (0, .ref q0), (1, .int x), (2, .int (nI u)), (3, .int (nI st)), (4, .int (nI k)), (5, .int (nI (oth st k)))]) hx hb dX10_round_208 hl (k := 8) rfl (nI_1 jj) (by decide) rfl (fun ls hl => ?_)
                    refine lv_goto (tgt := 136) hx hb dX10_round_211 (by decide) ?_
                    have hb9 := hbe
                    rw [rbM] at hb9
                    exact ih_136 (jj + 1) ((t2 (8 * (oth st k) + jj)) + (apM nc (S1 jj) (S1 k))) hku (by omega) hot (by rw [rbM, it_s]; simp only [← hb9]; simp [rvM, c139, c150, c196]) (by omega) _ _ hP hD hS ls (lv_sub hl [3, 4, 5, 6, 7, 8, 1, 0] rfl)
          have J_131 : ∀ (b0 : Int32) (hku : k < u) (hb0 : b0 = rb0 nc S1 x (oth st k) k), ∀ (H : Heap) (locs : List Loc), va_P G.1 vwCl [(q0, .inr (10, [.ref q1, .int (nI ty), .ref q2, .ref q3, .ref q4, .ref q5, .ref q6, .ref q7, .ref q8, .int (nI dm), .int (nI at_), .int (zb so), .ref q9, .int (nI de), .int (nI ke), .ref q10, .ref q11, .ref q12, .int (nI sm), .ref q13, .ref q14])), (q1, .inl (kB G, 200, .inl tx)), (q2, .inl (kI G, 2, .inl ro)), (q3, .inl (kI G, 2, .inl co)), (q4, .inl (kI G, 2, .inl mp)), (q5, .inl (kI G, 10, .inl my)), (q6, .inl (kI G, 10, .inl md)), (q7, .inl (kI G, 10, .inl mr)), (q8, .inl (kI G, 40, .inl dr)), (q9, .inl (kI G, 504, .inl nw)), (q10, .inl (kI G, 64, .inl tk)), (q11, .inl (kI G, 64, .inl cs)), (q12, .inl (kI G, 12, .inl sa)), (q13, .inl (kI G, 8, .inl S1)), (q14, .inl (kI G, 2048, .inl t2))] H → va_D A [(q0, .inr (10, [.ref q1, .int (nI ty), .ref q2, .ref q3, .ref q4, .ref q5, .ref q6, .ref q7, .ref q8, .int (nI dm), .int (nI at_), .int (zb so), .ref q9, .int (nI de), .int (nI ke), .ref q10, .ref q11, .ref q12, .int (nI sm), .ref q13, .ref q14])), (q1, .inl (kB G, 200, .inl tx)), (q2, .inl (kI G, 2, .inl ro)), (q3, .inl (kI G, 2, .inl co)), (q4, .inl (kI G, 2, .inl mp)), (q5, .inl (kI G, 10, .inl my)), (q6, .inl (kI G, 10, .inl md)), (q7, .inl (kI G, 10, .inl mr)), (q8, .inl (kI G, 40, .inl dr)), (q9, .inl (kI G, 504, .inl nw)), (q10, .inl (kI G, 64, .inl tk)), (q11, .inl (kI G, 64, .inl cs)), (q12, .inl (kI G, 12, .inl sa)), (q13, .inl (kI G, 8, .inl S1)), (q14, .inl (kI G, 2048, .inl t2))] → va_S A s.heap H locs → ∀ ls : Array Slot, lv_has ls 9 [(0, .ref q0), (1, .int x), (2, .int (nI u)), (3, .int (nI st)), (4, .int (nI k)), (5, .int (nI (oth st k)))] → WC p l e (rmz 2 43) s m [.ref q0, .int x] below meth c G A (fun v9 w9 => v9 = (some (.int (roR nc (cel nw 0) (fal nw 0) n (nw 0) go to x))) ∧ ∃ (go9 : Nat → Int32) (to9 : Nat → Int32), w9 = [(q0, .inr (10, [.ref q1, .int (nI ty), .ref q2, .ref q3, .ref q4, .ref q5, .ref q6, .ref q7, .ref q8, .int (nI dm), .int (nI at_), .int (zb so), .ref q9, .int (nI de), .int (nI ke), .ref q10, .ref q11, .ref q12, .int (nI sm), .ref q13, .ref q14])), (q1, .inl (kB G, 200, .inl tx)), (q2, .inl (kI G, 2, .inl ro)), (q3, .inl (kI G, 2, .inl co)), (q4, .inl (kI G, 2, .inl mp)), (q5, .inl (kI G, 10, .inl my)), (q6, .inl (kI G, 10, .inl md)), (q7, .inl (kI G, 10, .inl mr)), (q8, .inl (kI G, 40, .inl dr)), (q9, .inl (kI G, 504, .inl nw)), (q10, .inl (kI G, 64, .inl tk)), (q11, .inl (kI G, 64, .inl cs)), (q12, .inl (kI G, 12, .inl sa)), (q13, .inl (kI G, 8, .inl go9)), (q14, .inl (kI G, 2048, .inl to9))]) H locs 0 0 (F0 m 131 ls [.int b0]) := by
            intro b0 hku hb0 H locs hP hD hS ls hl
            refine lv_istore (lv' := [(6, .int b0), (0, .ref q0), (1, .int x), (2, .int (nI u)), (3, .int (nI st)), (4, .int (nI k)), (5, .int (nI (oth st k)))]) hx hb dX10_round_131 hl (by decide) rfl (fun ls hl => ?_)
            refine lv_iconst (v := 0) hx hb dX10_round_133 (by decide) ?_
            refine lv_istore (lv' := [(7, .int 0), (6, .int b0), (0, .ref q0), (1, .int x), (2, .int (nI u)), (3, .int (nI st)), (4, .int (nI k)), (5, .int (nI (oth st k)))]) hx hb dX10_round_134 hl (by decide) rfl (fun ls hl => ?_)
            exact J_136 (u - 0 + 1) 0 b0 hku (Nat.zero_le _) (oth_all st (by omega) k (by omega)).2 (by rw [hb0]; rfl) (Nat.lt_succ_self _) _ _ hP hD hS ls (lv_sub hl [2, 3, 4, 5, 6, 7, 1, 0] rfl)
          refine lv_iload hx hb dX10_round_93 (lv_at hl 4 rfl) ?_
          refine lv_iload_n hx hb dX10_round_95 rfl (lv_at hl 2 rfl) ?_
          refine lv_icmp_ge (tgt := 249) hx hb dX10_round_96 (by decide) (fun c96 => ?_) (fun c96 => ?_)
          · have hkn : u ≤ k := le_of_le (by omega) (by omega) c96
            refine lv_iinc (v := nI (st + 1)) (lv' := [(3, .int (nI (st + 1))), (0, .ref q0), (1, .int x), (2, .int (nI u)), (4, .int (nI k))]) hx hb dX10_round_249 hl (k := 3) rfl (nI_1 st) (by decide) rfl (fun ls hl => ?_)
            refine lv_goto (tgt := 83) hx hb dX10_round_252 (by decide) ?_
            exact ih_83 (st + 1) S1 u t2 hu (by first | exact c75 | exact hu0) hL9 (by omega) (by omega) (by rw [show st + 1 - 1 = (st - 1) + 1 by omega, roO_s, ← hB, show st - 1 + 1 = st by omega, hB2, show k = u by omega]) (by omega) _ _ hP hD hS ls (lv_sub hl [1, 2, 3, 0] rfl)
          · have hkn : k < u := lt_of_nle (by omega) (by omega) c96
            refine lv_iload_n hx hb dX10_round_99 rfl (lv_at hl 3 rfl) ?_
            refine lv_iconst (v := 1) hx hb dX10_round_100 (by decide) ?_
            refine lv_iload hx hb dX10_round_101 (lv_at hl 4 rfl) ?_
            refine lv_ishl hx hb dX10_round_103 ?_
            refine lv_iconst (v := -1) hx hb dX10_round_104 (by decide) ?_
            refine lv_ixor hx hb dX10_round_105 ?_
            refine lv_iand hx hb dX10_round_106 ?_
            rw [show ((nI st) &&& ((1 <<< ((nI k) &&& 31)) ^^^ (-1))) = nI (oth st k) from (oth_all st (by omega) k (by omega)).1]
            refine lv_istore (lv' := [(5, .int (nI (oth st k))), (0, .ref q0), (1, .int x), (2, .int (nI u)), (3, .int (nI st)), (4, .int (nI k))]) hx hb dX10_round_107 hl (by decide) rfl (fun ls hl => ?_)
            refine lv_iload hx hb dX10_round_109 (lv_at hl 0 rfl) ?_
            refine lv_if_ne (tgt := 129) hx hb dX10_round_111 (by decide) (fun c111 => ?_) (fun c111 => ?_)
            · have c111 : ¬ oth st k = 0 := fun z => c111 (by rw [z]; rfl)
              refine lv_ldc hx hb hown (cn_X10_57 hts) dX10_round_129 ?_
              exact J_131 100000 hkn (by simp [rb0, c96, c111]) _ _ hP hD hS ls (lv_sub hl [1, 2, 3, 4, 5, 0] rfl)
            · have c111 : oth st k = 0 := (nI_eq (a := oth st k) (b := 0) (by have := (oth_all st (by omega) k (by omega)).2; omega) (by decide)).mp c111
              refine lv_aload_n hx hb dX10_round_114 rfl (lv_at hl 1 rfl) ?_
              refine lv_iload_n hx hb dX10_round_115 rfl (lv_at hl 2 rfl) ?_
              refine lv_aload_n hx hb dX10_round_116 rfl (lv_at hl 1 rfl) ?_
              refine va_get hx hb hts inlX10 hown hE.1 hP 0 rfl rfl 19 (by decide) (fl_X10_47 hts) (fun _ h9 => h9) rfl dX10_round_117 ?_
              refine lv_iload hx hb dX10_round_120 (lv_at hl 5 rfl) ?_
              refine va_iald hx hb hE.1 hP 13 0 rfl rfl (vp_in_nI (by omega) (by omega)) dX10_round_122 ?_
              rw [nI_clamp (show k < 2 ^ 31 by omega)]
              refine rd_callV (As := [.int x, .int (S1 k)]) (rest := []) hx hb hml hown hts (hE.at0 hS) hl.1 (c_X10_apart l G q0 q1 q2 q3 q4 q5 q6 q7 q8 q9 q10 q11 q12 q13 q14 tx ro co mp my md mr dr nw tk cs sa S1 t2 ty dm at_ so de ke sm nr nc x (S1 k) (by first | assumption | omega) (by first | assumption | omega) (by first | assumption | omega) (by first | assumption | omega)) (cw_X10_184 hts) ⟨(Nat.le_of_ble_eq_true rfl), (Nat.le_of_ble_eq_true rfl)⟩ ⟨Nat.zero_le _, Nat.zero_le _⟩ rfl (sub_P hP [0, 1, 2, 3, 4, 5, 6, 7, 8, 9, 10, 11, 12, 13, 14] rfl) rfl rfl rfl rfl (Nat.le_of_ble_eq_true rfl) dX10_round_123 ?_
              refine lv_goto (tgt := 131) hx hb dX10_round_126 (by decide) ?_
              exact J_131 (apM nc x (S1 k)) hkn (by simp [rb0, c96, c111]) _ _ hP hD hS ls (lv_sub hl [1, 2, 3, 4, 5, 0] rfl)
      refine lv_iload_n hx hb dX10_round_83 rfl (lv_at hl 3 rfl) ?_
      refine lv_iconst (v := 1) hx hb dX10_round_84 (by decide) ?_
      refine lv_iload_n hx hb dX10_round_85 rfl (lv_at hl 2 rfl) ?_
      refine lv_ishl hx hb dX10_round_86 ?_
      rw [show (1 <<< ((nI u) &&& 31)) = nI (2 ^ u) from all_p2 u (by omega)]
      refine lv_icmp_ge (tgt := 255) hx hb dX10_round_87 (by decide) (fun c87 => ?_) (fun c87 => ?_)
      · have hp8 := p2_le hu
        have hsx : 2 ^ u ≤ st := le_of_le (by omega) (by omega) c87
        refine lv_ldc hx hb hown (cn_X10_57 hts) dX10_round_255 ?_
        refine lv_istore_n (lv' := [(3, .int 100000), (0, .ref q0), (1, .int x), (2, .int (nI u))]) hx hb dX10_round_257 rfl hl (by decide) rfl (fun ls hl => ?_)
        refine lv_iconst (v := 0) hx hb dX10_round_258 (by decide) ?_
        refine lv_istore (lv' := [(4, .int 0), (3, .int 100000), (0, .ref q0), (1, .int x), (2, .int (nI u))]) hx hb dX10_round_259 hl (by decide) rfl (fun ls hl => ?_)
        exact J_261 (u - 0 + 1) 0 100000 S1 u t1 hu (by first | exact c75 | exact hu0) hL9 (by first | assumption | omega | rfl) (by first | assumption | omega | rfl) (by rw [hB, show st = 2 ^ u by omega]) rfl (Nat.lt_succ_self _) _ _ hP hD hS ls (lv_sub hl [2, 3, 4, 1, 0] rfl)
      · have hp8 := p2_le hu
        have hsu : st < 2 ^ u := lt_of_nle (by omega) (by omega) c87
        refine lv_iconst (v := 0) hx hb dX10_round_90 (by decide) ?_
        refine lv_istore (lv' := [(4, .int 0), (0, .ref q0), (1, .int x), (2, .int (nI u)), (3, .int (nI st))]) hx hb dX10_round_91 hl (by decide) rfl (fun ls hl => ?_)
        exact J_93 (u - 0 + 1) 0 t1 (by first | assumption | omega | rfl) (by first | assumption | omega | rfl) (by first | assumption | omega | rfl) rfl (Nat.lt_succ_self _) _ _ hP hD hS ls (lv_sub hl [1, 2, 3, 4, 0] rfl)
  have J_14 : ∀ (n_ : Nat) (k : Nat) (S1 : Nat → Int32) (u : Nat) (hk : k ≤ n) (hu : u ≤ 8) (hL : (S1, u) = rdA (cel nw 0) (fal nw 0) (nw 0) go k) (hm_14 : n - k < n_), ∀ (H : Heap) (locs : List Loc), va_P G.1 vwCl [(q0, .inr (10, [.ref q1, .int (nI ty), .ref q2, .ref q3, .ref q4, .ref q5, .ref q6, .ref q7, .ref q8, .int (nI dm), .int (nI at_), .int (zb so), .ref q9, .int (nI de), .int (nI ke), .ref q10, .ref q11, .ref q12, .int (nI sm), .ref q13, .ref q14])), (q1, .inl (kB G, 200, .inl tx)), (q2, .inl (kI G, 2, .inl ro)), (q3, .inl (kI G, 2, .inl co)), (q4, .inl (kI G, 2, .inl mp)), (q5, .inl (kI G, 10, .inl my)), (q6, .inl (kI G, 10, .inl md)), (q7, .inl (kI G, 10, .inl mr)), (q8, .inl (kI G, 40, .inl dr)), (q9, .inl (kI G, 504, .inl nw)), (q10, .inl (kI G, 64, .inl tk)), (q11, .inl (kI G, 64, .inl cs)), (q12, .inl (kI G, 12, .inl sa)), (q13, .inl (kI G, 8, .inl S1)), (q14, .inl (kI G, 2048, .inl to))] H → va_D A [(q0, .inr (10, [.ref q1, .int (nI ty), .ref q2, .ref q3, .ref q4, .ref q5, .ref q6, .ref q7, .ref q8, .int (nI dm), .int (nI at_), .int (zb so), .ref q9, .int (nI de), .int (nI ke), .ref q10, .ref q11, .ref q12, .int (nI sm), .ref q13, .ref q14])), (q1, .inl (kB G, 200, .inl tx)), (q2, .inl (kI G, 2, .inl ro)), (q3, .inl (kI G, 2, .inl co)), (q4, .inl (kI G, 2, .inl mp)), (q5, .inl (kI G, 10, .inl my)), (q6, .inl (kI G, 10, .inl md)), (q7, .inl (kI G, 10, .inl mr)), (q8, .inl (kI G, 40, .inl dr)), (q9, .inl (kI G, 504, .inl nw)), (q10, .inl (kI G, 64, .inl tk)), (q11, .inl (kI G, 64, .inl cs)), (q12, .inl (kI G, 12, .inl sa)), (q13, .inl (kI G, 8, .inl S1)), (q14, .inl (kI G, 2048, .inl to))] → va_S A s.heap H locs → ∀ ls : Array Slot, lv_has ls 9 [(0, .ref q0), (1, .int x), (2, .int (nI u)), (3, .int (nI k))] → WC p l e (rmz 2 43) s m [.ref q0, .int x] below meth c G A (fun v9 w9 => v9 = (some (.int (roR nc (cel nw 0) (fal nw 0) n (nw 0) go to x))) ∧ ∃ (go9 : Nat → Int32) (to9 : Nat → Int32), w9 = [(q0, .inr (10, [.ref q1, .int (nI ty), .ref q2, .ref q3, .ref q4, .ref q5, .ref q6, .ref q7, .ref q8, .int (nI dm), .int (nI at_), .int (zb so), .ref q9, .int (nI de), .int (nI ke), .ref q10, .ref q11, .ref q12, .int (nI sm), .ref q13, .ref q14])), (q1, .inl (kB G, 200, .inl tx)), (q2, .inl (kI G, 2, .inl ro)), (q3, .inl (kI G, 2, .inl co)), (q4, .inl (kI G, 2, .inl mp)), (q5, .inl (kI G, 10, .inl my)), (q6, .inl (kI G, 10, .inl md)), (q7, .inl (kI G, 10, .inl mr)), (q8, .inl (kI G, 40, .inl dr)), (q9, .inl (kI G, 504, .inl nw)), (q10, .inl (kI G, 64, .inl tk)), (q11, .inl (kI G, 64, .inl cs)), (q12, .inl (kI G, 12, .inl sa)), (q13, .inl (kI G, 8, .inl go9)), (q14, .inl (kI G, 2048, .inl to9))]) H locs 0 0 (F0 m 14 ls []) := by
    intro n_
    induction n_ with
    | zero =>
      intro k S1 u hk hu hL hm_14
      exact absurd hm_14 (Nat.not_lt_zero _)
    | succ n_ ih_14 =>
      intro k S1 u hk hu hL hm_14 H locs hP hD hS ls hl
      refine lv_iload_n hx hb dX10_round_14 rfl (lv_at hl 3 rfl) ?_
      refine lv_aload_n hx hb dX10_round_15 rfl (lv_at hl 0 rfl) ?_
      refine va_get hx hb hts inlX10 hown hE.1 hP 0 rfl rfl 12 (by decide) (fl_X10_35 hts) (fun _ h9 => h9) rfl dX10_round_16 ?_
      refine lv_iconst (v := 1) hx hb dX10_round_19 (by decide) ?_
      refine va_iald hx hb hE.1 hP 9 0 rfl rfl (inB_iff.mp (by decide)) dX10_round_20 ?_
      rw [show (1 : Int32).toNatClampNeg = 1 from rfl]
      rw [hn1]
      refine lv_icmp_ge (tgt := 74) hx hb dX10_round_21 (by decide) (fun c21 => ?_) (fun c21 => ?_)
      · have hkn : n ≤ k := le_of_le (by omega) (by omega) c21
        have hL9 : (S1, u) = rdA (cel nw 0) (fal nw 0) (nw 0) go n := by rw [hL, show k = n by omega]
        refine lv_iload_n hx hb dX10_round_74 rfl (lv_at hl 2 rfl) ?_
        refine lv_if_ne (tgt := 81) hx hb dX10_round_75 (by decide) (fun c75 => ?_) (fun c75 => ?_)
        · have c75 : ¬ u = 0 := fun z => c75 (by rw [z]; rfl)
          have hp8 := p2_le hu
          refine lv_iconst (v := 1) hx hb dX10_round_81 (by decide) ?_
          refine lv_istore_n (lv' := [(3, .int 1), (0, .ref q0), (1, .int x), (2, .int (nI u))]) hx hb dX10_round_82 rfl hl (by decide) rfl (fun ls hl => ?_)
          exact J_83 (2 ^ u - 1 + 1) 1 S1 u to hu (by first | exact c75 | exact hu0) hL9 (by decide) (Nat.pow_pos (by decide)) rfl (Nat.lt_succ_self _) _ _ hP hD hS ls (lv_sub hl [1, 2, 3, 0] rfl)
        · have c75 : u = 0 := (nI_eq (a := u) (b := 0) (by omega) (by decide)).mp c75
          refine lv_bipush (v := -4) hx hb dX10_round_78 (by decide) ?_
          exact ct_iret hx hb hr hlk dX10_round_80 hP hD hS (by refine ⟨?_, _, _, rfl⟩; rw [roR, ← hL9]; simp only; rw [if_neg (by omega), if_pos c75])
      · have hkn : k < n := lt_of_nle (by omega) (by omega) c21
        refine lv_aload_n hx hb dX10_round_24 rfl (lv_at hl 0 rfl) ?_
        refine va_get hx hb hts inlX10 hown hE.1 hP 0 rfl rfl 12 (by decide) (fl_X10_35 hts) (fun _ h9 => h9) rfl dX10_round_25 ?_
        refine lv_bipush (v := 22) hx hb dX10_round_28 (by decide) ?_
        refine lv_iload_n hx hb dX10_round_30 rfl (lv_at hl 3 rfl) ?_
        refine lv_iadd hx hb dX10_round_31 ?_
        rw [show (22 : Int32) + (nI k) = nI (22 + k) from nI_add 22 k]
        refine va_iald hx hb hE.1 hP 9 0 rfl rfl (vp_in_nI (by omega) (by omega)) dX10_round_32 ?_
        rw [nI_clamp (show 22 + k < 2 ^ 31 by omega)]
        refine lv_aload_n hx hb dX10_round_33 rfl (lv_at hl 0 rfl) ?_
        refine va_get hx hb hts inlX10 hown hE.1 hP 0 rfl rfl 12 (by decide) (fl_X10_35 hts) (fun _ h9 => h9) rfl dX10_round_34 ?_
        refine lv_iconst (v := 0) hx hb dX10_round_37 (by decide) ?_
        refine va_iald hx hb hE.1 hP 9 0 rfl rfl (inB_iff.mp (by decide)) dX10_round_38 ?_
        rw [show (0 : Int32).toNatClampNeg = 0 from rfl]
        refine lv_icmp_ne (tgt := 68) hx hb dX10_round_39 (by decide) (fun c39 => ?_) (fun c39 => ?_)
        · refine lv_iinc (v := nI (k + 1)) (lv' := [(3, .int (nI (k + 1))), (0, .ref q0), (1, .int x), (2, .int (nI u))]) hx hb dX10_round_68 hl (k := 3) rfl (nI_1 k) (by decide) rfl (fun ls hl => ?_)
          refine lv_goto (tgt := 14) hx hb dX10_round_71 (by decide) ?_
          have hL0 := hL
          rw [rdA] at hL0
          exact ih_14 (k + 1) S1 u (by first | assumption | omega | rfl) (by omega) (by rw [rdA, it_s]; simp only [← hL0]; simp [cel, fal, c21, c39]) (by omega) _ _ hP hD hS ls (lv_sub hl [1, 2, 3, 0] rfl)
        · refine lv_iload_n hx hb dX10_round_42 rfl (lv_at hl 2 rfl) ?_
          refine lv_bipush (v := 8) hx hb dX10_round_43 (by decide) ?_
          refine lv_icmp_ne (tgt := 51) hx hb dX10_round_45 (by decide) (fun c45 => ?_) (fun c45 => ?_)
          · have c45 : ¬ u = 8 := fun z => c45 (by rw [z]; rfl)
            refine lv_aload_n hx hb dX10_round_51 rfl (lv_at hl 0 rfl) ?_
            refine va_get hx hb hts inlX10 hown hE.1 hP 0 rfl rfl 19 (by decide) (fl_X10_47 hts) (fun _ h9 => h9) rfl dX10_round_52 ?_
            refine lv_iload_n hx hb dX10_round_55 rfl (lv_at hl 2 rfl) ?_
            refine lv_aload_n hx hb dX10_round_56 rfl (lv_at hl 0 rfl) ?_
            refine va_get hx hb hts inlX10 hown hE.1 hP 0 rfl rfl 12 (by decide) (fl_X10_35 hts) (fun _ h9 => h9) rfl dX10_round_57 ?_
            refine lv_iconst (v := 2) hx hb dX10_round_60 (by decide) ?_
            refine lv_iload_n hx hb dX10_round_61 rfl (lv_at hl 3 rfl) ?_
            refine lv_iadd hx hb dX10_round_62 ?_
            rw [show (2 : Int32) + (nI k) = nI (2 + k) from nI_add 2 k]
            refine va_iald hx hb hE.1 hP 9 0 rfl rfl (vp_in_nI (by omega) (by omega)) dX10_round_63 ?_
            rw [nI_clamp (show 2 + k < 2 ^ 31 by omega)]
            refine va_iast hx hb hE.1 hP hD hS 13 0 rfl rfl (vp_in_nI (by omega) (by omega)) dX10_round_64 (fun H locs hP hD hS => ?_)
            rw [nI_clamp (show u < 2 ^ 31 by omega)] at hP hD
            have hP : va_P G.1 vwCl [(q0, .inr (10, [.ref q1, .int (nI ty), .ref q2, .ref q3, .ref q4, .ref q5, .ref q6, .ref q7, .ref q8, .int (nI dm), .int (nI at_), .int (zb so), .ref q9, .int (nI de), .int (nI ke), .ref q10, .ref q11, .ref q12, .int (nI sm), .ref q13, .ref q14])), (q1, .inl (kB G, 200, .inl tx)), (q2, .inl (kI G, 2, .inl ro)), (q3, .inl (kI G, 2, .inl co)), (q4, .inl (kI G, 2, .inl mp)), (q5, .inl (kI G, 10, .inl my)), (q6, .inl (kI G, 10, .inl md)), (q7, .inl (kI G, 10, .inl mr)), (q8, .inl (kI G, 40, .inl dr)), (q9, .inl (kI G, 504, .inl nw)), (q10, .inl (kI G, 64, .inl tk)), (q11, .inl (kI G, 64, .inl cs)), (q12, .inl (kI G, 12, .inl sa)), (q13, .inl (kI G, 8, .inl (upd S1 u (nw (2 + k))))), (q14, .inl (kI G, 2048, .inl to))] H := hP
            have hD : va_D A [(q0, .inr (10, [.ref q1, .int (nI ty), .ref q2, .ref q3, .ref q4, .ref q5, .ref q6, .ref q7, .ref q8, .int (nI dm), .int (nI at_), .int (zb so), .ref q9, .int (nI de), .int (nI ke), .ref q10, .ref q11, .ref q12, .int (nI sm), .ref q13, .ref q14])), (q1, .inl (kB G, 200, .inl tx)), (q2, .inl (kI G, 2, .inl ro)), (q3, .inl (kI G, 2, .inl co)), (q4, .inl (kI G, 2, .inl mp)), (q5, .inl (kI G, 10, .inl my)), (q6, .inl (kI G, 10, .inl md)), (q7, .inl (kI G, 10, .inl mr)), (q8, .inl (kI G, 40, .inl dr)), (q9, .inl (kI G, 504, .inl nw)), (q10, .inl (kI G, 64, .inl tk)), (q11, .inl (kI G, 64, .inl cs)), (q12, .inl (kI G, 12, .inl sa)), (q13, .inl (kI G, 8, .inl (upd S1 u (nw (2 + k))))), (q14, .inl (kI G, 2048, .inl to))] := hD
            refine lv_iinc (v := nI (u + 1)) (lv' := [(2, .int (nI (u + 1))), (0, .ref q0), (1, .int x), (3, .int (nI k))]) hx hb dX10_round_65 hl (k := 2) rfl (nI_1 u) (by decide) rfl (fun ls hl => ?_)
            refine lv_iinc (v := nI (k + 1)) (lv' := [(3, .int (nI (k + 1))), (2, .int (nI (u + 1))), (0, .ref q0), (1, .int x)]) hx hb dX10_round_68 hl (k := 3) rfl (nI_1 k) (by decide) rfl (fun ls hl => ?_)
            refine lv_goto (tgt := 14) hx hb dX10_round_71 (by decide) ?_
            have hL0 := hL
            rw [rdA] at hL0
            exact ih_14 (k + 1) (upd S1 u (nw (2 + k))) (u + 1) (by first | assumption | omega | rfl) (by omega) (by rw [rdA, it_s]; simp only [← hL0]; simp [cel, fal, c21, c39, c45]) (by omega) _ _ hP hD hS ls (lv_sub hl [2, 3, 1, 0] rfl)
          · have c45 : u = 8 := (nI_eq (a := u) (b := 8) (by omega) (by decide)).mp c45
            refine lv_bipush (v := -4) hx hb dX10_round_48 (by decide) ?_
            exact ct_iret hx hb hr hlk dX10_round_50 hP hD hS (by refine ⟨?_, _, _, rfl⟩; have hm := rdA_m (cel nw 0) (fal nw 0) (nw 0) go (k + 1) (n - (k + 1)); rw [show k + 1 + (n - (k + 1)) = n by omega] at hm; have h9 : (rdA (cel nw 0) (fal nw 0) (nw 0) go (k + 1)).2 = u + 1 := (by have hL0 := hL; rw [rdA] at hL0; rw [rdA, it_s]; simp only [← hL0]; simp [fal, c39]); rw [roR, if_pos (by omega)])
  refine lv_aload_n hx hb dX10_round_0 rfl (lv_at hl 0 rfl) ?_
  refine lv_iload_n hx hb dX10_round_1 rfl (lv_at hl 1 rfl) ?_
  refine rd_callV (As := [.int x]) (rest := []) hx hb hml hown hts (hE.at0 hS) hl.1 (c_X10_isCell l G q0 q1 q2 q3 q4 q5 q6 q7 q8 q9 q10 q11 q12 q13 q14 tx ro co mp my md mr dr nw tk cs sa go to ty dm at_ so de ke sm nr nc x (by first | assumption | omega) (by first | assumption | omega) (by first | assumption | omega) (by first | assumption | omega)) (cw_X10_116 hts) ⟨(Nat.le_of_ble_eq_true rfl), (Nat.le_of_ble_eq_true rfl)⟩ ⟨Nat.zero_le _, Nat.zero_le _⟩ rfl (sub_P hP [0, 1, 2, 3, 4, 5, 6, 7, 8, 9, 10, 11, 12, 13, 14] rfl) rfl rfl rfl rfl (Nat.le_of_ble_eq_true rfl) dX10_round_2 ?_
  refine lv_if_ne (tgt := 10) hx hb dX10_round_5 (by decide) (fun c5 => ?_) (fun c5 => ?_)
  · have c5 := zb_n0.mp c5
    refine lv_iconst (v := 0) hx hb dX10_round_10 (by decide) ?_
    refine lv_istore_n (lv' := [(2, .int 0), (0, .ref q0), (1, .int x)]) hx hb dX10_round_11 rfl hl (by decide) rfl (fun ls hl => ?_)
    refine lv_iconst (v := 0) hx hb dX10_round_12 (by decide) ?_
    refine lv_istore_n (lv' := [(3, .int 0), (2, .int 0), (0, .ref q0), (1, .int x)]) hx hb dX10_round_13 rfl hl (by decide) rfl (fun ls hl => ?_)
    exact J_14 (n - 0 + 1) 0 go 0 (by first | assumption | omega | rfl) (by omega) rfl (Nat.lt_succ_self _) _ _ hP hD hS ls (lv_sub hl [2, 3, 1, 0] rfl)
  · have c5 := zb_0.mp c5
    exact absurd (c5.symm.trans hb1) (by decide)

set_option maxHeartbeats 4000000 in
set_option maxRecDepth 100000 in
theorem c_X10_round_n (l : Launch) (G : Gv) (q0 : Nat) (q1 : Nat) (q2 : Nat) (q3 : Nat) (q4 : Nat) (q5 : Nat) (q6 : Nat) (q7 : Nat) (q8 : Nat) (q9 : Nat) (q10 : Nat) (q11 : Nat) (q12 : Nat) (q13 : Nat) (q14 : Nat) (tx : Nat → Int32) (ro : Nat → Int32) (co : Nat → Int32) (mp : Nat → Int32) (my : Nat → Int32) (md : Nat → Int32) (mr : Nat → Int32) (dr : Nat → Int32) (nw : Nat → Int32) (tk : Nat → Int32) (cs : Nat → Int32) (sa : Nat → Int32) (go : Nat → Int32) (to : Nat → Int32) (ty : Nat) (dm : Nat) (at_ : Nat) (so : Bool) (de : Nat) (ke : Nat) (sm : Nat) (nr : Nat) (nc : Nat) (n : Nat) (x : Int32) (hro : ro 0 = nI nr) (hco : co 0 = nI nc) (hg1 : 2 ≤ nr ∧ nr ≤ 8) (hg2 : 2 ≤ nc ∧ nc ≤ 8) (hn1 : nw 1 = nI n) (hn : n ≤ 10) (hno : inG nr nc x = false) : Rd l yX10_round cX10_round 9 (some .int) (rmz 2 43) G [.ref q0, .int x] [(q0, .inr (10, [.ref q1, .int (nI ty), .ref q2, .ref q3, .ref q4, .ref q5, .ref q6, .ref q7, .ref q8, .int (nI dm), .int (nI at_), .int (zb so), .ref q9, .int (nI de), .int (nI ke), .ref q10, .ref q11, .ref q12, .int (nI sm), .ref q13, .ref q14])), (q1, .inl (kB G, 200, .inl tx)), (q2, .inl (kI G, 2, .inl ro)), (q3, .inl (kI G, 2, .inl co)), (q4, .inl (kI G, 2, .inl mp)), (q5, .inl (kI G, 10, .inl my)), (q6, .inl (kI G, 10, .inl md)), (q7, .inl (kI G, 10, .inl mr)), (q8, .inl (kI G, 40, .inl dr)), (q9, .inl (kI G, 504, .inl nw)), (q10, .inl (kI G, 64, .inl tk)), (q11, .inl (kI G, 64, .inl cs)), (q12, .inl (kI G, 12, .inl sa)), (q13, .inl (kI G, 8, .inl go)), (q14, .inl (kI G, 2048, .inl to))] (.int (-1)) := by
  refine Rd.ofW (by decide) (Nat.le_of_ble_eq_true rfl) ?_
  intro p e s m below meth c ls hx hb hml hr hown hts hlk hP hE hl
  have hl : lv_has ls 9 [(0, .ref q0), (1, .int x)] := hl
  refine lv_aload_n hx hb dX10_round_0 rfl (lv_at hl 0 rfl) ?_
  refine lv_iload_n hx hb dX10_round_1 rfl (lv_at hl 1 rfl) ?_
  refine rd_callV (As := [.int x]) (rest := []) hx hb hml hown hts hE hl.1 (c_X10_isCell l G q0 q1 q2 q3 q4 q5 q6 q7 q8 q9 q10 q11 q12 q13 q14 tx ro co mp my md mr dr nw tk cs sa go to ty dm at_ so de ke sm nr nc x (by first | assumption | omega) (by first | assumption | omega) (by first | assumption | omega) (by first | assumption | omega)) (cw_X10_116 hts) ⟨(Nat.le_of_ble_eq_true rfl), (Nat.le_of_ble_eq_true rfl)⟩ ⟨Nat.zero_le _, Nat.zero_le _⟩ rfl (sub_P hP [0, 1, 2, 3, 4, 5, 6, 7, 8, 9, 10, 11, 12, 13, 14] rfl) rfl rfl rfl rfl (Nat.le_of_ble_eq_true rfl) dX10_round_2 ?_
  refine lv_if_ne (tgt := 10) hx hb dX10_round_5 (by decide) (fun c5 => ?_) (fun c5 => ?_)
  · have c5 := zb_n0.mp c5
    exact absurd (c5.symm.trans hno) (by decide)
  · have c5 := zb_0.mp c5
    refine lv_iconst (v := -1) hx hb dX10_round_8 (by decide) ?_
    exact rd_iret hx hb hr hlk dX10_round_9 (by first | rfl | (simp [zb, c5]; done))
