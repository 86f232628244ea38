/-! the reference: what changes it -/
theorem nI_sub1 {a : Nat} (h : 0 < a) : nI a - 1 = nI (a - 1) := by
  have h1 := nI_1 (a - 1)
  rw [show a - 1 + 1 = a by omega] at h1
  rw [← h1, Int32.add_sub_cancel]

set_option maxHeartbeats 4000000 in
set_option maxRecDepth 100000 in
theorem c_X10_know (l : Launch) (G : Gv) (q0 : Nat) (q1 : Nat) (q2 : Nat) (q3 : Nat) (q4 : Nat) (q5 : Nat) (q6 : Nat) (q7 : Nat) (q8 : Nat) (q9 : Nat) (q10 : Nat) (q11 : Nat) (q12 : Nat) (q13 : Nat) (q14 : Nat) (tx : Nat → Int32) (ro : Nat → Int32) (co : Nat → Int32) (mp : Nat → Int32) (my : Nat → Int32) (md : Nat → Int32) (mr : Nat → Int32) (dr : Nat → Int32) (nw : Nat → Int32) (tk : Nat → Int32) (cs : Nat → Int32) (sa : Nat → Int32) (go : Nat → Int32) (to : Nat → Int32) (ty : Nat) (dm : Nat) (at_ : Nat) (so : Bool) (de : Nat) (ke : Nat) (sm : Nat) (hde : de ≤ 8) : Ct l yX10_know cX10_know 2 none (rmz 1 23) G [.ref q0] [(q0, .inr (10, [.ref q1, .int (nI ty), .ref q2, .ref q3, .ref q4, .ref q5, .ref q6, .ref q7, .ref q8, .int (nI dm), .int (nI at_), .int (zb so), .ref q9, .int (nI de), .int (nI ke), .ref q10, .ref q11, .ref q12, .int (nI sm), .ref q13, .ref q14])), (q1, .inl (kB G, 200, .inl tx)), (q2, .inl (kI G, 2, .inl ro)), (q3, .inl (kI G, 2, .inl co)), (q4, .inl (kI G, 2, .inl mp)), (q5, .inl (kI G, 10, .inl my)), (q6, .inl (kI G, 10, .inl md)), (q7, .inl (kI G, 10, .inl mr)), (q8, .inl (kI G, 40, .inl dr)), (q9, .inl (kI G, 504, .inl nw)), (q10, .inl (kI G, 64, .inl tk)), (q11, .inl (kI G, 64, .inl cs)), (q12, .inl (kI G, 12, .inl sa)), (q13, .inl (kI G, 8, .inl go)), (q14, .inl (kI G, 2048, .inl to))] (one none [(q0, .inr (10, [.ref q1, .int (nI ty), .ref q2, .ref q3, .ref q4, .ref q5, .ref q6, .ref q7, .ref q8, .int (nI dm), .int (nI at_), .int (zb so), .ref q9, .int (nI (if de = 8 then 8 else de + 1)), .int (nI ke), .ref q10, .ref q11, .ref q12, .int (nI sm), .ref q13, .ref q14])), (q1, .inl (kB G, 200, .inl tx)), (q2, .inl (kI G, 2, .inl ro)), (q3, .inl (kI G, 2, .inl co)), (q4, .inl (kI G, 2, .inl mp)), (q5, .inl (kI G, 10, .inl my)), (q6, .inl (kI G, 10, .inl md)), (q7, .inl (kI G, 10, .inl mr)), (q8, .inl (kI G, 40, .inl dr)), (q9, .inl (kI G, 504, .inl (knM nw de))), (q10, .inl (kI G, 64, .inl tk)), (q11, .inl (kI G, 64, .inl cs)), (q12, .inl (kI G, 12, .inl sa)), (q13, .inl (kI G, 8, .inl go)), (q14, .inl (kI G, 2048, .inl to))]) := by
  by_cases h8 : de = 8
  · subst h8
    exact c_X10_know_n l G q0 q1 q2 q3 q4 q5 q6 q7 q8 q9 q10 q11 q12 q13 q14 tx ro co mp my md mr dr nw tk cs sa go to ty dm at_ so 8 ke sm rfl
  · have e1 : knM nw de = cpM nw 0 (42 + 42 * de) 42 := if_neg h8
    have e2 : (if de = 8 then 8 else de + 1) = de + 1 := if_neg h8
    rw [e1, e2]
    exact c_X10_know_y l G q0 q1 q2 q3 q4 q5 q6 q7 q8 q9 q10 q11 q12 q13 q14 tx ro co mp my md mr dr nw tk cs sa go to ty dm at_ so de ke sm hde (by omega)

set_option maxHeartbeats 4000000 in
set_option maxRecDepth 100000 in
theorem c_X10_pass_y (l : Launch) (G : Gv) (q0 : Nat) (q1 : Nat) (q2 : Nat) (q3 : Nat) (q4 : Nat) (q5 : Nat) (q6 : Nat) (q7 : Nat) (q8 : Nat) (q9 : Nat) (q10 : Nat) (q11 : Nat) (q12 : Nat) (q13 : Nat) (q14 : Nat) (tx : Nat → Int32) (ro : Nat → Int32) (co : Nat → Int32) (mp : Nat → Int32) (my : Nat → Int32) (md : Nat → Int32) (mr : Nat → Int32) (dr : Nat → Int32) (nw : Nat → Int32) (tk : Nat → Int32) (cs : Nat → Int32) (sa : Nat → Int32) (go : Nat → Int32) (to : Nat → Int32) (ty : Nat) (dm : Nat) (at_ : Nat) (so : Bool) (de : Nat) (ke : Nat) (sm : Nat) (d : Int32) (hde : de ≤ 8) (hd1 : inn d 1 30 = true) (hd2 : nw 0 + d ≤ 98) : Ct l yX10_pass cX10_pass 2 (some .int) (rmz 2 44) G [.ref q0, .int d] [(q0, .inr (10, [.ref q1, .int (nI ty), .ref q2, .ref q3, .ref q4, .ref q5, .ref q6, .ref q7, .ref q8, .int (nI dm), .int (nI at_), .int (zb so), .ref q9, .int (nI de), .int (nI ke), .ref q10, .ref q11, .ref q12, .int (nI sm), .ref q13, .ref q14])), (q1, .inl (kB G, 200, .inl tx)), (q2, .inl (kI G, 2, .inl ro)), (q3, .inl (kI G, 2, .inl co)), (q4, .inl (kI G, 2, .inl mp)), (q5, .inl (kI G, 10, .inl my)), (q6, .inl (kI G, 10, .inl md)), (q7, .inl (kI G, 10, .inl mr)), (q8, .inl (kI G, 40, .inl dr)), (q9, .inl (kI G, 504, .inl nw)), (q10, .inl (kI G, 64, .inl tk)), (q11, .inl (kI G, 64, .inl cs)), (q12, .inl (kI G, 12, .inl sa)), (q13, .inl (kI G, 8, .inl go)), (q14, .inl (kI G, 2048, .inl to))] (one (some (.int ((upd (knM nw de) 0 (((knM nw de) 0) + d)) 0))) [(q0, .inr (10, [.ref q1, .int (nI ty), .ref q2, .ref q3, .ref q4, .ref q5, .ref q6, .ref q7, .ref q8, .int (nI dm), .int (nI at_), .int (zb so), .ref q9, .int (nI (if de = 8 then 8 else de + 1)), .int (nI ke), .ref q10, .ref q11, .ref q12, .int (nI sm), .ref q13, .ref q14])), (q1, .inl (kB G, 200, .inl tx)), (q2, .inl (kI G, 2, .inl ro)), (q3, .inl (kI G, 2, .inl co)), (q4, .inl (kI G, 2, .inl mp)), (q5, .inl (kI G, 10, .inl my)), (q6, .inl (kI G, 10, .inl md)), (q7, .inl (kI G, 10, .inl mr)), (q8, .inl (kI G, 40, .inl dr)), (q9, .inl (kI G, 504, .inl (upd (knM nw de) 0 (((knM nw de) 0) + d)))), (q10, .inl (kI G, 64, .inl tk)), (q11, .inl (kI G, 64, .inl cs)), (q12, .inl (kI G, 12, .inl sa)), (q13, .inl (kI G, 8, .inl go)), (q14, .inl (kI G, 2048, .inl to))]) := by
  refine Ct.ofW (by decide) (Nat.le_of_ble_eq_true rfl) ?_
  intro p e s m below meth c ls A hx hb hml hr hown hts hlk hnm hP hD hA hE hS hl
  obtain ⟨H, eH⟩ : ∃ H : Heap, H = s.heap := ⟨_, rfl⟩
  obtain ⟨locs, eL⟩ : ∃ ll : List Loc, ll = [] := ⟨_, rfl⟩
  rw [← eH] at hP
  have hS : va_S A s.heap H locs := by rw [eH, eL]; exact hS
  show WC p l e _ s m _ below meth c G A _ s.heap [] 0 0 _
  rw [← eH, ← eL]
  clear eH eL
  have hl : lv_has ls 2 [(0, .ref q0), (1, .int d)] := hl
  refine lv_iload_n hx hb dX10_pass_0 rfl (lv_at hl 1 rfl) ?_
  refine lv_iconst (v := 1) hx hb dX10_pass_1 (by decide) ?_
  refine lv_bipush (v := 30) hx hb dX10_pass_2 (by decide) ?_
  refine rd_callS (As := [.int d, .int 1, .int 30]) (rest := []) hx hb hml hown hts (hE.at0 hS) hl.1 (c_X10_in l G d 1 30 ) (cs_X10_61 hts) ⟨(Nat.le_of_ble_eq_true rfl), (Nat.le_of_ble_eq_true rfl)⟩ ⟨Nat.zero_le _, Nat.zero_le _⟩ rfl (sub_P hP [] rfl) rfl (Nat.le_of_ble_eq_true rfl) dX10_pass_4 ?_
  refine lv_if_ne (tgt := 12) hx hb dX10_pass_7 (by decide) (fun c7 => ?_) (fun c7 => ?_)
  · have c7 := zb_n0.mp c7
    refine lv_aload_n hx hb dX10_pass_12 rfl (lv_at hl 0 rfl) ?_
    refine va_get hx hb hts inlX10 hown hE.1 hP 0 rfl rfl 12 (by decide) (fl_X10_35 hts) (fun _ h9 => h9) rfl dX10_pass_13 ?_
    refine lv_iconst (v := 0) hx hb dX10_pass_16 (by decide) ?_
    refine va_iald hx hb hE.1 hP 9 0 rfl rfl (inB_iff.mp (by decide)) dX10_pass_17 ?_
    rw [show (0 : Int32).toNatClampNeg = 0 from rfl]
    refine lv_iload_n hx hb dX10_pass_18 rfl (lv_at hl 1 rfl) ?_
    refine lv_iadd hx hb dX10_pass_19 ?_
    refine lv_bipush (v := 98) hx hb dX10_pass_20 (by decide) ?_
    refine lv_icmp_le (tgt := 28) hx hb dX10_pass_22 (by decide) (fun c22 => ?_) (fun c22 => ?_)
    · refine lv_aload_n hx hb dX10_pass_28 rfl (lv_at hl 0 rfl) ?_
      refine ct_callV (w1 := [(q0, .inr (10, [.ref q1, .int (nI ty), .ref q2, .ref q3, .ref q4, .ref q5, .ref q6, .ref q7, .ref q8, .int (nI dm), .int (nI at_), .int (zb so), .ref q9, .int (nI (if de = 8 then 8 else de + 1)), .int (nI ke), .ref q10, .ref q11, .ref q12, .int (nI sm), .ref q13, .ref q14])), (q1, .inl (kB G, 200, .inl tx)), (q2, .inl (kI G, 2, .inl ro)), (q3, .inl (kI G, 2, .inl co)), (q4, .inl (kI G, 2, .inl mp)), (q5, .inl (kI G, 10, .inl my)), (q6, .inl (kI G, 10, .inl md)), (q7, .inl (kI G, 10, .inl mr)), (q8, .inl (kI G, 40, .inl dr)), (q9, .inl (kI G, 504, .inl (knM nw de))), (q10, .inl (kI G, 64, .inl tk)), (q11, .inl (kI G, 64, .inl cs)), (q12, .inl (kI G, 12, .inl sa)), (q13, .inl (kI G, 8, .inl go)), (q14, .inl (kI G, 2048, .inl to))]) (wr := []) (wn := [(q0, .inr (10, [.ref q1, .int (nI ty), .ref q2, .ref q3, .ref q4, .ref q5, .ref q6, .ref q7, .ref q8, .int (nI dm), .int (nI at_), .int (zb so), .ref q9, .int (nI (if de = 8 then 8 else de + 1)), .int (nI ke), .ref q10, .ref q11, .ref q12, .int (nI sm), .ref q13, .ref q14])), (q1, .inl (kB G, 200, .inl tx)), (q2, .inl (kI G, 2, .inl ro)), (q3, .inl (kI G, 2, .inl co)), (q4, .inl (kI G, 2, .inl mp)), (q5, .inl (kI G, 10, .inl my)), (q6, .inl (kI G, 10, .inl md)), (q7, .inl (kI G, 10, .inl mr)), (q8, .inl (kI G, 40, .inl dr)), (q9, .inl (kI G, 504, .inl (knM nw de))), (q10, .inl (kI G, 64, .inl tk)), (q11, .inl (kI G, 64, .inl cs)), (q12, .inl (kI G, 12, .inl sa)), (q13, .inl (kI G, 8, .inl go)), (q14, .inl (kI G, 2048, .inl to))]) (As := []) (rest := []) hx hb hml hown hts hE hA hl.1 hP hD hS (c_X10_know l G q0 q1 q2 q3 q4 q5 q6 q7 q8 q9 q10 q11 q12 q13 q14 tx ro co mp my md mr dr nw tk cs sa go to ty dm at_ so de ke sm (by first | assumption | omega)) (cw_X10_148 hts) ⟨(Nat.le_of_ble_eq_true rfl), (Nat.le_of_ble_eq_true rfl)⟩ ⟨(Nat.le_of_ble_eq_true rfl), (Nat.le_of_ble_eq_true rfl)⟩ rfl [0, 1, 2, 3, 4, 5, 6, 7, 8, 9, 10, 11, 12, 13, 14] [] [0, 1, 2, 3, 4, 5, 6, 7, 8, 9, 10, 11, 12, 13, 14] rfl rfl ⟨by decide, by decide, by decide, by decide⟩ rfl rfl rfl rfl rfl (Nat.le_of_ble_eq_true rfl) dX10_pass_29 (fun H locs hP hD hS => ?_)
      show WC p l e _ s m _ below meth c G A _ H locs 0 0 (F0 m 32 ls [])
      refine lv_aload_n hx hb dX10_pass_32 rfl (lv_at hl 0 rfl) ?_
      refine va_get hx hb hts inlX10 hown hE.1 hP 0 rfl rfl 12 (by decide) (fl_X10_35 hts) (fun _ h9 => h9) rfl dX10_pass_33 ?_
      refine lv_iconst (v := 0) hx hb dX10_pass_36 (by decide) ?_
      refine lv_dup2_11 hx hb dX10_pass_37 rfl rfl ?_
      refine va_iald hx hb hE.1 hP 9 0 rfl rfl (inB_iff.mp (by decide)) dX10_pass_38 ?_
      rw [show (0 : Int32).toNatClampNeg = 0 from rfl]
      refine lv_iload_n hx hb dX10_pass_39 rfl (lv_at hl 1 rfl) ?_
      refine lv_iadd hx hb dX10_pass_40 ?_
      refine va_iast hx hb hE.1 hP hD hS 9 0 rfl rfl (inB_iff.mp (by decide)) dX10_pass_41 (fun H locs hP hD hS => ?_)
      have hP : va_P G.1 vwCl [(q0, .inr (10, [.ref q1, .int (nI ty), .ref q2, .ref q3, .ref q4, .ref q5, .ref q6, .ref q7, .ref q8, .int (nI dm), .int (nI at_), .int (zb so), .ref q9, .int (nI (if de = 8 then 8 else de + 1)), .int (nI ke), .ref q10, .ref q11, .ref q12, .int (nI sm), .ref q13, .ref q14])), (q1, .inl (kB G, 200, .inl tx)), (q2, .inl (kI G, 2, .inl ro)), (q3, .inl (kI G, 2, .inl co)), (q4, .inl (kI G, 2, .inl mp)), (q5, .inl (kI G, 10, .inl my)), (q6, .inl (kI G, 10, .inl md)), (q7, .inl (kI G, 10, .inl mr)), (q8, .inl (kI G, 40, .inl dr)), (q9, .inl (kI G, 504, .inl (upd (knM nw de) 0 (((knM nw de) 0) + d)))), (q10, .inl (kI G, 64, .inl tk)), (q11, .inl (kI G, 64, .inl cs)), (q12, .inl (kI G, 12, .inl sa)), (q13, .inl (kI G, 8, .inl go)), (q14, .inl (kI G, 2048, .inl to))] H := hP
      have hD : va_D A [(q0, .inr (10, [.ref q1, .int (nI ty), .ref q2, .ref q3, .ref q4, .ref q5, .ref q6, .ref q7, .ref q8, .int (nI dm), .int (nI at_), .int (zb so), .ref q9, .int (nI (if de = 8 then 8 else de + 1)), .int (nI ke), .ref q10, .ref q11, .ref q12, .int (nI sm), .ref q13, .ref q14])), (q1, .inl (kB G, 200, .inl tx)), (q2, .inl (kI G, 2, .inl ro)), (q3, .inl (kI G, 2, .inl co)), (q4, .inl (kI G, 2, .inl mp)), (q5, .inl (kI G, 10, .inl my)), (q6, .inl (kI G, 10, .inl md)), (q7, .inl (kI G, 10, .inl mr)), (q8, .inl (kI G, 40, .inl dr)), (q9, .inl (kI G, 504, .inl (upd (knM nw de) 0 (((knM nw de) 0) + d)))), (q10, .inl (kI G, 64, .inl tk)), (q11, .inl (kI G, 64, .inl cs)), (q12, .inl (kI G, 12, .inl sa)), (q13, .inl (kI G, 8, .inl go)), (q14, .inl (kI G, 2048, .inl to))] := hD
      refine lv_aload_n hx hb dX10_pass_42 rfl (lv_at hl 0 rfl) ?_
      refine va_get hx hb hts inlX10 hown hE.1 hP 0 rfl rfl 12 (by decide) (fl_X10_35 hts) (fun _ h9 => h9) rfl dX10_pass_43 ?_
      refine lv_iconst (v := 0) hx hb dX10_pass_46 (by decide) ?_
      refine va_iald hx hb hE.1 hP 9 0 rfl rfl (inB_iff.mp (by decide)) dX10_pass_47 ?_
      rw [show (0 : Int32).toNatClampNeg = 0 from rfl]
      exact ct_iret hx hb hr hlk dX10_pass_48 hP hD hS (by first | exact ⟨rfl, rfl⟩ | (simp [one, c7, c22]; done))
    · exact absurd hd2 c22
  · have c7 := zb_0.mp c7
    exact absurd (c7.symm.trans hd1) (by decide)

set_option maxHeartbeats 4000000 in
set_option maxRecDepth 100000 in
theorem c_X10_pass_n (l : Launch) (G : Gv) (q0 : Nat) (q1 : Nat) (q2 : Nat) (q3 : Nat) (q4 : Nat) (q5 : Nat) (q6 : Nat) (q7 : Nat) (q8 : Nat) (q9 : Nat) (q10 : Nat) (q11 : Nat) (q12 : Nat) (q13 : Nat) (q14 : Nat) (tx : Nat → Int32) (ro : Nat → Int32) (co : Nat → Int32) (mp : Nat → Int32) (my : Nat → Int32) (md : Nat → Int32) (mr : Nat → Int32) (dr : Nat → Int32) (nw : Nat → Int32) (tk : Nat → Int32) (cs : Nat → Int32) (sa : Nat → Int32) (go : Nat → Int32) (to : Nat → Int32) (ty : Nat) (dm : Nat) (at_ : Nat) (so : Bool) (de : Nat) (ke : Nat) (sm : Nat) (d : Int32) (hno : ¬ (inn d 1 30 = true ∧ nw 0 + d ≤ 98)) : Rd l yX10_pass cX10_pass 2 (some .int) (rmz 1 22) G [.ref q0, .int d] [(q0, .inr (10, [.ref q1, .int (nI ty), .ref q2, .ref q3, .ref q4, .ref q5, .ref q6, .ref q7, .ref q8, .int (nI dm), .int (nI at_), .int (zb so), .ref q9, .int (nI de), .int (nI ke), .ref q10, .ref q11, .ref q12, .int (nI sm), .ref q13, .ref q14])), (q1, .inl (kB G, 200, .inl tx)), (q2, .inl (kI G, 2, .inl ro)), (q3, .inl (kI G, 2, .inl co)), (q4, .inl (kI G, 2, .inl mp)), (q5, .inl (kI G, 10, .inl my)), (q6, .inl (kI G, 10, .inl md)), (q7, .inl (kI G, 10, .inl mr)), (q8, .inl (kI G, 40, .inl dr)), (q9, .inl (kI G, 504, .inl nw)), (q10, .inl (kI G, 64, .inl tk)), (q11, .inl (kI G, 64, .inl cs)), (q12, .inl (kI G, 12, .inl sa)), (q13, .inl (kI G, 8, .inl go)), (q14, .inl (kI G, 2048, .inl to))] (.int (if inn d 1 30 then -2 else -1)) := by
  refine Rd.ofW (by decide) (Nat.le_of_ble_eq_true rfl) ?_
  intro p e s m below meth c ls hx hb hml hr hown hts hlk hP hE hl
  have hl : lv_has ls 2 [(0, .ref q0), (1, .int d)] := hl
  refine lv_iload_n hx hb dX10_pass_0 rfl (lv_at hl 1 rfl) ?_
  refine lv_iconst (v := 1) hx hb dX10_pass_1 (by decide) ?_
  refine lv_bipush (v := 30) hx hb dX10_pass_2 (by decide) ?_
  refine rd_callS (As := [.int d, .int 1, .int 30]) (rest := []) hx hb hml hown hts hE hl.1 (c_X10_in l G d 1 30 ) (cs_X10_61 hts) ⟨(Nat.le_of_ble_eq_true rfl), (Nat.le_of_ble_eq_true rfl)⟩ ⟨Nat.zero_le _, Nat.zero_le _⟩ rfl (sub_P hP [] rfl) rfl (Nat.le_of_ble_eq_true rfl) dX10_pass_4 ?_
  refine lv_if_ne (tgt := 12) hx hb dX10_pass_7 (by decide) (fun c7 => ?_) (fun c7 => ?_)
  · have c7 := zb_n0.mp c7
    refine lv_aload_n hx hb dX10_pass_12 rfl (lv_at hl 0 rfl) ?_
    refine va_get hx hb hts inlX10 hown hE.1 hP 0 rfl rfl 12 (by decide) (fl_X10_35 hts) (fun _ h9 => h9) rfl dX10_pass_13 ?_
    refine lv_iconst (v := 0) hx hb dX10_pass_16 (by decide) ?_
    refine va_iald hx hb hE.1 hP 9 0 rfl rfl (inB_iff.mp (by decide)) dX10_pass_17 ?_
    rw [show (0 : Int32).toNatClampNeg = 0 from rfl]
    refine lv_iload_n hx hb dX10_pass_18 rfl (lv_at hl 1 rfl) ?_
    refine lv_iadd hx hb dX10_pass_19 ?_
    refine lv_bipush (v := 98) hx hb dX10_pass_20 (by decide) ?_
    refine lv_icmp_le (tgt := 28) hx hb dX10_pass_22 (by decide) (fun c22 => ?_) (fun c22 => ?_)
    · exact absurd ⟨c7, c22⟩ hno
    · refine lv_bipush (v := -2) hx hb dX10_pass_25 (by decide) ?_
      exact rd_iret hx hb hr hlk dX10_pass_27 (by first | rfl | (simp [zb, c7, c22]; done))
  · have c7 := zb_0.mp c7
    refine lv_iconst (v := -1) hx hb dX10_pass_10 (by decide) ?_
    exact rd_iret hx hb hr hlk dX10_pass_11 (by first | rfl | (simp [zb, c7]; done))

set_option maxHeartbeats 4000000 in
set_option maxRecDepth 100000 in
theorem c_X10_burn_y (l : Launch) (G : Gv) (q0 : Nat) (q1 : Nat) (q2 : Nat) (q3 : Nat) (q4 : Nat) (q5 : Nat) (q6 : Nat) (q7 : Nat) (q8 : Nat) (q9 : Nat) (q10 : Nat) (q11 : Nat) (q12 : Nat) (q13 : Nat) (q14 : Nat) (tx : Nat → Int32) (ro : Nat → Int32) (co : Nat → Int32) (mp : Nat → Int32) (my : Nat → Int32) (md : Nat → Int32) (mr : Nat → Int32) (dr : Nat → Int32) (nw : Nat → Int32) (tk : Nat → Int32) (cs : Nat → Int32) (sa : Nat → Int32) (go : Nat → Int32) (to : Nat → Int32) (ty : Nat) (dm : Nat) (at_ : Nat) (so : Bool) (de : Nat) (ke : Nat) (sm : Nat) (n : Nat) (j : Nat) (hde : de ≤ 8) (hn1 : nw 1 = nI n) (hn : n ≤ 10) (hj : j < n) (hb2 : cbB (sta nw 0) (fal nw 0) (kin nw 0) (nw 0) j = true) : Ct l yX10_burn cX10_burn 2 (some .int) (rmz 2 45) G [.ref q0, .int (nI j)] [(q0, .inr (10, [.ref q1, .int (nI ty), .ref q2, .ref q3, .ref q4, .ref q5, .ref q6, .ref q7, .ref q8, .int (nI dm), .int (nI at_), .int (zb so), .ref q9, .int (nI de), .int (nI ke), .ref q10, .ref q11, .ref q12, .int (nI sm), .ref q13, .ref q14])), (q1, .inl (kB G, 200, .inl tx)), (q2, .inl (kI G, 2, .inl ro)), (q3, .inl (kI G, 2, .inl co)), (q4, .inl (kI G, 2, .inl mp)), (q5, .inl (kI G, 10, .inl my)), (q6, .inl (kI G, 10, .inl md)), (q7, .inl (kI G, 10, .inl mr)), (q8, .inl (kI G, 40, .inl dr)), (q9, .inl (kI G, 504, .inl nw)), (q10, .inl (kI G, 64, .inl tk)), (q11, .inl (kI G, 64, .inl cs)), (q12, .inl (kI G, 12, .inl sa)), (q13, .inl (kI G, 8, .inl go)), (q14, .inl (kI G, 2048, .inl to))] (one (some (.int ((upd (knM nw de) (22 + j) ((knM nw de) 0)) (32 + j)))) [(q0, .inr (10, [.ref q1, .int (nI ty), .ref q2, .ref q3, .ref q4, .ref q5, .ref q6, .ref q7, .ref q8, .int (nI dm), .int (nI at_), .int (zb so), .ref q9, .int (nI (if de = 8 then 8 else de + 1)), .int (nI ke), .ref q10, .ref q11, .ref q12, .int (nI sm), .ref q13, .ref q14])), (q1, .inl (kB G, 200, .inl tx)), (q2, .inl (kI G, 2, .inl ro)), (q3, .inl (kI G, 2, .inl co)), (q4, .inl (kI G, 2, .inl mp)), (q5, .inl (kI G, 10, .inl my)), (q6, .inl (kI G, 10, .inl md)), (q7, .inl (kI G, 10, .inl mr)), (q8, .inl (kI G, 40, .inl dr)), (q9, .inl (kI G, 504, .inl (upd (knM nw de) (22 + j) ((knM nw de) 0)))), (q10, .inl (kI G, 64, .inl tk)), (q11, .inl (kI G, 64, .inl cs)), (q12, .inl (kI G, 12, .inl sa)), (q13, .inl (kI G, 8, .inl go)), (q14, .inl (kI G, 2048, .inl to))]) := by
  refine Ct.ofW (by decide) (Nat.le_of_ble_eq_true rfl) ?_
  intro p e s m below meth c ls A hx hb hml hr hown hts hlk hnm hP hD hA hE hS hl
  obtain ⟨H, eH⟩ : ∃ H : Heap, H = s.heap := ⟨_, rfl⟩
  obtain ⟨locs, eL⟩ : ∃ ll : List Loc, ll = [] := ⟨_, rfl⟩
  rw [← eH] at hP
  have hS : va_S A s.heap H locs := by rw [eH, eL]; exact hS
  show WC p l e _ s m _ below meth c G A _ s.heap [] 0 0 _
  rw [← eH, ← eL]
  clear eH eL
  have hl : lv_has ls 2 [(0, .ref q0), (1, .int (nI j))] := hl
  refine lv_aload_n hx hb dX10_burn_0 rfl (lv_at hl 0 rfl) ?_
  refine lv_iload_n hx hb dX10_burn_1 rfl (lv_at hl 1 rfl) ?_
  refine rd_callV (As := [.int (nI j)]) (rest := []) hx hb hml hown hts (hE.at0 hS) hl.1 (c_X10_isThing l G q0 q1 q2 q3 q4 q5 q6 q7 q8 q9 q10 q11 q12 q13 q14 tx ro co mp my md mr dr nw tk cs sa go to ty dm at_ so de ke sm n (nI j) (by first | assumption | omega) (by first | assumption | omega)) (cw_X10_106 hts) ⟨(Nat.le_of_ble_eq_true rfl), (Nat.le_of_ble_eq_true rfl)⟩ ⟨Nat.zero_le _, Nat.zero_le _⟩ rfl (sub_P hP [0, 1, 2, 3, 4, 5, 6, 7, 8, 9, 10, 11, 12, 13, 14] rfl) rfl rfl rfl rfl (Nat.le_of_ble_eq_true rfl) dX10_burn_2 ?_
  refine lv_if_ne (tgt := 10) hx hb dX10_burn_5 (by decide) (fun c5 => ?_) (fun c5 => ?_)
  · have c5 := zb_n0.mp c5
    refine lv_aload_n hx hb dX10_burn_10 rfl (lv_at hl 0 rfl) ?_
    refine lv_iconst (v := 0) hx hb dX10_burn_11 (by decide) ?_
    refine lv_iload_n hx hb dX10_burn_12 rfl (lv_at hl 1 rfl) ?_
    refine rd_callV (As := [.int 0, .int (nI j)]) (rest := []) hx hb hml hown hts (hE.at0 hS) hl.1 (c_X10_canBurn l G q0 q1 q2 q3 q4 q5 q6 q7 q8 q9 q10 q11 q12 q13 q14 tx ro co mp my md mr dr nw tk cs sa go to ty dm at_ so de ke sm 0 j (by decide) (by first | assumption | omega)) (cw_X10_151 hts) ⟨(Nat.le_of_ble_eq_true rfl), (Nat.le_of_ble_eq_true rfl)⟩ ⟨Nat.zero_le _, Nat.zero_le _⟩ rfl (sub_P hP [0, 1, 2, 3, 4, 5, 6, 7, 8, 9, 10, 11, 12, 13, 14] rfl) rfl rfl rfl rfl (Nat.le_of_ble_eq_true rfl) dX10_burn_13 ?_
    refine lv_if_ne (tgt := 22) hx hb dX10_burn_16 (by decide) (fun c16 => ?_) (fun c16 => ?_)
    · have c16 := zb_n0.mp c16
      refine lv_aload_n hx hb dX10_burn_22 rfl (lv_at hl 0 rfl) ?_
      refine ct_callV (w1 := [(q0, .inr (10, [.ref q1, .int (nI ty), .ref q2, .ref q3, .ref q4, .ref q5, .ref q6, .ref q7, .ref q8, .int (nI dm), .int (nI at_), .int (zb so), .ref q9, .int (nI (if de = 8 then 8 else de + 1)), .int (nI ke), .ref q10, .ref q11, .ref q12, .int (nI sm), .ref q13, .ref q14])), (q1, .inl (kB G, 200, .inl tx)), (q2, .inl (kI G, 2, .inl ro)), (q3, .inl (kI G, 2, .inl co)), (q4, .inl (kI G, 2, .inl mp)), (q5, .inl (kI G, 10, .inl my)), (q6, .inl (kI G, 10, .inl md)), (q7, .inl (kI G, 10, .inl mr)), (q8, .inl (kI G, 40, .inl dr)), (q9, .inl (kI G, 504, .inl (knM nw de))), (q10, .inl (kI G, 64, .inl tk)), (q11, .inl (kI G, 64, .inl cs)), (q12, .inl (kI G, 12, .inl sa)), (q13, .inl (kI G, 8, .inl go)), (q14, .inl (kI G, 2048, .inl to))]) (wr := []) (wn := [(q0, .inr (10, [.ref q1, .int (nI ty), .ref q2, .ref q3, .ref q4, .ref q5, .ref q6, .ref q7, .ref q8, .int (nI dm), .int (nI at_), .int (zb so), .ref q9, .int (nI (if de = 8 then 8 else de + 1)), .int (nI ke), .ref q10, .ref q11, .ref q12, .int (nI sm), .ref q13, .ref q14])), (q1, .inl (kB G, 200, .inl tx)), (q2, .inl (kI G, 2, .inl ro)), (q3, .inl (kI G, 2, .inl co)), (q4, .inl (kI G, 2, .inl mp)), (q5, .inl (kI G, 10, .inl my)), (q6, .inl (kI G, 10, .inl md)), (q7, .inl (kI G, 10, .inl mr)), (q8, .inl (kI G, 40, .inl dr)), (q9, .inl (kI G, 504, .inl (knM nw de))), (q10, .inl (kI G, 64, .inl tk)), (q11, .inl (kI G, 64, .inl cs)), (q12, .inl (kI G, 12, .inl sa)), (q13, .inl (kI G, 8, .inl go)), (q14, .inl (kI G, 2048, .inl to))]) (As := []) (rest := []) hx hb hml hown hts hE hA hl.1 hP hD hS (c_X10_know l G q0 q1 q2 q3 q4 q5 q6 q7 q8 q9 q10 q11 q12 q13 q14 tx ro co mp my md mr dr nw tk cs sa go to ty dm at_ so de ke sm (by first | assumption | omega)) (cw_X10_148 hts) ⟨(Nat.le_of_ble_eq_true rfl), (Nat.le_of_ble_eq_true rfl)⟩ ⟨(Nat.le_of_ble_eq_true rfl), (Nat.le_of_ble_eq_true rfl)⟩ rfl [0, 1, 2, 3, 4, 5, 6, 7, 8, 9, 10, 11, 12, 13, 14] [] [0, 1, 2, 3, 4, 5, 6, 7, 8, 9, 10, 11, 12, 13, 14] rfl rfl ⟨by decide, by decide, by decide, by decide⟩ rfl rfl rfl rfl rfl (Nat.le_of_ble_eq_true rfl) dX10_burn_23 (fun H locs hP hD hS => ?_)
      show WC p l e _ s m _ below meth c G A _ H locs 0 0 (F0 m 26 ls [])
      refine lv_aload_n hx hb dX10_burn_26 rfl (lv_at hl 0 rfl) ?_
      refine va_get hx hb hts inlX10 hown hE.1 hP 0 rfl rfl 12 (by decide) (fl_X10_35 hts) (fun _ h9 => h9) rfl dX10_burn_27 ?_
      refine lv_bipush (v := 22) hx hb dX10_burn_30 (by decide) ?_
      refine lv_iload_n hx hb dX10_burn_32 rfl (lv_at hl 1 rfl) ?_
      refine lv_iadd hx hb dX10_burn_33 ?_
      rw [show (22 : Int32) + (nI j) = nI (22 + j) from nI_add 22 j]
      refine lv_aload_n hx hb dX10_burn_34 rfl (lv_at hl 0 rfl) ?_
      refine va_get hx hb hts inlX10 hown hE.1 hP 0 rfl rfl 12 (by decide) (fl_X10_35 hts) (fun _ h9 => h9) rfl dX10_burn_35 ?_
      refine lv_iconst (v := 0) hx hb dX10_burn_38 (by decide) ?_
      refine va_iald hx hb hE.1 hP 9 0 rfl rfl (inB_iff.mp (by decide)) dX10_burn_39 ?_
      rw [show (0 : Int32).toNatClampNeg = 0 from rfl]
      refine va_iast hx hb hE.1 hP hD hS 9 0 rfl rfl (vp_in_nI (by omega) (by omega)) dX10_burn_40 (fun H locs hP hD hS => ?_)
      rw [nI_clamp (show 22 + j < 2 ^ 31 by omega)] at hP hD
      have hP : va_P G.1 vwCl [(q0, .inr (10, [.ref q1, .int (nI ty), .ref q2, .ref q3, .ref q4, .ref q5, .ref q6, .ref q7, .ref q8, .int (nI dm), .int (nI at_), .int (zb so), .ref q9, .int (nI (if de = 8 then 8 else de + 1)), .int (nI ke), .ref q10, .ref q11, .ref q12, .int (nI sm), .ref q13, .ref q14])), (q1, .inl (kB G, 200, .inl tx)), (q2, .inl (kI G, 2, .inl ro)), (q3, .inl (kI G, 2, .inl co)), (q4, .inl (kI G, 2, .inl mp)), (q5, .inl (kI G, 10, .inl my)), (q6, .inl (kI G, 10, .inl md)), (q7, .inl (kI G, 10, .inl mr)), (q8, .inl (kI G, 40, .inl dr)), (q9, .inl (kI G, 504, .inl (upd (knM nw de) (22 + j) ((knM nw de) 0)))), (q10, .inl (kI G, 64, .inl tk)), (q11, .inl (kI G, 64, .inl cs)), (q12, .inl (kI G, 12, .inl sa)), (q13, .inl (kI G, 8, .inl go)), (q14, .inl (kI G, 2048, .inl to))] H := hP
      have hD : va_D A [(q0, .inr (10, [.ref q1, .int (nI ty), .ref q2, .ref q3, .ref q4, .ref q5, .ref q6, .ref q7, .ref q8, .int (nI dm), .int (nI at_), .int (zb so), .ref q9, .int (nI (if de = 8 then 8 else de + 1)), .int (nI ke), .ref q10, .ref q11, .ref q12, .int (nI sm), .ref q13, .ref q14])), (q1, .inl (kB G, 200, .inl tx)), (q2, .inl (kI G, 2, .inl ro)), (q3, .inl (kI G, 2, .inl co)), (q4, .inl (kI G, 2, .inl mp)), (q5, .inl (kI G, 10, .inl my)), (q6, .inl (kI G, 10, .inl md)), (q7, .inl (kI G, 10, .inl mr)), (q8, .inl (kI G, 40, .inl dr)), (q9, .inl (kI G, 504, .inl (upd (knM nw de) (22 + j) ((knM nw de) 0)))), (q10, .inl (kI G, 64, .inl tk)), (q11, .inl (kI G, 64, .inl cs)), (q12, .inl (kI G, 12, .inl sa)), (q13, .inl (kI G, 8, .inl go)), (q14, .inl (kI G, 2048, .inl to))] := hD
      refine lv_aload_n hx hb dX10_burn_41 rfl (lv_at hl 0 rfl) ?_
      refine va_get hx hb hts inlX10 hown hE.1 hP 0 rfl rfl 12 (by decide) (fl_X10_35 hts) (fun _ h9 => h9) rfl dX10_burn_42 ?_
      refine lv_bipush (v := 32) hx hb dX10_burn_45 (by decide) ?_
      refine lv_iload_n hx hb dX10_burn_47 rfl (lv_at hl 1 rfl) ?_
      refine lv_iadd hx hb dX10_burn_48 ?_
      rw [show (32 : Int32) + (nI j) = nI (32 + j) from nI_add 32 j]
      refine va_iald hx hb hE.1 hP 9 0 rfl rfl (vp_in_nI (by omega) (by omega)) dX10_burn_49 ?_
      rw [nI_clamp (show 32 + j < 2 ^ 31 by omega)]
      exact ct_iret hx hb hr hlk dX10_burn_50 hP hD hS (by first | exact ⟨rfl, rfl⟩ | (simp [one, c5, c16]; done))
    · have c16 := zb_0.mp c16
      exact absurd (c16.symm.trans hb2) (by decide)
  · have c5 := zb_0.mp c5
    exact absurd c5 (by rw [inB_nI (by omega)]; simp [hj])

set_option maxHeartbeats 4000000 in
set_option maxRecDepth 100000 in
theorem c_X10_burn_n (l : Launch) (G : Gv) (q0 : Nat) (q1 : Nat) (q2 : Nat) (q3 : Nat) (q4 : Nat) (q5 : Nat) (q6 : Nat) (q7 : Nat) (q8 : Nat) (q9 : Nat) (q10 : Nat) (q11 : Nat) (q12 : Nat) (q13 : Nat) (q14 : Nat) (tx : Nat → Int32) (ro : Nat → Int32) (co : Nat → Int32) (mp : Nat → Int32) (my : Nat → Int32) (md : Nat → Int32) (mr : Nat → Int32) (dr : Nat → Int32) (nw : Nat → Int32) (tk : Nat → Int32) (cs : Nat → Int32) (sa : Nat → Int32) (go : Nat → Int32) (to : Nat → Int32) (ty : Nat) (dm : Nat) (at_ : Nat) (so : Bool) (de : Nat) (ke : Nat) (sm : Nat) (n : Nat) (t : Int32) (hn1 : nw 1 = nI n) (hn : n ≤ 10) (hno : ¬ (inB t n = true ∧ cbB (sta nw 0) (fal nw 0) (kin nw 0) (nw 0) (ix t) = true)) : Rd l yX10_burn cX10_burn 2 (some .int) (rmz 2 45) G [.ref q0, .int t] [(q0, .inr (10, [.ref q1, .int (nI ty), .ref q2, .ref q3, .ref q4, .ref q5, .ref q6, .ref q7, .ref q8, .int (nI dm), .int (nI at_), .int (zb so), .ref q9, .int (nI de), .int (nI ke), .ref q10, .ref q11, .ref q12, .int (nI sm), .ref q13, .ref q14])), (q1, .inl (kB G, 200, .inl tx)), (q2, .inl (kI G, 2, .inl ro)), (q3, .inl (kI G, 2, .inl co)), (q4, .inl (kI G, 2, .inl mp)), (q5, .inl (kI G, 10, .inl my)), (q6, .inl (kI G, 10, .inl md)), (q7, .inl (kI G, 10, .inl mr)), (q8, .inl (kI G, 40, .inl dr)), (q9, .inl (kI G, 504, .inl nw)), (q10, .inl (kI G, 64, .inl tk)), (q11, .inl (kI G, 64, .inl cs)), (q12, .inl (kI G, 12, .inl sa)), (q13, .inl (kI G, 8, .inl go)), (q14, .inl (kI G, 2048, .inl to))] (.int (if inB t n then -2 else -1)) := by
  refine Rd.ofW (by decide) (Nat.le_of_ble_eq_true rfl) ?_
  intro p e s m below meth c ls hx hb hml hr hown hts hlk hP hE hl
  have hl : lv_has ls 2 [(0, .ref q0), (1, .int t)] := hl
  refine lv_aload_n hx hb dX10_burn_0 rfl (lv_at hl 0 rfl) ?_
  refine lv_iload_n hx hb dX10_burn_1 rfl (lv_at hl 1 rfl) ?_
  refine rd_callV (As := [.int t]) (rest := []) hx hb hml hown hts hE hl.1 (c_X10_isThing l G q0 q1 q2 q3 q4 q5 q6 q7 q8 q9 q10 q11 q12 q13 q14 tx ro co mp my md mr dr nw tk cs sa go to ty dm at_ so de ke sm n t (by first | assumption | omega) (by first | assumption | omega)) (cw_X10_106 hts) ⟨(Nat.le_of_ble_eq_true rfl), (Nat.le_of_ble_eq_true rfl)⟩ ⟨Nat.zero_le _, Nat.zero_le _⟩ rfl (sub_P hP [0, 1, 2, 3, 4, 5, 6, 7, 8, 9, 10, 11, 12, 13, 14] rfl) rfl rfl rfl rfl (Nat.le_of_ble_eq_true rfl) dX10_burn_2 ?_
  refine lv_if_ne (tgt := 10) hx hb dX10_burn_5 (by decide) (fun c5 => ?_) (fun c5 => ?_)
  · have c5 := zb_n0.mp c5
    obtain ⟨j, hj, rfl⟩ := inB_nat c5 (by omega)
    have c5 := c5
    rw [ixx (by omega)] at hno
    refine lv_aload_n hx hb dX10_burn_10 rfl (lv_at hl 0 rfl) ?_
    refine lv_iconst (v := 0) hx hb dX10_burn_11 (by decide) ?_
    refine lv_iload_n hx hb dX10_burn_12 rfl (lv_at hl 1 rfl) ?_
    refine rd_callV (As := [.int 0, .int (nI j)]) (rest := []) hx hb hml hown hts hE hl.1 (c_X10_canBurn l G q0 q1 q2 q3 q4 q5 q6 q7 q8 q9 q10 q11 q12 q13 q14 tx ro co mp my md mr dr nw tk cs sa go to ty dm at_ so de ke sm 0 j (by decide) (by first | assumption | omega)) (cw_X10_151 hts) ⟨(Nat.le_of_ble_eq_true rfl), (Nat.le_of_ble_eq_true rfl)⟩ ⟨Nat.zero_le _, Nat.zero_le _⟩ rfl (sub_P hP [0, 1, 2, 3, 4, 5, 6, 7, 8, 9, 10, 11, 12, 13, 14] rfl) rfl rfl rfl rfl (Nat.le_of_ble_eq_true rfl) dX10_burn_13 ?_
    refine lv_if_ne (tgt := 22) hx hb dX10_burn_16 (by decide) (fun c16 => ?_) (fun c16 => ?_)
    · have c16 := zb_n0.mp c16
      exact absurd ⟨c5, c16⟩ hno
    · have c16 := zb_0.mp c16
      refine lv_bipush (v := -2) hx hb dX10_burn_19 (by decide) ?_
      exact rd_iret hx hb hr hlk dX10_burn_21 (by first | rfl | (simp [zb, c5, c16]; done))
  · have c5 := zb_0.mp c5
    refine lv_iconst (v := -1) hx hb dX10_burn_8 (by decide) ?_
    exact rd_iret hx hb hr hlk dX10_burn_9 (by first | rfl | (simp [zb, c5]; done))

set_option maxHeartbeats 4000000 in
set_option maxRecDepth 100000 in
theorem c_X10_build_y (l : Launch) (G : Gv) (q0 : Nat) (q1 : Nat) (q2 : Nat) (q3 : Nat) (q4 : Nat) (q5 : Nat) (q6 : Nat) (q7 : Nat) (q8 : Nat) (q9 : Nat) (q10 : Nat) (q11 : Nat) (q12 : Nat) (q13 : Nat) (q14 : Nat) (tx : Nat → Int32) (ro : Nat → Int32) (co : Nat → Int32) (mp : Nat → Int32) (my : Nat → Int32) (md : Nat → Int32) (mr : Nat → Int32) (dr : Nat → Int32) (nw : Nat → Int32) (tk : Nat → Int32) (cs : Nat → Int32) (sa : Nat → Int32) (go : Nat → Int32) (to : Nat → Int32) (ty : Nat) (dm : Nat) (at_ : Nat) (so : Bool) (de : Nat) (ke : Nat) (sm : Nat) (nr : Nat) (nc : Nat) (n : Nat) (x : Int32) (hde : de ≤ 8) (hro : ro 0 = nI nr) (hco : co 0 = nI nc) (hg1 : 2 ≤ nr ∧ nr ≤ 8) (hg2 : 2 ≤ nc ∧ nc ≤ 8) (hn1 : nw 1 = nI n) (hn : n ≤ 10) (hb1 : inG nr nc x = true) (hb2 : lsx (fun k => decide (cel nw 0 k = x)) n = -4) (hb3 : n < 10) : Ct l yX10_build cX10_build 3 (some .int) (rmz 2 44) G [.ref q0, .int x] [(q0, .inr (10, [.ref q1, .int (nI ty), .ref q2, .ref q3, .ref q4, .ref q5, .ref q6, .ref q7, .ref q8, .int (nI dm), .int (nI at_), .int (zb so), .ref q9, .int (nI de), .int (nI ke), .ref q10, .ref q11, .ref q12, .int (nI sm), .ref q13, .ref q14])), (q1, .inl (kB G, 200, .inl tx)), (q2, .inl (kI G, 2, .inl ro)), (q3, .inl (kI G, 2, .inl co)), (q4, .inl (kI G, 2, .inl mp)), (q5, .inl (kI G, 10, .inl my)), (q6, .inl (kI G, 10, .inl md)), (q7, .inl (kI G, 10, .inl mr)), (q8, .inl (kI G, 40, .inl dr)), (q9, .inl (kI G, 504, .inl nw)), (q10, .inl (kI G, 64, .inl tk)), (q11, .inl (kI G, 64, .inl cs)), (q12, .inl (kI G, 12, .inl sa)), (q13, .inl (kI G, 8, .inl go)), (q14, .inl (kI G, 2048, .inl to))] (one (some (.int (nI n))) [(q0, .inr (10, [.ref q1, .int (nI ty), .ref q2, .ref q3, .ref q4, .ref q5, .ref q6, .ref q7, .ref q8, .int (nI dm), .int (nI at_), .int (zb so), .ref q9, .int (nI (if de = 8 then 8 else de + 1)), .int (nI ke), .ref q10, .ref q11, .ref q12, .int (nI sm), .ref q13, .ref q14])), (q1, .inl (kB G, 200, .inl tx)), (q2, .inl (kI G, 2, .inl ro)), (q3, .inl (kI G, 2, .inl co)), (q4, .inl (kI G, 2, .inl mp)), (q5, .inl (kI G, 10, .inl my)), (q6, .inl (kI G, 10, .inl md)), (q7, .inl (kI G, 10, .inl mr)), (q8, .inl (kI G, 40, .inl dr)), (q9, .inl (kI G, 504, .inl (upd (upd (upd (upd (upd (knM nw de) (2 + n) x) (12 + n) ((knM nw de) 0)) (22 + n) 100000) (32 + n) 0) 1 (((upd (upd (upd (upd (knM nw de) (2 + n) x) (12 + n) ((knM nw de) 0)) (22 + n) 100000) (32 + n) 0) 1) + 1)))), (q10, .inl (kI G, 64, .inl tk)), (q11, .inl (kI G, 64, .inl cs)), (q12, .inl (kI G, 12, .inl sa)), (q13, .inl (kI G, 8, .inl go)), (q14, .inl (kI G, 2048, .inl to))]) := by
  refine Ct.ofW (by decide) (Nat.le_of_ble_eq_true rfl) ?_
  intro p e s m below meth c ls A hx hb hml hr hown hts hlk hnm hP hD hA hE hS hl
  obtain ⟨H, eH⟩ : ∃ H : Heap, H = s.heap := ⟨_, rfl⟩
  obtain ⟨locs, eL⟩ : ∃ ll : List Loc, ll = [] := ⟨_, rfl⟩
  rw [← eH] at hP
  have hS : va_S A s.heap H locs := by rw [eH, eL]; exact hS
  show WC p l e _ s m _ below meth c G A _ s.heap [] 0 0 _
  rw [← eH, ← eL]
  clear eH eL
  have hl : lv_has ls 3 [(0, .ref q0), (1, .int x)] := hl
  refine lv_aload_n hx hb dX10_build_0 rfl (lv_at hl 0 rfl) ?_
  refine lv_iload_n hx hb dX10_build_1 rfl (lv_at hl 1 rfl) ?_
  refine rd_callV (As := [.int x]) (rest := []) hx hb hml hown hts (hE.at0 hS) hl.1 (c_X10_isCell l G q0 q1 q2 q3 q4 q5 q6 q7 q8 q9 q10 q11 q12 q13 q14 tx ro co mp my md mr dr nw tk cs sa go to ty dm at_ so de ke sm nr nc x (by first | assumption | omega) (by first | assumption | omega) (by first | assumption | omega) (by first | assumption | omega)) (cw_X10_116 hts) ⟨(Nat.le_of_ble_eq_true rfl), (Nat.le_of_ble_eq_true rfl)⟩ ⟨Nat.zero_le _, Nat.zero_le _⟩ rfl (sub_P hP [0, 1, 2, 3, 4, 5, 6, 7, 8, 9, 10, 11, 12, 13, 14] rfl) rfl rfl rfl rfl (Nat.le_of_ble_eq_true rfl) dX10_build_2 ?_
  refine lv_if_ne (tgt := 10) hx hb dX10_build_5 (by decide) (fun c5 => ?_) (fun c5 => ?_)
  · have c5 := zb_n0.mp c5
    refine lv_aload_n hx hb dX10_build_10 rfl (lv_at hl 0 rfl) ?_
    refine lv_iload_n hx hb dX10_build_11 rfl (lv_at hl 1 rfl) ?_
    refine rd_callV (As := [.int x]) (rest := []) hx hb hml hown hts (hE.at0 hS) hl.1 (c_X10_thingAt l G q0 q1 q2 q3 q4 q5 q6 q7 q8 q9 q10 q11 q12 q13 q14 tx ro co mp my md mr dr nw tk cs sa go to ty dm at_ so de ke sm n x (by first | assumption | omega) (by first | assumption | omega)) (cw_X10_119 hts) ⟨(Nat.le_of_ble_eq_true rfl), (Nat.le_of_ble_eq_true rfl)⟩ ⟨Nat.zero_le _, Nat.zero_le _⟩ rfl (sub_P hP [0, 1, 2, 3, 4, 5, 6, 7, 8, 9, 10, 11, 12, 13, 14] rfl) rfl rfl rfl rfl (Nat.le_of_ble_eq_true rfl) dX10_build_12 ?_
    refine lv_bipush (v := -4) hx hb dX10_build_15 (by decide) ?_
    refine lv_icmp_eq (tgt := 23) hx hb dX10_build_17 (by decide) (fun c17 => ?_) (fun c17 => ?_)
    · refine lv_aload_n hx hb dX10_build_23 rfl (lv_at hl 0 rfl) ?_
      refine va_get hx hb hts inlX10 hown hE.1 hP 0 rfl rfl 12 (by decide) (fl_X10_35 hts) (fun _ h9 => h9) rfl dX10_build_24 ?_
      refine lv_iconst (v := 1) hx hb dX10_build_27 (by decide) ?_
      refine va_iald hx hb hE.1 hP 9 0 rfl rfl (inB_iff.mp (by decide)) dX10_build_28 ?_
      rw [show (1 : Int32).toNatClampNeg = 1 from rfl]
      rw [hn1]
      refine lv_istore_n (lv' := [(2, .int (nI n)), (0, .ref q0), (1, .int x)]) hx hb dX10_build_29 rfl hl (by decide) rfl (fun ls hl => ?_)
      refine lv_iload_n hx hb dX10_build_30 rfl (lv_at hl 0 rfl) ?_
      refine lv_bipush (v := 10) hx hb dX10_build_31 (by decide) ?_
      refine lv_icmp_ne (tgt := 39) hx hb dX10_build_33 (by decide) (fun c33 => ?_) (fun c33 => ?_)
      · refine lv_aload_n hx hb dX10_build_39 rfl (lv_at hl 1 rfl) ?_
        refine ct_callV (w1 := [(q0, .inr (10, [.ref q1, .int (nI ty), .ref q2, .ref q3, .ref q4, .ref q5, .ref q6, .ref q7, .ref q8, .int (nI dm), .int (nI at_), .int (zb so), .ref q9, .int (nI (if de = 8 then 8 else de + 1)), .int (nI ke), .ref q10, .ref q11, .ref q12, .int (nI sm), .ref q13, .ref q14])), (q1, .inl (kB G, 200, .inl tx)), (q2, .inl (kI G, 2, .inl ro)), (q3, .inl (kI G, 2, .inl co)), (q4, .inl (kI G, 2, .inl mp)), (q5, .inl (kI G, 10, .inl my)), (q6, .inl (kI G, 10, .inl md)), (q7, .inl (kI G, 10, .inl mr)), (q8, .inl (kI G, 40, .inl dr)), (q9, .inl (kI G, 504, .inl (knM nw de))), (q10, .inl (kI G, 64, .inl tk)), (q11, .inl (kI G, 64, .inl cs)), (q12, .inl (kI G, 12, .inl sa)), (q13, .inl (kI G, 8, .inl go)), (q14, .inl (kI G, 2048, .inl to))]) (wr := []) (wn := [(q0, .inr (10, [.ref q1, .int (nI ty), .ref q2, .ref q3, .ref q4, .ref q5, .ref q6, .ref q7, .ref q8, .int (nI dm), .int (nI at_), .int (zb so), .ref q9, .int (nI (if de = 8 then 8 else de + 1)), .int (nI ke), .ref q10, .ref q11, .ref q12, .int (nI sm), .ref q13, .ref q14])), (q1, .inl (kB G, 200, .inl tx)), (q2, .inl (kI G, 2, .inl ro)), (q3, .inl (kI G, 2, .inl co)), (q4, .inl (kI G, 2, .inl mp)), (q5, .inl (kI G, 10, .inl my)), (q6, .inl (kI G, 10, .inl md)), (q7, .inl (kI G, 10, .inl mr)), (q8, .inl (kI G, 40, .inl dr)), (q9, .inl (kI G, 504, .inl (knM nw de))), (q10, .inl (kI G, 64, .inl tk)), (q11, .inl (kI G, 64, .inl cs)), (q12, .inl (kI G, 12, .inl sa)), (q13, .inl (kI G, 8, .inl go)), (q14, .inl (kI G, 2048, .inl to))]) (As := []) (rest := []) hx hb hml hown hts hE hA hl.1 hP hD hS (c_X10_know l G q0 q1 q2 q3 q4 q5 q6 q7 q8 q9 q10 q11 q12 q13 q14 tx ro co mp my md mr dr nw tk cs sa go to ty dm at_ so de ke sm (by first | assumption | omega)) (cw_X10_148 hts) ⟨(Nat.le_of_ble_eq_true rfl), (Nat.le_of_ble_eq_true rfl)⟩ ⟨(Nat.le_of_ble_eq_true rfl), (Nat.le_of_ble_eq_true rfl)⟩ rfl [0, 1, 2, 3, 4, 5, 6, 7, 8, 9, 10, 11, 12, 13, 14] [] [0, 1, 2, 3, 4, 5, 6, 7, 8, 9, 10, 11, 12, 13, 14] rfl rfl ⟨by decide, by decide, by decide, by decide⟩ rfl rfl rfl rfl rfl (Nat.le_of_ble_eq_true rfl) dX10_build_40 (fun H locs hP hD hS => ?_)
        show WC p l e _ s m _ below meth c G A _ H locs 0 0 (F0 m 43 ls [])
        refine lv_aload_n hx hb dX10_build_43 rfl (lv_at hl 1 rfl) ?_
        refine lv_iload_n hx hb dX10_build_44 rfl (lv_at hl 0 rfl) ?_
        refine lv_iload_n hx hb dX10_build_45 rfl (lv_at hl 2 rfl) ?_
        refine lv_aload_n hx hb dX10_build_46 rfl (lv_at hl 1 rfl) ?_
        refine va_get hx hb hts inlX10 hown hE.1 hP 0 rfl rfl 12 (by decide) (fl_X10_35 hts) (fun _ h9 => h9) rfl dX10_build_47 ?_
        refine lv_iconst (v := 0) hx hb dX10_build_50 (by decide) ?_
        refine va_iald hx hb hE.1 hP 9 0 rfl rfl (inB_iff.mp (by decide)) dX10_build_51 ?_
        rw [show (0 : Int32).toNatClampNeg = 0 from rfl]
        refine lv_ldc hx hb hown (cn_X10_57 hts) dX10_build_52 ?_
        refine lv_iconst (v := 0) hx hb dX10_build_54 (by decide) ?_
        refine ct_callV (w1 := [(q0, .inr (10, [.ref q1, .int (nI ty), .ref q2, .ref q3, .ref q4, .ref q5, .ref q6, .ref q7, .ref q8, .int (nI dm), .int (nI at_), .int (zb so), .ref q9, .int (nI (if de = 8 then 8 else de + 1)), .int (nI ke), .ref q10, .ref q11, .ref q12, .int (nI sm), .ref q13, .ref q14])), (q1, .inl (kB G, 200, .inl tx)), (q2, .inl (kI G, 2, .inl ro)), (q3, .inl (kI G, 2, .inl co)), (q4, .inl (kI G, 2, .inl mp)), (q5, .inl (kI G, 10, .inl my)), (q6, .inl (kI G, 10, .inl md)), (q7, .inl (kI G, 10, .inl mr)), (q8, .inl (kI G, 40, .inl dr)), (q9, .inl (kI G, 504, .inl (upd (upd (upd (upd (knM nw de) (2 + n) x) (12 + n) ((knM nw de) 0)) (22 + n) 100000) (32 + n) 0))), (q10, .inl (kI G, 64, .inl tk)), (q11, .inl (kI G, 64, .inl cs)), (q12, .inl (kI G, 12, .inl sa)), (q13, .inl (kI G, 8, .inl go)), (q14, .inl (kI G, 2048, .inl to))]) (wr := []) (wn := [(q0, .inr (10, [.ref q1, .int (nI ty), .ref q2, .ref q3, .ref q4, .ref q5, .ref q6, .ref q7, .ref q8, .int (nI dm), .int (nI at_), .int (zb so), .ref q9, .int (nI (if de = 8 then 8 else de + 1)), .int (nI ke), .ref q10, .ref q11, .ref q12, .int (nI sm), .ref q13, .ref q14])), (q1, .inl (kB G, 200, .inl tx)), (q2, .inl (kI G, 2, .inl ro)), (q3, .inl (kI G, 2, .inl co)), (q4, .inl (kI G, 2, .inl mp)), (q5, .inl (kI G, 10, .inl my)), (q6, .inl (kI G, 10, .inl md)), (q7, .inl (kI G, 10, .inl mr)), (q8, .inl (kI G, 40, .inl dr)), (q9, .inl (kI G, 504, .inl (upd (upd (upd (upd (knM nw de) (2 + n) x) (12 + n) ((knM nw de) 0)) (22 + n) 100000) (32 + n) 0))), (q10, .inl (kI G, 64, .inl tk)), (q11, .inl (kI G, 64, .inl cs)), (q12, .inl (kI G, 12, .inl sa)), (q13, .inl (kI G, 8, .inl go)), (q14, .inl (kI G, 2048, .inl to))]) (As := [.int (nI n), .int x, .int ((knM nw de) 0), .int 100000, .int 0]) (rest := []) hx hb hml hown hts hE hA hl.1 hP hD hS (c_X10_first l G q0 q1 q2 q3 q4 q5 q6 q7 q8 q9 q10 q11 q12 q13 q14 tx ro co mp my md mr dr (knM nw de) tk cs sa go to ty dm at_ so (if de = 8 then 8 else de + 1) ke sm n x ((knM nw de) 0) 100000 0 (by first | assumption | omega)) (cw_X10_53 hts) ⟨(Nat.le_of_ble_eq_true rfl), (Nat.le_of_ble_eq_true rfl)⟩ ⟨(Nat.le_of_ble_eq_true rfl), (Nat.le_of_ble_eq_true rfl)⟩ rfl [0, 1, 2, 3, 4, 5, 6, 7, 8, 9, 10, 11, 12, 13, 14] [] [0, 1, 2, 3, 4, 5, 6, 7, 8, 9, 10, 11, 12, 13, 14] rfl rfl ⟨by decide, by decide, by decide, by decide⟩ rfl rfl rfl rfl rfl (Nat.le_of_ble_eq_true rfl) dX10_build_55 (fun H locs hP hD hS => ?_)
        show WC p l e _ s m _ below meth c G A _ H locs 0 0 (F0 m 58 ls [])
        refine lv_aload_n hx hb dX10_build_58 rfl (lv_at hl 1 rfl) ?_
        refine va_get hx hb hts inlX10 hown hE.1 hP 0 rfl rfl 12 (by decide) (fl_X10_35 hts) (fun _ h9 => h9) rfl dX10_build_59 ?_
        refine lv_iconst (v := 1) hx hb dX10_build_62 (by decide) ?_
        refine lv_dup2_11 hx hb dX10_build_63 rfl rfl ?_
        refine va_iald hx hb hE.1 hP 9 0 rfl rfl (inB_iff.mp (by decide)) dX10_build_64 ?_
        rw [show (1 : Int32).toNatClampNeg = 1 from rfl]
        refine lv_iconst (v := 1) hx hb dX10_build_65 (by decide) ?_
        refine lv_iadd hx hb dX10_build_66 ?_
        refine va_iast hx hb hE.1 hP hD hS 9 0 rfl rfl (inB_iff.mp (by decide)) dX10_build_67 (fun H locs hP hD hS => ?_)
        have hP : va_P G.1 vwCl [(q0, .inr (10, [.ref q1, .int (nI ty), .ref q2, .ref q3, .ref q4, .ref q5, .ref q6, .ref q7, .ref q8, .int (nI dm), .int (nI at_), .int (zb so), .ref q9, .int (nI (if de = 8 then 8 else de + 1)), .int (nI ke), .ref q10, .ref q11, .ref q12, .int (nI sm), .ref q13, .ref q14])), (q1, .inl (kB G, 200, .inl tx)), (q2, .inl (kI G, 2, .inl ro)), (q3, .inl (kI G, 2, .inl co)), (q4, .inl (kI G, 2, .inl mp)), (q5, .inl (kI G, 10, .inl my)), (q6, .inl (kI G, 10, .inl md)), (q7, .inl (kI G, 10, .inl mr)), (q8, .inl (kI G, 40, .inl dr)), (q9, .inl (kI G, 504, .inl (upd (upd (upd (upd (upd (knM nw de) (2 + n) x) (12 + n) ((knM nw de) 0)) (22 + n) 100000) (32 + n) 0) 1 (((upd (upd (upd (upd (knM nw de) (2 + n) x) (12 + n) ((knM nw de) 0)) (22 + n) 100000) (32 + n) 0) 1) + 1)))), (q10, .inl (kI G, 64, .inl tk)), (q11, .inl (kI G, 64, .inl cs)), (q12, .inl (kI G, 12, .inl sa)), (q13, .inl (kI G, 8, .inl go)), (q14, .inl (kI G, 2048, .inl to))] H := hP
        have hD : va_D A [(q0, .inr (10, [.ref q1, .int (nI ty), .ref q2, .ref q3, .ref q4, .ref q5, .ref q6, .ref q7, .ref q8, .int (nI dm), .int (nI at_), .int (zb so), .ref q9, .int (nI (if de = 8 then 8 else de + 1)), .int (nI ke), .ref q10, .ref q11, .ref q12, .int (nI sm), .ref q13, .ref q14])), (q1, .inl (kB G, 200, .inl tx)), (q2, .inl (kI G, 2, .inl ro)), (q3, .inl (kI G, 2, .inl co)), (q4, .inl (kI G, 2, .inl mp)), (q5, .inl (kI G, 10, .inl my)), (q6, .inl (kI G, 10, .inl md)), (q7, .inl (kI G, 10, .inl mr)), (q8, .inl (kI G, 40, .inl dr)), (q9, .inl (kI G, 504, .inl (upd (upd (upd (upd (upd (knM nw de) (2 + n) x) (12 + n) ((knM nw de) 0)) (22 + n) 100000) (32 + n) 0) 1 (((upd (upd (upd (upd (knM nw de) (2 + n) x) (12 + n) ((knM nw de) 0)) (22 + n) 100000) (32 + n) 0) 1) + 1)))), (q10, .inl (kI G, 64, .inl tk)), (q11, .inl (kI G, 64, .inl cs)), (q12, .inl (kI G, 12, .inl sa)), (q13, .inl (kI G, 8, .inl go)), (q14, .inl (kI G, 2048, .inl to))] := hD
        refine lv_iload_n hx hb dX10_build_68 rfl (lv_at hl 0 rfl) ?_
        exact ct_iret hx hb hr hlk dX10_build_69 hP hD hS (by first | exact ⟨rfl, rfl⟩ | (simp [one, c5, c17, c33]; done))
      · exact absurd ((nI_eq (a := n) (b := 10) (by omega) (by decide)).mp c33) (by omega)
    · exact absurd hb2 c17
  · have c5 := zb_0.mp c5
    exact absurd (c5.symm.trans hb1) (by decide)

set_option maxHeartbeats 4000000 in
set_option maxRecDepth 100000 in
theorem c_X10_build_n (l : Launch) (G : Gv) (q0 : Nat) (q1 : Nat) (q2 : Nat) (q3 : Nat) (q4 : Nat) (q5 : Nat) (q6 : Nat) (q7 : Nat) (q8 : Nat) (q9 : Nat) (q10 : Nat) (q11 : Nat) (q12 : Nat) (q13 : Nat) (q14 : Nat) (tx : Nat → Int32) (ro : Nat → Int32) (co : Nat → Int32) (mp : Nat → Int32) (my : Nat → Int32) (md : Nat → Int32) (mr : Nat → Int32) (dr : Nat → Int32) (nw : Nat → Int32) (tk : Nat → Int32) (cs : Nat → Int32) (sa : Nat → Int32) (go : Nat → Int32) (to : Nat → Int32) (ty : Nat) (dm : Nat) (at_ : Nat) (so : Bool) (de : Nat) (ke : Nat) (sm : Nat) (nr : Nat) (nc : Nat) (n : Nat) (x : Int32) (hro : ro 0 = nI nr) (hco : co 0 = nI nc) (hg1 : 2 ≤ nr ∧ nr ≤ 8) (hg2 : 2 ≤ nc ∧ nc ≤ 8) (hn1 : nw 1 = nI n) (hn : n ≤ 10) (hno : ¬ (inG nr nc x = true ∧ lsx (fun k => decide (cel nw 0 k = x)) n = -4 ∧ n < 10)) : Rd l yX10_build cX10_build 3 (some .int) (rmz 2 43) G [.ref q0, .int x] [(q0, .inr (10, [.ref q1, .int (nI ty), .ref q2, .ref q3, .ref q4, .ref q5, .ref q6, .ref q7, .ref q8, .int (nI dm), .int (nI at_), .int (zb so), .ref q9, .int (nI de), .int (nI ke), .ref q10, .ref q11, .ref q12, .int (nI sm), .ref q13, .ref q14])), (q1, .inl (kB G, 200, .inl tx)), (q2, .inl (kI G, 2, .inl ro)), (q3, .inl (kI G, 2, .inl co)), (q4, .inl (kI G, 2, .inl mp)), (q5, .inl (kI G, 10, .inl my)), (q6, .inl (kI G, 10, .inl md)), (q7, .inl (kI G, 10, .inl mr)), (q8, .inl (kI G, 40, .inl dr)), (q9, .inl (kI G, 504, .inl nw)), (q10, .inl (kI G, 64, .inl tk)), (q11, .inl (kI G, 64, .inl cs)), (q12, .inl (kI G, 12, .inl sa)), (q13, .inl (kI G, 8, .inl go)), (q14, .inl (kI G, 2048, .inl to))] (.int (if inG nr nc x then (if lsx (fun k => decide (cel nw 0 k = x)) n = -4 then -3 else -2) else -1)) := by
  refine Rd.ofW (by decide) (Nat.le_of_ble_eq_true rfl) ?_
  intro p e s m below meth c ls hx hb hml hr hown hts hlk hP hE hl
  have hl : lv_has ls 3 [(0, .ref q0), (1, .int x)] := hl
  refine lv_aload_n hx hb dX10_build_0 rfl (lv_at hl 0 rfl) ?_
  refine lv_iload_n hx hb dX10_build_1 rfl (lv_at hl 1 rfl) ?_
  refine rd_callV (As := [.int x]) (rest := []) hx hb hml hown hts hE hl.1 (c_X10_isCell l G q0 q1 q2 q3 q4 q5 q6 q7 q8 q9 q10 q11 q12 q13 q14 tx ro co mp my md mr dr nw tk cs sa go to ty dm at_ so de ke sm nr nc x (by first | assumption | omega) (by first | assumption | omega) (by first | assumption | omega) (by first | assumption | omega)) (cw_X10_116 hts) ⟨(Nat.le_of_ble_eq_true rfl), (Nat.le_of_ble_eq_true rfl)⟩ ⟨Nat.zero_le _, Nat.zero_le _⟩ rfl (sub_P hP [0, 1, 2, 3, 4, 5, 6, 7, 8, 9, 10, 11, 12, 13, 14] rfl) rfl rfl rfl rfl (Nat.le_of_ble_eq_true rfl) dX10_build_2 ?_
  refine lv_if_ne (tgt := 10) hx hb dX10_build_5 (by decide) (fun c5 => ?_) (fun c5 => ?_)
  · have c5 := zb_n0.mp c5
    refine lv_aload_n hx hb dX10_build_10 rfl (lv_at hl 0 rfl) ?_
    refine lv_iload_n hx hb dX10_build_11 rfl (lv_at hl 1 rfl) ?_
    refine rd_callV (As := [.int x]) (rest := []) hx hb hml hown hts hE hl.1 (c_X10_thingAt l G q0 q1 q2 q3 q4 q5 q6 q7 q8 q9 q10 q11 q12 q13 q14 tx ro co mp my md mr dr nw tk cs sa go to ty dm at_ so de ke sm n x (by first | assumption | omega) (by first | assumption | omega)) (cw_X10_119 hts) ⟨(Nat.le_of_ble_eq_true rfl), (Nat.le_of_ble_eq_true rfl)⟩ ⟨Nat.zero_le _, Nat.zero_le _⟩ rfl (sub_P hP [0, 1, 2, 3, 4, 5, 6, 7, 8, 9, 10, 11, 12, 13, 14] rfl) rfl rfl rfl rfl (Nat.le_of_ble_eq_true rfl) dX10_build_12 ?_
    refine lv_bipush (v := -4) hx hb dX10_build_15 (by decide) ?_
    refine lv_icmp_eq (tgt := 23) hx hb dX10_build_17 (by decide) (fun c17 => ?_) (fun c17 => ?_)
    · refine lv_aload_n hx hb dX10_build_23 rfl (lv_at hl 0 rfl) ?_
      refine va_get hx hb hts inlX10 hown hE.1 hP 0 rfl rfl 12 (by decide) (fl_X10_35 hts) (fun _ h9 => h9) rfl dX10_build_24 ?_
      refine lv_iconst (v := 1) hx hb dX10_build_27 (by decide) ?_
      refine va_iald hx hb hE.1 hP 9 0 rfl rfl (inB_iff.mp (by decide)) dX10_build_28 ?_
      rw [show (1 : Int32).toNatClampNeg = 1 from rfl]
      rw [hn1]
      refine lv_istore_n (lv' := [(2, .int (nI n)), (0, .ref q0), (1, .int x)]) hx hb dX10_build_29 rfl hl (by decide) rfl (fun ls hl => ?_)
      refine lv_iload_n hx hb dX10_build_30 rfl (lv_at hl 0 rfl) ?_
      refine lv_bipush (v := 10) hx hb dX10_build_31 (by decide) ?_
      refine lv_icmp_ne (tgt := 39) hx hb dX10_build_33 (by decide) (fun c33 => ?_) (fun c33 => ?_)
      · exact absurd ⟨c5, c17, (by rcases Nat.lt_or_ge n 10 with z | z; exact z; exact absurd (show nI n = 10 by rw [show n = 10 by omega]; rfl) c33)⟩ hno
      · refine lv_bipush (v := -3) hx hb dX10_build_36 (by decide) ?_
        exact rd_iret hx hb hr hlk dX10_build_38 (by first | rfl | (simp [zb, c5, c17, c33]; done))
    · refine lv_bipush (v := -2) hx hb dX10_build_20 (by decide) ?_
      exact rd_iret hx hb hr hlk dX10_build_22 (by first | rfl | (simp [zb, c5, c17]; done))
  · have c5 := zb_0.mp c5
    refine lv_iconst (v := -1) hx hb dX10_build_8 (by decide) ?_
    exact rd_iret hx hb hr hlk dX10_build_9 (by first | rfl | (simp [zb, c5]; done))

set_option maxHeartbeats 4000000 in
set_option maxRecDepth 100000 in
theorem c_X10_undo_y (l : Launch) (G : Gv) (q0 : Nat) (q1 : Nat) (q2 : Nat) (q3 : Nat) (q4 : Nat) (q5 : Nat) (q6 : Nat) (q7 : Nat) (q8 : Nat) (q9 : Nat) (q10 : Nat) (q11 : Nat) (q12 : Nat) (q13 : Nat) (q14 : Nat) (tx : Nat → Int32) (ro : Nat → Int32) (co : Nat → Int32) (mp : Nat → Int32) (my : Nat → Int32) (md : Nat → Int32) (mr : Nat → Int32) (dr : Nat → Int32) (nw : Nat → Int32) (tk : Nat → Int32) (cs : Nat → Int32) (sa : Nat → Int32) (go : Nat → Int32) (to : Nat → Int32) (ty : Nat) (dm : Nat) (at_ : Nat) (so : Bool) (de : Nat) (ke : Nat) (sm : Nat) (hde : de ≤ 8) (h0 : 0 < de) : Ct l yX10_undo cX10_undo 1 (some .int) (rmz 1 23) G [.ref q0] [(q0, .inr (10, [.ref q1, .int (nI ty), .ref q2, .ref q3, .ref q4, .ref q5, .ref q6, .ref q7, .ref q8, .int (nI dm), .int (nI at_), .int (zb so), .ref q9, .int (nI de), .int (nI ke), .ref q10, .ref q11, .ref q12, .int (nI sm), .ref q13, .ref q14])), (q1, .inl (kB G, 200, .inl tx)), (q2, .inl (kI G, 2, .inl ro)), (q3, .inl (kI G, 2, .inl co)), (q4, .inl (kI G, 2, .inl mp)), (q5, .inl (kI G, 10, .inl my)), (q6, .inl (kI G, 10, .inl md)), (q7, .inl (kI G, 10, .inl mr)), (q8, .inl (kI G, 40, .inl dr)), (q9, .inl (kI G, 504, .inl nw)), (q10, .inl (kI G, 64, .inl tk)), (q11, .inl (kI G, 64, .inl cs)), (q12, .inl (kI G, 12, .inl sa)), (q13, .inl (kI G, 8, .inl go)), (q14, .inl (kI G, 2048, .inl to))] (one (some (.int (nI (de - 1)))) [(q0, .inr (10, [.ref q1, .int (nI ty), .ref q2, .ref q3, .ref q4, .ref q5, .ref q6, .ref q7, .ref q8, .int (nI dm), .int (nI at_), .int (zb so), .ref q9, .int (nI (de - 1)), .int (nI ke), .ref q10, .ref q11, .ref q12, .int (nI sm), .ref q13, .ref q14])), (q1, .inl (kB G, 200, .inl tx)), (q2, .inl (kI G, 2, .inl ro)), (q3, .inl (kI G, 2, .inl co)), (q4, .inl (kI G, 2, .inl mp)), (q5, .inl (kI G, 10, .inl my)), (q6, .inl (kI G, 10, .inl md)), (q7, .inl (kI G, 10, .inl mr)), (q8, .inl (kI G, 40, .inl dr)), (q9, .inl (kI G, 504, .inl (cpM nw (42 + (42 * (de - 1))) 0 42))), (q10, .inl (kI G, 64, .inl tk)), (q11, .inl (kI G, 64, .inl cs)), (q12, .inl (kI G, 12, .inl sa)), (q13, .inl (kI G, 8, .inl go)), (q14, .inl (kI G, 2048, .inl to))]) := by
  refine Ct.ofW (by decide) (Nat.le_of_ble_eq_true rfl) ?_
  intro p e s m below meth c ls A hx hb hml hr hown hts hlk hnm hP hD hA hE hS hl
  obtain ⟨H, eH⟩ : ∃ H : Heap, H = s.heap := ⟨_, rfl⟩
  obtain ⟨locs, eL⟩ : ∃ ll : List Loc, ll = [] := ⟨_, rfl⟩
  rw [← eH] at hP
  have hS : va_S A s.heap H locs := by rw [eH, eL]; exact hS
  show WC p l e _ s m _ below meth c G A _ s.heap [] 0 0 _
  rw [← eH, ← eL]
  clear eH eL
  have hl : lv_has ls 1 [(0, .ref q0)] := hl
  refine lv_aload_n hx hb dX10_undo_0 rfl (lv_at hl 0 rfl) ?_
  refine va_get hx hb hts inlX10 hown hE.1 hP 0 rfl rfl 13 (by decide) (fl_X10_97 hts) (fun _ h9 => h9) rfl dX10_undo_1 ?_
  refine lv_if_ne (tgt := 10) hx hb dX10_undo_4 (by decide) (fun c4 => ?_) (fun c4 => ?_)
  · refine lv_aload_n hx hb dX10_undo_10 rfl (lv_at hl 0 rfl) ?_
    refine lv_dup hx hb dX10_undo_11 rfl ?_
    refine va_get hx hb hts inlX10 hown hE.1 hP 0 rfl rfl 13 (by decide) (fl_X10_97 hts) (fun _ h9 => h9) rfl dX10_undo_12 ?_
    refine lv_iconst (v := 1) hx hb dX10_undo_15 (by decide) ?_
    refine lv_isub hx hb dX10_undo_16 ?_
    rw [show nI de - 1 = nI (de - 1) from nI_sub1 (by omega)]
    refine va_put (v := .int (nI (de - 1))) (ty := .int) hx hb hts inlX10 tyX10 tyX10_ok nmX10 hown hE.1 hP hD hS 0 rfl rfl 13 (by decide) (fl_X10_97 hts) (fun _ h9 => h9) rfl (by decide +kernel) rfl rfl (Nat.le_of_ble_eq_true rfl) dX10_undo_17 (fun H locs hP hD hS => ?_)
    have hP : va_P G.1 vwCl [(q0, .inr (10, [.ref q1, .int (nI ty), .ref q2, .ref q3, .ref q4, .ref q5, .ref q6, .ref q7, .ref q8, .int (nI dm), .int (nI at_), .int (zb so), .ref q9, .int (nI (de - 1)), .int (nI ke), .ref q10, .ref q11, .ref q12, .int (nI sm), .ref q13, .ref q14])), (q1, .inl (kB G, 200, .inl tx)), (q2, .inl (kI G, 2, .inl ro)), (q3, .inl (kI G, 2, .inl co)), (q4, .inl (kI G, 2, .inl mp)), (q5, .inl (kI G, 10, .inl my)), (q6, .inl (kI G, 10, .inl md)), (q7, .inl (kI G, 10, .inl mr)), (q8, .inl (kI G, 40, .inl dr)), (q9, .inl (kI G, 504, .inl nw)), (q10, .inl (kI G, 64, .inl tk)), (q11, .inl (kI G, 64, .inl cs)), (q12, .inl (kI G, 12, .inl sa)), (q13, .inl (kI G, 8, .inl go)), (q14, .inl (kI G, 2048, .inl to))] H := hP
    have hD : va_D A [(q0, .inr (10, [.ref q1, .int (nI ty), .ref q2, .ref q3, .ref q4, .ref q5, .ref q6, .ref q7, .ref q8, .int (nI dm), .int (nI at_), .int (zb so), .ref q9, .int (nI (de - 1)), .int (nI ke), .ref q10, .ref q11, .ref q12, .int (nI sm), .ref q13, .ref q14])), (q1, .inl (kB G, 200, .inl tx)), (q2, .inl (kI G, 2, .inl ro)), (q3, .inl (kI G, 2, .inl co)), (q4, .inl (kI G, 2, .inl mp)), (q5, .inl (kI G, 10, .inl my)), (q6, .inl (kI G, 10, .inl md)), (q7, .inl (kI G, 10, .inl mr)), (q8, .inl (kI G, 40, .inl dr)), (q9, .inl (kI G, 504, .inl nw)), (q10, .inl (kI G, 64, .inl tk)), (q11, .inl (kI G, 64, .inl cs)), (q12, .inl (kI G, 12, .inl sa)), (q13, .inl (kI G, 8, .inl go)), (q14, .inl (kI G, 2048, .inl to))] := hD
    refine lv_aload_n hx hb dX10_undo_20 rfl (lv_at hl 0 rfl) ?_
    refine lv_bipush (v := 42) hx hb dX10_undo_21 (by decide) ?_
    refine lv_bipush (v := 42) hx hb dX10_undo_23 (by decide) ?_
    refine lv_aload_n hx hb dX10_undo_25 rfl (lv_at hl 0 rfl) ?_
    refine va_get hx hb hts inlX10 hown hE.1 hP 0 rfl rfl 13 (by decide) (fl_X10_97 hts) (fun _ h9 => h9) rfl dX10_undo_26 ?_
    refine lv_imul hx hb dX10_undo_29 ?_
    rw [show (42 : Int32) * (nI (de - 1)) = nI (42 * (de - 1)) from pk_mul 42 (de - 1)]
    refine lv_iadd hx hb dX10_undo_30 ?_
    rw [show (42 : Int32) + (nI (42 * (de - 1))) = nI (42 + (42 * (de - 1))) from nI_add 42 (42 * (de - 1))]
    refine lv_iconst (v := 0) hx hb dX10_undo_31 (by decide) ?_
    refine ct_callV (w1 := [(q0, .inr (10, [.ref q1, .int (nI ty), .ref q2, .ref q3, .ref q4, .ref q5, .ref q6, .ref q7, .ref q8, .int (nI dm), .int (nI at_), .int (zb so), .ref q9, .int (nI (de - 1)), .int (nI ke), .ref q10, .ref q11, .ref q12, .int (nI sm), .ref q13, .ref q14])), (q1, .inl (kB G, 200, .inl tx)), (q2, .inl (kI G, 2, .inl ro)), (q3, .inl (kI G, 2, .inl co)), (q4, .inl (kI G, 2, .inl mp)), (q5, .inl (kI G, 10, .inl my)), (q6, .inl (kI G, 10, .inl md)), (q7, .inl (kI G, 10, .inl mr)), (q8, .inl (kI G, 40, .inl dr)), (q9, .inl (kI G, 504, .inl (cpM nw (42 + (42 * (de - 1))) 0 42))), (q10, .inl (kI G, 64, .inl tk)), (q11, .inl (kI G, 64, .inl cs)), (q12, .inl (kI G, 12, .inl sa)), (q13, .inl (kI G, 8, .inl go)), (q14, .inl (kI G, 2048, .inl to))]) (wr := []) (wn := [(q0, .inr (10, [.ref q1, .int (nI ty), .ref q2, .ref q3, .ref q4, .ref q5, .ref q6, .ref q7, .ref q8, .int (nI dm), .int (nI at_), .int (zb so), .ref q9, .int (nI (de - 1)), .int (nI ke), .ref q10, .ref q11, .ref q12, .int (nI sm), .ref q13, .ref q14])), (q1, .inl (kB G, 200, .inl tx)), (q2, .inl (kI G, 2, .inl ro)), (q3, .inl (kI G, 2, .inl co)), (q4, .inl (kI G, 2, .inl mp)), (q5, .inl (kI G, 10, .inl my)), (q6, .inl (kI G, 10, .inl md)), (q7, .inl (kI G, 10, .inl mr)), (q8, .inl (kI G, 40, .inl dr)), (q9, .inl (kI G, 504, .inl (cpM nw (42 + (42 * (de - 1))) 0 42))), (q10, .inl (kI G, 64, .inl tk)), (q11, .inl (kI G, 64, .inl cs)), (q12, .inl (kI G, 12, .inl sa)), (q13, .inl (kI G, 8, .inl go)), (q14, .inl (kI G, 2048, .inl to))]) (As := [.int (nI (42 + (42 * (de - 1)))), .int 0]) (rest := []) hx hb hml hown hts hE hA hl.1 hP hD hS (c_X10_copy l G q0 q1 q2 q3 q4 q5 q6 q7 q8 q9 q10 q11 q12 q13 q14 tx ro co mp my md mr dr nw tk cs sa go to ty dm at_ so (de - 1) ke sm (42 + (42 * (de - 1))) 0 (by first | assumption | omega) (by first | assumption | omega)) (cw_X10_144 hts) ⟨(Nat.le_of_ble_eq_true rfl), (Nat.le_of_ble_eq_true rfl)⟩ ⟨(Nat.le_of_ble_eq_true rfl), (Nat.le_of_ble_eq_true rfl)⟩ rfl [0, 1, 2, 3, 4, 5, 6, 7, 8, 9, 10, 11, 12, 13, 14] [] [0, 1, 2, 3, 4, 5, 6, 7, 8, 9, 10, 11, 12, 13, 14] rfl rfl ⟨by decide, by decide, by decide, by decide⟩ rfl rfl rfl rfl rfl (Nat.le_of_ble_eq_true rfl) dX10_undo_32 (fun H locs hP hD hS => ?_)
    show WC p l e _ s m _ below meth c G A _ H locs 0 0 (F0 m 35 ls [])
    refine lv_aload_n hx hb dX10_undo_35 rfl (lv_at hl 0 rfl) ?_
    refine va_get hx hb hts inlX10 hown hE.1 hP 0 rfl rfl 13 (by decide) (fl_X10_97 hts) (fun _ h9 => h9) rfl dX10_undo_36 ?_
    exact ct_iret hx hb hr hlk dX10_undo_39 hP hD hS (by first | exact ⟨rfl, rfl⟩ | (simp [one, c4]; done))
  · exact absurd ((nI_eq (a := de) (b := 0) (by omega) (by decide)).mp c4) (by omega)

set_option maxHeartbeats 4000000 in
set_option maxRecDepth 100000 in
theorem c_X10_undo_n (l : Launch) (G : Gv) (q0 : Nat) (q1 : Nat) (q2 : Nat) (q3 : Nat) (q4 : Nat) (q5 : Nat) (q6 : Nat) (q7 : Nat) (q8 : Nat) (q9 : Nat) (q10 : Nat) (q11 : Nat) (q12 : Nat) (q13 : Nat) (q14 : Nat) (tx : Nat → Int32) (ro : Nat → Int32) (co : Nat → Int32) (mp : Nat → Int32) (my : Nat → Int32) (md : Nat → Int32) (mr : Nat → Int32) (dr : Nat → Int32) (nw : Nat → Int32) (tk : Nat → Int32) (cs : Nat → Int32) (sa : Nat → Int32) (go : Nat → Int32) (to : Nat → Int32) (ty : Nat) (dm : Nat) (at_ : Nat) (so : Bool) (de : Nat) (ke : Nat) (sm : Nat) (h0 : de = 0) : Rd l yX10_undo cX10_undo 1 (some .int) (rmz 0 0) G [.ref q0] [(q0, .inr (10, [.ref q1, .int (nI ty), .ref q2, .ref q3, .ref q4, .ref q5, .ref q6, .ref q7, .ref q8, .int (nI dm), .int (nI at_), .int (zb so), .ref q9, .int (nI de), .int (nI ke), .ref q10, .ref q11, .ref q12, .int (nI sm), .ref q13, .ref q14])), (q1, .inl (kB G, 200, .inl tx)), (q2, .inl (kI G, 2, .inl ro)), (q3, .inl (kI G, 2, .inl co)), (q4, .inl (kI G, 2, .inl mp)), (q5, .inl (kI G, 10, .inl my)), (q6, .inl (kI G, 10, .inl md)), (q7, .inl (kI G, 10, .inl mr)), (q8, .inl (kI G, 40, .inl dr)), (q9, .inl (kI G, 504, .inl nw)), (q10, .inl (kI G, 64, .inl tk)), (q11, .inl (kI G, 64, .inl cs)), (q12, .inl (kI G, 12, .inl sa)), (q13, .inl (kI G, 8, .inl go)), (q14, .inl (kI G, 2048, .inl to))] (.int (-2)) := by
  refine Rd.ofW (by decide) (Nat.le_of_ble_eq_true rfl) ?_
  intro p e s m below meth c ls hx hb hml hr hown hts hlk hP hE hl
  have hl : lv_has ls 1 [(0, .ref q0)] := hl
  refine lv_aload_n hx hb dX10_undo_0 rfl (lv_at hl 0 rfl) ?_
  refine va_get hx hb hts inlX10 hown hE.1 hP 0 rfl rfl 13 (by decide) (fl_X10_97 hts) (fun _ h9 => h9) rfl dX10_undo_1 ?_
  refine lv_if_ne (tgt := 10) hx hb dX10_undo_4 (by decide) (fun c4 => ?_) (fun c4 => ?_)
  · exact absurd (by rw [h0]; rfl) c4
  · refine lv_bipush (v := -2) hx hb dX10_undo_7 (by decide) ?_
    exact rd_iret hx hb hr hlk dX10_undo_9 (by first | rfl | (simp [zb, c4]; done))

set_option maxHeartbeats 4000000 in
set_option maxRecDepth 100000 in
theorem c_X10_keep_y (l : Launch) (G : Gv) (q0 : Nat) (q1 : Nat) (q2 : Nat) (q3 : Nat) (q4 : Nat) (q5 : Nat) (q6 : Nat) (q7 : Nat) (q8 : Nat) (q9 : Nat) (q10 : Nat) (q11 : Nat) (q12 : Nat) (q13 : Nat) (q14 : Nat) (tx : Nat → Int32) (ro : Nat → Int32) (co : Nat → Int32) (mp : Nat → Int32) (my : Nat → Int32) (md : Nat → Int32) (mr : Nat → Int32) (dr : Nat → Int32) (nw : Nat → Int32) (tk : Nat → Int32) (cs : Nat → Int32) (sa : Nat → Int32) (go : Nat → Int32) (to : Nat → Int32) (ty : Nat) (dm : Nat) (at_ : Nat) (so : Bool) (de : Nat) (ke : Nat) (sm : Nat) (hke : ke < 2) : Ct l yX10_keep cX10_keep 1 (some .int) (rmz 1 23) G [.ref q0] [(q0, .inr (10, [.ref q1, .int (nI ty), .ref q2, .ref q3, .ref q4, .ref q5, .ref q6, .ref q7, .ref q8, .int (nI dm), .int (nI at_), .int (zb so), .ref q9, .int (nI de), .int (nI ke), .ref q10, .ref q11, .ref q12, .int (nI sm), .ref q13, .ref q14])), (q1, .inl (kB G, 200, .inl tx)), (q2, .inl (kI G, 2, .inl ro)), (q3, .inl (kI G, 2, .inl co)), (q4, .inl (kI G, 2, .inl mp)), (q5, .inl (kI G, 10, .inl my)), (q6, .inl (kI G, 10, .inl md)), (q7, .inl (kI G, 10, .inl mr)), (q8, .inl (kI G, 40, .inl dr)), (q9, .inl (kI G, 504, .inl nw)), (q10, .inl (kI G, 64, .inl tk)), (q11, .inl (kI G, 64, .inl cs)), (q12, .inl (kI G, 12, .inl sa)), (q13, .inl (kI G, 8, .inl go)), (q14, .inl (kI G, 2048, .inl to))] (one (some (.int (nI (ke + 1)))) [(q0, .inr (10, [.ref q1, .int (nI ty), .ref q2, .ref q3, .ref q4, .ref q5, .ref q6, .ref q7, .ref q8, .int (nI dm), .int (nI at_), .int (zb so), .ref q9, .int (nI de), .int (nI (ke + 1)), .ref q10, .ref q11, .ref q12, .int (nI sm), .ref q13, .ref q14])), (q1, .inl (kB G, 200, .inl tx)), (q2, .inl (kI G, 2, .inl ro)), (q3, .inl (kI G, 2, .inl co)), (q4, .inl (kI G, 2, .inl mp)), (q5, .inl (kI G, 10, .inl my)), (q6, .inl (kI G, 10, .inl md)), (q7, .inl (kI G, 10, .inl mr)), (q8, .inl (kI G, 40, .inl dr)), (q9, .inl (kI G, 504, .inl (cpM nw 0 (378 + (42 * ke)) 42))), (q10, .inl (kI G, 64, .inl tk)), (q11, .inl (kI G, 64, .inl cs)), (q12, .inl (kI G, 12, .inl sa)), (q13, .inl (kI G, 8, .inl go)), (q14, .inl (kI G, 2048, .inl to))]) := by
  refine Ct.ofW (by decide) (Nat.le_of_ble_eq_true rfl) ?_
  intro p e s m below meth c ls A hx hb hml hr hown hts hlk hnm hP hD hA hE hS hl
  obtain ⟨H, eH⟩ : ∃ H : Heap, H = s.heap := ⟨_, rfl⟩
  obtain ⟨locs, eL⟩ : ∃ ll : List Loc, ll = [] := ⟨_, rfl⟩
  rw [← eH] at hP
  have hS : va_S A s.heap H locs := by rw [eH, eL]; exact hS
  show WC p l e _ s m _ below meth c G A _ s.heap [] 0 0 _
  rw [← eH, ← eL]
  clear eH eL
  have hl : lv_has ls 1 [(0, .ref q0)] := hl
  refine lv_aload_n hx hb dX10_keep_0 rfl (lv_at hl 0 rfl) ?_
  refine va_get hx hb hts inlX10 hown hE.1 hP 0 rfl rfl 14 (by decide) (fl_X10_100 hts) (fun _ h9 => h9) rfl dX10_keep_1 ?_
  refine lv_iconst (v := 2) hx hb dX10_keep_4 (by decide) ?_
  refine lv_icmp_ne (tgt := 11) hx hb dX10_keep_5 (by decide) (fun c5 => ?_) (fun c5 => ?_)
  · refine lv_aload_n hx hb dX10_keep_11 rfl (lv_at hl 0 rfl) ?_
    refine lv_iconst (v := 0) hx hb dX10_keep_12 (by decide) ?_
    refine lv_sipush (v := 378) hx hb dX10_keep_13 (by decide) ?_
    refine lv_bipush (v := 42) hx hb dX10_keep_16 (by decide) ?_
    refine lv_aload_n hx hb dX10_keep_18 rfl (lv_at hl 0 rfl) ?_
    refine va_get hx hb hts inlX10 hown hE.1 hP 0 rfl rfl 14 (by decide) (fl_X10_100 hts) (fun _ h9 => h9) rfl dX10_keep_19 ?_
    refine lv_imul hx hb dX10_keep_22 ?_
    rw [show (42 : Int32) * (nI ke) = nI (42 * ke) from pk_mul 42 ke]
    refine lv_iadd hx hb dX10_keep_23 ?_
    rw [show (378 : Int32) + (nI (42 * ke)) = nI (378 + (42 * ke)) from nI_add 378 (42 * ke)]
    refine ct_callV (w1 := [(q0, .inr (10, [.ref q1, .int (nI ty), .ref q2, .ref q3, .ref q4, .ref q5, .ref q6, .ref q7, .ref q8, .int (nI dm), .int (nI at_), .int (zb so), .ref q9, .int (nI de), .int (nI ke), .ref q10, .ref q11, .ref q12, .int (nI sm), .ref q13, .ref q14])), (q1, .inl (kB G, 200, .inl tx)), (q2, .inl (kI G, 2, .inl ro)), (q3, .inl (kI G, 2, .inl co)), (q4, .inl (kI G, 2, .inl mp)), (q5, .inl (kI G, 10, .inl my)), (q6, .inl (kI G, 10, .inl md)), (q7, .inl (kI G, 10, .inl mr)), (q8, .inl (kI G, 40, .inl dr)), (q9, .inl (kI G, 504, .inl (cpM nw 0 (378 + (42 * ke)) 42))), (q10, .inl (kI G, 64, .inl tk)), (q11, .inl (kI G, 64, .inl cs)), (q12, .inl (kI G, 12, .inl sa)), (q13, .inl (kI G, 8, .inl go)), (q14, .inl (kI G, 2048, .inl to))]) (wr := []) (wn := [(q0, .inr (10, [.ref q1, .int (nI ty), .ref q2, .ref q3, .ref q4, .ref q5, .ref q6, .ref q7, .ref q8, .int (nI dm), .int (nI at_), .int (zb so), .ref q9, .int (nI de), .int (nI ke), .ref q10, .ref q11, .ref q12, .int (nI sm), .ref q13, .ref q14])), (q1, .inl (kB G, 200, .inl tx)), (q2, .inl (kI G, 2, .inl ro)), (q3, .inl (kI G, 2, .inl co)), (q4, .inl (kI G, 2, .inl mp)), (q5, .inl (kI G, 10, .inl my)), (q6, .inl (kI G, 10, .inl md)), (q7, .inl (kI G, 10, .inl mr)), (q8, .inl (kI G, 40, .inl dr)), (q9, .inl (kI G, 504, .inl (cpM nw 0 (378 + (42 * ke)) 42))), (q10, .inl (kI G, 64, .inl tk)), (q11, .inl (kI G, 64, .inl cs)), (q12, .inl (kI G, 12, .inl sa)), (q13, .inl (kI G, 8, .inl go)), (q14, .inl (kI G, 2048, .inl to))]) (As := [.int 0, .int (nI (378 + (42 * ke)))]) (rest := []) hx hb hml hown hts hE hA hl.1 hP hD hS (c_X10_copy l G q0 q1 q2 q3 q4 q5 q6 q7 q8 q9 q10 q11 q12 q13 q14 tx ro co mp my md mr dr nw tk cs sa go to ty dm at_ so de ke sm 0 (378 + (42 * ke)) (by first | assumption | omega) (by first | assumption | omega)) (cw_X10_144 hts) ⟨(Nat.le_of_ble_eq_true rfl), (Nat.le_of_ble_eq_true rfl)⟩ ⟨(Nat.le_of_ble_eq_true rfl), (Nat.le_of_ble_eq_true rfl)⟩ rfl [0, 1, 2, 3, 4, 5, 6, 7, 8, 9, 10, 11, 12, 13, 14] [] [0, 1, 2, 3, 4, 5, 6, 7, 8, 9, 10, 11, 12, 13, 14] rfl rfl ⟨by decide, by decide, by decide, by decide⟩ rfl rfl rfl rfl rfl (Nat.le_of_ble_eq_true rfl) dX10_keep_24 (fun H locs hP hD hS => ?_)
    show WC p l e _ s m _ below meth c G A _ H locs 0 0 (F0 m 27 ls [])
    refine lv_aload_n hx hb dX10_keep_27 rfl (lv_at hl 0 rfl) ?_
    refine lv_dup hx hb dX10_keep_28 rfl ?_
    refine va_get hx hb hts inlX10 hown hE.1 hP 0 rfl rfl 14 (by decide) (fl_X10_100 hts) (fun _ h9 => h9) rfl dX10_keep_29 ?_
    refine lv_iconst (v := 1) hx hb dX10_keep_32 (by decide) ?_
    refine lv_iadd hx hb dX10_keep_33 ?_
    rw [show (nI ke) + (1 : Int32) = nI (ke + 1) from nI_add ke 1]
    refine va_put (v := .int (nI (ke + 1))) (ty := .int) hx hb hts inlX10 tyX10 tyX10_ok nmX10 hown hE.1 hP hD hS 0 rfl rfl 14 (by decide) (fl_X10_100 hts) (fun _ h9 => h9) rfl (by decide +kernel) rfl rfl (Nat.le_of_ble_eq_true rfl) dX10_keep_34 (fun H locs hP hD hS => ?_)
    have hP : va_P G.1 vwCl [(q0, .inr (10, [.ref q1, .int (nI ty), .ref q2, .ref q3, .ref q4, .ref q5, .ref q6, .ref q7, .ref q8, .int (nI dm), .int (nI at_), .int (zb so), .ref q9, .int (nI de), .int (nI (ke + 1)), .ref q10, .ref q11, .ref q12, .int (nI sm), .ref q13, .ref q14])), (q1, .inl (kB G, 200, .inl tx)), (q2, .inl (kI G, 2, .inl ro)), (q3, .inl (kI G, 2, .inl co)), (q4, .inl (kI G, 2, .inl mp)), (q5, .inl (kI G, 10, .inl my)), (q6, .inl (kI G, 10, .inl md)), (q7, .inl (kI G, 10, .inl mr)), (q8, .inl (kI G, 40, .inl dr)), (q9, .inl (kI G, 504, .inl (cpM nw 0 (378 + (42 * ke)) 42))), (q10, .inl (kI G, 64, .inl tk)), (q11, .inl (kI G, 64, .inl cs)), (q12, .inl (kI G, 12, .inl sa)), (q13, .inl (kI G, 8, .inl go)), (q14, .inl (kI G, 2048, .inl to))] H := hP
    have hD : va_D A [(q0, .inr (10, [.ref q1, .int (nI ty), .ref q2, .ref q3, .ref q4, .ref q5, .ref q6, .ref q7, .ref q8, .int (nI dm), .int (nI at_), .int (zb so), .ref q9, .int (nI de), .int (nI (ke + 1)), .ref q10, .ref q11, .ref q12, .int (nI sm), .ref q13, .ref q14])), (q1, .inl (kB G, 200, .inl tx)), (q2, .inl (kI G, 2, .inl ro)), (q3, .inl (kI G, 2, .inl co)), (q4, .inl (kI G, 2, .inl mp)), (q5, .inl (kI G, 10, .inl my)), (q6, .inl (kI G, 10, .inl md)), (q7, .inl (kI G, 10, .inl mr)), (q8, .inl (kI G, 40, .inl dr)), (q9, .inl (kI G, 504, .inl (cpM nw 0 (378 + (42 * ke)) 42))), (q10, .inl (kI G, 64, .inl tk)), (q11, .inl (kI G, 64, .inl cs)), (q12, .inl (kI G, 12, .inl sa)), (q13, .inl (kI G, 8, .inl go)), (q14, .inl (kI G, 2048, .inl to))] := hD
    refine lv_aload_n hx hb dX10_keep_37 rfl (lv_at hl 0 rfl) ?_
    refine va_get hx hb hts inlX10 hown hE.1 hP 0 rfl rfl 14 (by decide) (fl_X10_100 hts) (fun _ h9 => h9) rfl dX10_keep_38 ?_
    exact ct_iret hx hb hr hlk dX10_keep_41 hP hD hS (by first | exact ⟨rfl, rfl⟩ | (simp [one, c5]; done))
  · exact absurd ((nI_eq (a := ke) (b := 2) (by omega) (by decide)).mp c5) (by omega)

set_option maxHeartbeats 4000000 in
set_option maxRecDepth 100000 in
theorem c_X10_keep_n (l : Launch) (G : Gv) (q0 : Nat) (q1 : Nat) (q2 : Nat) (q3 : Nat) (q4 : Nat) (q5 : Nat) (q6 : Nat) (q7 : Nat) (q8 : Nat) (q9 : Nat) (q10 : Nat) (q11 : Nat) (q12 : Nat) (q13 : Nat) (q14 : Nat) (tx : Nat → Int32) (ro : Nat → Int32) (co : Nat → Int32) (mp : Nat → Int32) (my : Nat → Int32) (md : Nat → Int32) (mr : Nat → Int32) (dr : Nat → Int32) (nw : Nat → Int32) (tk : Nat → Int32) (cs : Nat → Int32) (sa : Nat → Int32) (go : Nat → Int32) (to : Nat → Int32) (ty : Nat) (dm : Nat) (at_ : Nat) (so : Bool) (de : Nat) (ke : Nat) (sm : Nat) (hke : ke = 2) : Rd l yX10_keep cX10_keep 1 (some .int) (rmz 0 0) G [.ref q0] [(q0, .inr (10, [.ref q1, .int (nI ty), .ref q2, .ref q3, .ref q4, .ref q5, .ref q6, .ref q7, .ref q8, .int (nI dm), .int (nI at_), .int (zb so), .ref q9, .int (nI de), .int (nI ke), .ref q10, .ref q11, .ref q12, .int (nI sm), .ref q13, .ref q14])), (q1, .inl (kB G, 200, .inl tx)), (q2, .inl (kI G, 2, .inl ro)), (q3, .inl (kI G, 2, .inl co)), (q4, .inl (kI G, 2, .inl mp)), (q5, .inl (kI G, 10, .inl my)), (q6, .inl (kI G, 10, .inl md)), (q7, .inl (kI G, 10, .inl mr)), (q8, .inl (kI G, 40, .inl dr)), (q9, .inl (kI G, 504, .inl nw)), (q10, .inl (kI G, 64, .inl tk)), (q11, .inl (kI G, 64, .inl cs)), (q12, .inl (kI G, 12, .inl sa)), (q13, .inl (kI G, 8, .inl go)), (q14, .inl (kI G, 2048, .inl to))] (.int (-3)) := by
  refine Rd.ofW (by decide) (Nat.le_of_ble_eq_true rfl) ?_
  intro p e s m below meth c ls hx hb hml hr hown hts hlk hP hE hl
  have hl : lv_has ls 1 [(0, .ref q0)] := hl
  refine lv_aload_n hx hb dX10_keep_0 rfl (lv_at hl 0 rfl) ?_
  refine va_get hx hb hts inlX10 hown hE.1 hP 0 rfl rfl 14 (by decide) (fl_X10_100 hts) (fun _ h9 => h9) rfl dX10_keep_1 ?_
  refine lv_iconst (v := 2) hx hb dX10_keep_4 (by decide) ?_
  refine lv_icmp_ne (tgt := 11) hx hb dX10_keep_5 (by decide) (fun c5 => ?_) (fun c5 => ?_)
  · exact absurd (by rw [hke]; rfl) c5
  · refine lv_bipush (v := -3) hx hb dX10_keep_8 (by decide) ?_
    exact rd_iret hx hb hr hlk dX10_keep_10 (by first | rfl | (simp [zb, c5]; done))

set_option maxHeartbeats 4000000 in
set_option maxRecDepth 100000 in
theorem c_X10_back_y (l : Launch) (G : Gv) (q0 : Nat) (q1 : Nat) (q2 : Nat) (q3 : Nat) (q4 : Nat) (q5 : Nat) (q6 : Nat) (q7 : Nat) (q8 : Nat) (q9 : Nat) (q10 : Nat) (q11 : Nat) (q12 : Nat) (q13 : Nat) (q14 : Nat) (tx : Nat → Int32) (ro : Nat → Int32) (co : Nat → Int32) (mp : Nat → Int32) (my : Nat → Int32) (md : Nat → Int32) (mr : Nat → Int32) (dr : Nat → Int32) (nw : Nat → Int32) (tk : Nat → Int32) (cs : Nat → Int32) (sa : Nat → Int32) (go : Nat → Int32) (to : Nat → Int32) (ty : Nat) (dm : Nat) (at_ : Nat) (so : Bool) (de : Nat) (ke : Nat) (sm : Nat) (hke : ke ≤ 2) (h0 : 0 < ke) : Ct l yX10_back cX10_back 1 (some .int) (rmz 1 23) G [.ref q0] [(q0, .inr (10, [.ref q1, .int (nI ty), .ref q2, .ref q3, .ref q4, .ref q5, .ref q6, .ref q7, .ref q8, .int (nI dm), .int (nI at_), .int (zb so), .ref q9, .int (nI de), .int (nI ke), .ref q10, .ref q11, .ref q12, .int (nI sm), .ref q13, .ref q14])), (q1, .inl (kB G, 200, .inl tx)), (q2, .inl (kI G, 2, .inl ro)), (q3, .inl (kI G, 2, .inl co)), (q4, .inl (kI G, 2, .inl mp)), (q5, .inl (kI G, 10, .inl my)), (q6, .inl (kI G, 10, .inl md)), (q7, .inl (kI G, 10, .inl mr)), (q8, .inl (kI G, 40, .inl dr)), (q9, .inl (kI G, 504, .inl nw)), (q10, .inl (kI G, 64, .inl tk)), (q11, .inl (kI G, 64, .inl cs)), (q12, .inl (kI G, 12, .inl sa)), (q13, .inl (kI G, 8, .inl go)), (q14, .inl (kI G, 2048, .inl to))] (one (some (.int (nI (ke - 1)))) [(q0, .inr (10, [.ref q1, .int (nI ty), .ref q2, .ref q3, .ref q4, .ref q5, .ref q6, .ref q7, .ref q8, .int (nI dm), .int (nI at_), .int (zb so), .ref q9, .int 0, .int (nI (ke - 1)), .ref q10, .ref q11, .ref q12, .int (nI sm), .ref q13, .ref q14])), (q1, .inl (kB G, 200, .inl tx)), (q2, .inl (kI G, 2, .inl ro)), (q3, .inl (kI G, 2, .inl co)), (q4, .inl (kI G, 2, .inl mp)), (q5, .inl (kI G, 10, .inl my)), (q6, .inl (kI G, 10, .inl md)), (q7, .inl (kI G, 10, .inl mr)), (q8, .inl (kI G, 40, .inl dr)), (q9, .inl (kI G, 504, .inl (cpM nw (378 + (42 * (ke - 1))) 0 42))), (q10, .inl (kI G, 64, .inl tk)), (q11, .inl (kI G, 64, .inl cs)), (q12, .inl (kI G, 12, .inl sa)), (q13, .inl (kI G, 8, .inl go)), (q14, .inl (kI G, 2048, .inl to))]) := by
  refine Ct.ofW (by decide) (Nat.le_of_ble_eq_true rfl) ?_
  intro p e s m below meth c ls A hx hb hml hr hown hts hlk hnm hP hD hA hE hS hl
  obtain ⟨H, eH⟩ : ∃ H : Heap, H = s.heap := ⟨_, rfl⟩
  obtain ⟨locs, eL⟩ : ∃ ll : List Loc, ll = [] := ⟨_, rfl⟩
  rw [← eH] at hP
  have hS : va_S A s.heap H locs := by rw [eH, eL]; exact hS
  show WC p l e _ s m _ below meth c G A _ s.heap [] 0 0 _
  rw [← eH, ← eL]
  clear eH eL
  have hl : lv_has ls 1 [(0, .ref q0)] := hl
  refine lv_aload_n hx hb dX10_back_0 rfl (lv_at hl 0 rfl) ?_
  refine va_get hx hb hts inlX10 hown hE.1 hP 0 rfl rfl 14 (by decide) (fl_X10_100 hts) (fun _ h9 => h9) rfl dX10_back_1 ?_
  refine lv_if_ne (tgt := 10) hx hb dX10_back_4 (by decide) (fun c4 => ?_) (fun c4 => ?_)
  · refine lv_aload_n hx hb dX10_back_10 rfl (lv_at hl 0 rfl) ?_
    refine lv_dup hx hb dX10_back_11 rfl ?_
    refine va_get hx hb hts inlX10 hown hE.1 hP 0 rfl rfl 14 (by decide) (fl_X10_100 hts) (fun _ h9 => h9) rfl dX10_back_12 ?_
    refine lv_iconst (v := 1) hx hb dX10_back_15 (by decide) ?_
    refine lv_isub hx hb dX10_back_16 ?_
    rw [show nI ke - 1 = nI (ke - 1) from nI_sub1 (by omega)]
    refine va_put (v := .int (nI (ke - 1))) (ty := .int) hx hb hts inlX10 tyX10 tyX10_ok nmX10 hown hE.1 hP hD hS 0 rfl rfl 14 (by decide) (fl_X10_100 hts) (fun _ h9 => h9) rfl (by decide +kernel) rfl rfl (Nat.le_of_ble_eq_true rfl) dX10_back_17 (fun H locs hP hD hS => ?_)
    have hP : va_P G.1 vwCl [(q0, .inr (10, [.ref q1, .int (nI ty), .ref q2, .ref q3, .ref q4, .ref q5, .ref q6, .ref q7, .ref q8, .int (nI dm), .int (nI at_), .int (zb so), .ref q9, .int (nI de), .int (nI (ke - 1)), .ref q10, .ref q11, .ref q12, .int (nI sm), .ref q13, .ref q14])), (q1, .inl (kB G, 200, .inl tx)), (q2, .inl (kI G, 2, .inl ro)), (q3, .inl (kI G, 2, .inl co)), (q4, .inl (kI G, 2, .inl mp)), (q5, .inl (kI G, 10, .inl my)), (q6, .inl (kI G, 10, .inl md)), (q7, .inl (kI G, 10, .inl mr)), (q8, .inl (kI G, 40, .inl dr)), (q9, .inl (kI G, 504, .inl nw)), (q10, .inl (kI G, 64, .inl tk)), (q11, .inl (kI G, 64, .inl cs)), (q12, .inl (kI G, 12, .inl sa)), (q13, .inl (kI G, 8, .inl go)), (q14, .inl (kI G, 2048, .inl to))] H := hP
    have hD : va_D A [(q0, .inr (10, [.ref q1, .int (nI ty), .ref q2, .ref q3, .ref q4, .ref q5, .ref q6, .ref q7, .ref q8, .int (nI dm), .int (nI at_), .int (zb so), .ref q9, .int (nI de), .int (nI (ke - 1)), .ref q10, .ref q11, .ref q12, .int (nI sm), .ref q13, .ref q14])), (q1, .inl (kB G, 200, .inl tx)), (q2, .inl (kI G, 2, .inl ro)), (q3, .inl (kI G, 2, .inl co)), (q4, .inl (kI G, 2, .inl mp)), (q5, .inl (kI G, 10, .inl my)), (q6, .inl (kI G, 10, .inl md)), (q7, .inl (kI G, 10, .inl mr)), (q8, .inl (kI G, 40, .inl dr)), (q9, .inl (kI G, 504, .inl nw)), (q10, .inl (kI G, 64, .inl tk)), (q11, .inl (kI G, 64, .inl cs)), (q12, .inl (kI G, 12, .inl sa)), (q13, .inl (kI G, 8, .inl go)), (q14, .inl (kI G, 2048, .inl to))] := hD
    refine lv_aload_n hx hb dX10_back_20 rfl (lv_at hl 0 rfl) ?_
    refine lv_sipush (v := 378) hx hb dX10_back_21 (by decide) ?_
    refine lv_bipush (v := 42) hx hb dX10_back_24 (by decide) ?_
    refine lv_aload_n hx hb dX10_back_26 rfl (lv_at hl 0 rfl) ?_
    refine va_get hx hb hts inlX10 hown hE.1 hP 0 rfl rfl 14 (by decide) (fl_X10_100 hts) (fun _ h9 => h9) rfl dX10_back_27 ?_
    refine lv_imul hx hb dX10_back_30 ?_
    rw [show (42 : Int32) * (nI (ke - 1)) = nI (42 * (ke - 1)) from pk_mul 42 (ke - 1)]
    refine lv_iadd hx hb dX10_back_31 ?_
    rw [show (378 : Int32) + (nI (42 * (ke - 1))) = nI (378 + (42 * (ke - 1))) from nI_add 378 (42 * (ke - 1))]
    refine lv_iconst (v := 0) hx hb dX10_back_32 (by decide) ?_
    refine ct_callV (w1 := [(q0, .inr (10, [.ref q1, .int (nI ty), .ref q2, .ref q3, .ref q4, .ref q5, .ref q6, .ref q7, .ref q8, .int (nI dm), .int (nI at_), .int (zb so), .ref q9, .int (nI de), .int (nI (ke - 1)), .ref q10, .ref q11, .ref q12, .int (nI sm), .ref q13, .ref q14])), (q1, .inl (kB G, 200, .inl tx)), (q2, .inl (kI G, 2, .inl ro)), (q3, .inl (kI G, 2, .inl co)), (q4, .inl (kI G, 2, .inl mp)), (q5, .inl (kI G, 10, .inl my)), (q6, .inl (kI G, 10, .inl md)), (q7, .inl (kI G, 10, .inl mr)), (q8, .inl (kI G, 40, .inl dr)), (q9, .inl (kI G, 504, .inl (cpM nw (378 + (42 * (ke - 1))) 0 42))), (q10, .inl (kI G, 64, .inl tk)), (q11, .inl (kI G, 64, .inl cs)), (q12, .inl (kI G, 12, .inl sa)), (q13, .inl (kI G, 8, .inl go)), (q14, .inl (kI G, 2048, .inl to))]) (wr := []) (wn := [(q0, .inr (10, [.ref q1, .int (nI ty), .ref q2, .ref q3, .ref q4, .ref q5, .ref q6, .ref q7, .ref q8, .int (nI dm), .int (nI at_), .int (zb so), .ref q9, .int (nI de), .int (nI (ke - 1)), .ref q10, .ref q11, .ref q12, .int (nI sm), .ref q13, .ref q14])), (q1, .inl (kB G, 200, .inl tx)), (q2, .inl (kI G, 2, .inl ro)), (q3, .inl (kI G, 2, .inl co)), (q4, .inl (kI G, 2, .inl mp)), (q5, .inl (kI G, 10, .inl my)), (q6, .inl (kI G, 10, .inl md)), (q7, .inl (kI G, 10, .inl mr)), (q8, .inl (kI G, 40, .inl dr)), (q9, .inl (kI G, 504, .inl (cpM nw (378 + (42 * (ke - 1))) 0 42))), (q10, .inl (kI G, 64, .inl tk)), (q11, .inl (kI G, 64, .inl cs)), (q12, .inl (kI G, 12, .inl sa)), (q13, .inl (kI G, 8, .inl go)), (q14, .inl (kI G, 2048, .inl to))]) (As := [.int (nI (378 + (42 * (ke - 1)))), .int 0]) (rest := []) hx hb hml hown hts hE hA hl.1 hP hD hS (c_X10_copy l G q0 q1 q2 q3 q4 q5 q6 q7 q8 q9 q10 q11 q12 q13 q14 tx ro co mp my md mr dr nw tk cs sa go to ty dm at_ so de (ke - 1) sm (378 + (42 * (ke - 1))) 0 (by first | assumption | omega) (by first | assumption | omega)) (cw_X10_144 hts) ⟨(Nat.le_of_ble_eq_true rfl), (Nat.le_of_ble_eq_true rfl)⟩ ⟨(Nat.le_of_ble_eq_true rfl), (Nat.le_of_ble_eq_true rfl)⟩ rfl [0, 1, 2, 3, 4, 5, 6, 7, 8, 9, 10, 11, 12, 13, 14] [] [0, 1, 2, 3, 4, 5, 6, 7, 8, 9, 10, 11, 12, 13, 14] rfl rfl ⟨by decide, by decide, by decide, by decide⟩ rfl rfl rfl rfl rfl (Nat.le_of_ble_eq_true rfl) dX10_back_33 (fun H locs hP hD hS => ?_)
    show WC p l e _ s m _ below meth c G A _ H locs 0 0 (F0 m 36 ls [])
    refine lv_aload_n hx hb dX10_back_36 rfl (lv_at hl 0 rfl) ?_
    refine lv_iconst (v := 0) hx hb dX10_back_37 (by decide) ?_
    refine va_put (v := .int 0) (ty := .int) hx hb hts inlX10 tyX10 tyX10_ok nmX10 hown hE.1 hP hD hS 0 rfl rfl 13 (by decide) (fl_X10_97 hts) (fun _ h9 => h9) rfl (by decide +kernel) rfl rfl (Nat.le_of_ble_eq_true rfl) dX10_back_38 (fun H locs hP hD hS => ?_)
    have hP : va_P G.1 vwCl [(q0, .inr (10, [.ref q1, .int (nI ty), .ref q2, .ref q3, .ref q4, .ref q5, .ref q6, .ref q7, .ref q8, .int (nI dm), .int (nI at_), .int (zb so), .ref q9, .int 0, .int (nI (ke - 1)), .ref q10, .ref q11, .ref q12, .int (nI sm), .ref q13, .ref q14])), (q1, .inl (kB G, 200, .inl tx)), (q2, .inl (kI G, 2, .inl ro)), (q3, .inl (kI G, 2, .inl co)), (q4, .inl (kI G, 2, .inl mp)), (q5, .inl (kI G, 10, .inl my)), (q6, .inl (kI G, 10, .inl md)), (q7, .inl (kI G, 10, .inl mr)), (q8, .inl (kI G, 40, .inl dr)), (q9, .inl (kI G, 504, .inl (cpM nw (378 + (42 * (ke - 1))) 0 42))), (q10, .inl (kI G, 64, .inl tk)), (q11, .inl (kI G, 64, .inl cs)), (q12, .inl (kI G, 12, .inl sa)), (q13, .inl (kI G, 8, .inl go)), (q14, .inl (kI G, 2048, .inl to))] H := hP
    have hD : va_D A [(q0, .inr (10, [.ref q1, .int (nI ty), .ref q2, .ref q3, .ref q4, .ref q5, .ref q6, .ref q7, .ref q8, .int (nI dm), .int (nI at_), .int (zb so), .ref q9, .int 0, .int (nI (ke - 1)), .ref q10, .ref q11, .ref q12, .int (nI sm), .ref q13, .ref q14])), (q1, .inl (kB G, 200, .inl tx)), (q2, .inl (kI G, 2, .inl ro)), (q3, .inl (kI G, 2, .inl co)), (q4, .inl (kI G, 2, .inl mp)), (q5, .inl (kI G, 10, .inl my)), (q6, .inl (kI G, 10, .inl md)), (q7, .inl (kI G, 10, .inl mr)), (q8, .inl (kI G, 40, .inl dr)), (q9, .inl (kI G, 504, .inl (cpM nw (378 + (42 * (ke - 1))) 0 42))), (q10, .inl (kI G, 64, .inl tk)), (q11, .inl (kI G, 64, .inl cs)), (q12, .inl (kI G, 12, .inl sa)), (q13, .inl (kI G, 8, .inl go)), (q14, .inl (kI G, 2048, .inl to))] := hD
    refine lv_aload_n hx hb dX10_back_41 rfl (lv_at hl 0 rfl) ?_
    refine va_get hx hb hts inlX10 hown hE.1 hP 0 rfl rfl 14 (by decide) (fl_X10_100 hts) (fun _ h9 => h9) rfl dX10_back_42 ?_
    exact ct_iret hx hb hr hlk dX10_back_45 hP hD hS (by first | exact ⟨rfl, rfl⟩ | (simp [one, c4]; done))
  · exact absurd ((nI_eq (a := ke) (b := 0) (by omega) (by decide)).mp c4) (by omega)

set_option maxHeartbeats 4000000 in
set_option maxRecDepth 100000 in
theorem c_X10_back_n (l : Launch) (G : Gv) (q0 : Nat) (q1 : Nat) (q2 : Nat) (q3 : Nat) (q4 : Nat) (q5 : Nat) (q6 : Nat) (q7 : Nat) (q8 : Nat) (q9 : Nat) (q10 : Nat) (q11 : Nat) (q12 : Nat) (q13 : Nat) (q14 : Nat) (tx : Nat → Int32) (ro : Nat → Int32) (co : Nat → Int32) (mp : Nat → Int32) (my : Nat → Int32) (md : Nat → Int32) (mr : Nat → Int32) (dr : Nat → Int32) (nw : Nat → Int32) (tk : Nat → Int32) (cs : Nat → Int32) (sa : Nat → Int32) (go : Nat → Int32) (to : Nat → Int32) (ty : Nat) (dm : Nat) (at_ : Nat) (so : Bool) (de : Nat) (ke : Nat) (sm : Nat) (h0 : ke = 0) : Rd l yX10_back cX10_back 1 (some .int) (rmz 0 0) G [.ref q0] [(q0, .inr (10, [.ref q1, .int (nI ty), .ref q2, .ref q3, .ref q4, .ref q5, .ref q6, .ref q7, .ref q8, .int (nI dm), .int (nI at_), .int (zb so), .ref q9, .int (nI de), .int (nI ke), .ref q10, .ref q11, .ref q12, .int (nI sm), .ref q13, .ref q14])), (q1, .inl (kB G, 200, .inl tx)), (q2, .inl (kI G, 2, .inl ro)), (q3, .inl (kI G, 2, .inl co)), (q4, .inl (kI G, 2, .inl mp)), (q5, .inl (kI G, 10, .inl my)), (q6, .inl (kI G, 10, .inl md)), (q7, .inl (kI G, 10, .inl mr)), (q8, .inl (kI G, 40, .inl dr)), (q9, .inl (kI G, 504, .inl nw)), (q10, .inl (kI G, 64, .inl tk)), (q11, .inl (kI G, 64, .inl cs)), (q12, .inl (kI G, 12, .inl sa)), (q13, .inl (kI G, 8, .inl go)), (q14, .inl (kI G, 2048, .inl to))] (.int (-2)) := by
  refine Rd.ofW (by decide) (Nat.le_of_ble_eq_true rfl) ?_
  intro p e s m below meth c ls hx hb hml hr hown hts hlk hP hE hl
  have hl : lv_has ls 1 [(0, .ref q0)] := hl
  refine lv_aload_n hx hb dX10_back_0 rfl (lv_at hl 0 rfl) ?_
  refine va_get hx hb hts inlX10 hown hE.1 hP 0 rfl rfl 14 (by decide) (fl_X10_100 hts) (fun _ h9 => h9) rfl dX10_back_1 ?_
  refine lv_if_ne (tgt := 10) hx hb dX10_back_4 (by decide) (fun c4 => ?_) (fun c4 => ?_)
  · exact absurd (by rw [h0]; rfl) c4
  · refine lv_bipush (v := -2) hx hb dX10_back_7 (by decide) ?_
    exact rd_iret hx hb hr hlk dX10_back_9 (by first | rfl | (simp [zb, c4]; done))
