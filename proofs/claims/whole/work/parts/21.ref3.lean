/-! the reference: reads and years -/
def hsN (w : Int64) (x : Int32) : Bool := decide ((w >>> (x.toInt64 &&& 63)) &&& 1 = 1)
theorem inn3 {w : Int32} (h : inn w 0 3 = true) (h0 : ¬ w = 0) (h1 : ¬ w = 1) (h2 : ¬ w = 2) : w = 3 := by
  obtain ⟨v, hv, rfl⟩ := inn_nat (n := 3) (by decide) h
  match v, hv with
  | 0, _ => exact absurd rfl h0
  | 1, _ => exact absurd rfl h1
  | 2, _ => exact absurd rfl h2
  | 3, _ => rfl
theorem nmA_gt (my : Nat → Int32) (y : Int32) (n : Nat) : nmA my y n = 1000 ∨ y < nmA my y n := by
  refine it_inv (fun _ a => a = 1000 ∨ y < a) (Or.inl rfl) (fun k _ a ha => ?_) n (Nat.le_refl n)
  split
  · exact ha
  · split
    · exact ha
    · exact Or.inr (Int32.not_le.mp (by assumption))
theorem olL_end {nw my : Nat → Int32} {n q f : Nat} {fr w : Int32} (h : 1000 ≤ nmA my fr q) : olL nw my n q f fr w = w := by
  cases f with
  | zero => rfl
  | succ f => rw [olL, if_pos h]
theorem olL_s {nw my : Nat → Int32} {n q f : Nat} {fr w : Int32} (h : ¬ 1000 ≤ nmA my fr q) : olL nw my n q (f + 1) fr w = olL nw my n q f (nmA my fr q) (olI nw fr (nmA my fr q) (0, w) n).2 := by rw [olL, if_neg h]
theorem nmA_m {my : Nat → Int32} {q : Nat} {fr : Int32} (h : ¬ 1000 ≤ nmA my fr q) : (1000 - (nmA my fr q).toInt).toNat < (1000 - fr.toInt).toNat := by
  have h1 : (nmA my fr q).toInt < 1000 := Int32.lt_iff_toInt_lt.mp (Int32.not_le.mp h)
  rcases nmA_gt my fr q with z | z
  · rw [z] at h
    exact absurd (Int32.le_refl _) h
  · have h2 := Int32.lt_iff_toInt_lt.mp z
    omega

set_option maxHeartbeats 4000000 in
set_option maxRecDepth 100000 in
theorem c_X10_free (l : Launch) (G : Gv) (q0 : Nat) (q1 : Nat) (q2 : Nat) (q3 : Nat) (q4 : Nat) (q5 : Nat) (q6 : Nat) (q7 : Nat) (q8 : Nat) (q9 : Nat) (q10 : Nat) (q11 : Nat) (q12 : Nat) (q13 : Nat) (q14 : Nat) (tx : Nat → Int32) (ro : Nat → Int32) (co : Nat → Int32) (mp : Nat → Int32) (my : Nat → Int32) (md : Nat → Int32) (mr : Nat → Int32) (dr : Nat → Int32) (nw : Nat → Int32) (tk : Nat → Int32) (cs : Nat → Int32) (sa : Nat → Int32) (go : Nat → Int32) (to : Nat → Int32) (ty : Nat) (dm : Nat) (at_ : Nat) (so : Bool) (de : Nat) (ke : Nat) (sm : Nat) (nr : Nat) (nc : Nat) (n : Nat) (q : Nat) (x : Int32) (w : Int32) (hro : ro 0 = nI nr) (hco : co 0 = nI nc) (hg1 : 2 ≤ nr ∧ nr ≤ 8) (hg2 : 2 ≤ nc ∧ nc ≤ 8) (hn1 : nw 1 = nI n) (hn : n ≤ 10) (hmp : mp 0 = nI q) (hq : q ≤ 5) : Rd l yX10_free cX10_free 3 (some .int) (rmz 2 48) G [.ref q0, .int x, .int w] [(q0, .inr (10, [.ref q1, .int (nI ty), .ref q2, .ref q3, .ref q4, .ref q5, .ref q6, .ref q7, .ref q8, .int (nI dm), .int (nI at_), .int (zb so), .ref q9, .int (nI de), .int (nI ke), .ref q10, .ref q11, .ref q12, .int (nI sm), .ref q13, .ref q14])), (q1, .inl (kB G, 200, .inl tx)), (q2, .inl (kI G, 2, .inl ro)), (q3, .inl (kI G, 2, .inl co)), (q4, .inl (kI G, 2, .inl mp)), (q5, .inl (kI G, 10, .inl my)), (q6, .inl (kI G, 10, .inl md)), (q7, .inl (kI G, 10, .inl mr)), (q8, .inl (kI G, 40, .inl dr)), (q9, .inl (kI G, 504, .inl nw)), (q10, .inl (kI G, 64, .inl tk)), (q11, .inl (kI G, 64, .inl cs)), (q12, .inl (kI G, 12, .inl sa)), (q13, .inl (kI G, 8, .inl go)), (q14, .inl (kI G, 2048, .inl to))] (.int (if inG nr nc x then (if inn w 0 199 then zb (!hsN (stC (cel nw 0) (sta nw 0) (fal nw 0) (w) n) x) else -1) else -1)) := by
  refine Rd.ofW (by decide) (Nat.le_of_ble_eq_true rfl) ?_
  intro p e s m below meth c ls hx hb hml hr hown hts hlk hP hE hl
  have hl : lv_has ls 3 [(0, .ref q0), (1, .int x), (2, .int w)] := hl
  refine lv_aload_n hx hb dX10_free_0 rfl (lv_at hl 0 rfl) ?_
  refine lv_iload_n hx hb dX10_free_1 rfl (lv_at hl 1 rfl) ?_
  refine rd_callV (As := [.int x]) (rest := []) hx hb hml hown hts hE hl.1 (c_X10_isCell l G q0 q1 q2 q3 q4 q5 q6 q7 q8 q9 q10 q11 q12 q13 q14 tx ro co mp my md mr dr nw tk cs sa go to ty dm at_ so de ke sm nr nc x (by first | assumption | omega) (by first | assumption | omega) (by first | assumption | omega) (by first | assumption | omega)) (cw_X10_116 hts) ⟨(Nat.le_of_ble_eq_true rfl), (Nat.le_of_ble_eq_true rfl)⟩ ⟨Nat.zero_le _, Nat.zero_le _⟩ rfl (sub_P hP [0, 1, 2, 3, 4, 5, 6, 7, 8, 9, 10, 11, 12, 13, 14] rfl) rfl rfl rfl rfl (Nat.le_of_ble_eq_true rfl) dX10_free_2 ?_
  refine lv_if_eq (tgt := 19) hx hb dX10_free_5 (by decide) (fun c5 => ?_) (fun c5 => ?_)
  · have c5 := zb_0.mp c5
    refine lv_iconst (v := -1) hx hb dX10_free_19 (by decide) ?_
    exact rd_iret hx hb hr hlk dX10_free_20 (by first | rfl | (simp [zb, c5]; done))
  · have c5 := zb_n0.mp c5
    refine lv_iload_n hx hb dX10_free_8 rfl (lv_at hl 2 rfl) ?_
    refine lv_iconst (v := 0) hx hb dX10_free_9 (by decide) ?_
    refine lv_sipush (v := 199) hx hb dX10_free_10 (by decide) ?_
    refine rd_callS (As := [.int w, .int 0, .int 199]) (rest := []) hx hb hml hown hts hE hl.1 (c_X10_in l G w 0 199 ) (cs_X10_61 hts) ⟨(Nat.le_of_ble_eq_true rfl), (Nat.le_of_ble_eq_true rfl)⟩ ⟨Nat.zero_le _, Nat.zero_le _⟩ rfl (sub_P hP [] rfl) rfl (Nat.le_of_ble_eq_true rfl) dX10_free_13 ?_
    refine lv_if_ne (tgt := 21) hx hb dX10_free_16 (by decide) (fun c16 => ?_) (fun c16 => ?_)
    · have c16 := zb_n0.mp c16
      refine lv_aload_n hx hb dX10_free_21 rfl (lv_at hl 0 rfl) ?_
      refine lv_iconst (v := 0) hx hb dX10_free_22 (by decide) ?_
      refine lv_iload_n hx hb dX10_free_23 rfl (lv_at hl 2 rfl) ?_
      refine rd_callV (As := [.int 0, .int w]) (rest := []) hx hb hml hown hts hE hl.1 (c_X10_taken l G q0 q1 q2 q3 q4 q5 q6 q7 q8 q9 q10 q11 q12 q13 q14 tx ro co mp my md mr dr nw tk cs sa go to ty dm at_ so de ke sm 0 n w (by decide) (by first | assumption | omega) (by first | assumption | omega)) (cw_X10_122 hts) ⟨(Nat.le_of_ble_eq_true rfl), (Nat.le_of_ble_eq_true rfl)⟩ ⟨Nat.zero_le _, Nat.zero_le _⟩ rfl (sub_P hP [0, 1, 2, 3, 4, 5, 6, 7, 8, 9, 10, 11, 12, 13, 14] rfl) rfl rfl rfl rfl (Nat.le_of_ble_eq_true rfl) dX10_free_24 ?_
      refine lv_iload_n hx hb dX10_free_27 rfl (lv_at hl 1 rfl) ?_
      refine lv_lshr hx hb dX10_free_28 rfl ?_
      refine lv_lconst (v := 1) hx hb dX10_free_29 (by decide) ?_
      refine lv_land hx hb dX10_free_30 ?_
      refine lv_lconst (v := 1) hx hb dX10_free_31 (by decide) ?_
      refine W.lcmp hx hb dX10_free_32 ?_
      refine lv_if_ne (tgt := 40) hx hb dX10_free_33 (by decide) (fun c33 => ?_) (fun c33 => ?_)
      · have c33 := lgc_ne.mp c33
        have c33 : hsN (stC (cel nw 0) (sta nw 0) (fal nw 0) (w) n) x = false := by simp [hsN, c33]
        refine lv_iconst (v := 1) hx hb dX10_free_40 (by decide) ?_
        exact rd_iret hx hb hr hlk dX10_free_41 (by first | rfl | (simp [zb, c5, c16, c33]; done))
      · have c33 := lgc_eq.mp c33
        have c33 : hsN (stC (cel nw 0) (sta nw 0) (fal nw 0) (w) n) x = true := by simp [hsN, c33]
        refine lv_iconst (v := 0) hx hb dX10_free_36 (by decide) ?_
        refine lv_goto (tgt := 41) hx hb dX10_free_37 (by decide) ?_
        exact rd_iret hx hb hr hlk dX10_free_41 (by first | rfl | (simp [zb, c5, c16, c33]; done))
    · have c16 := zb_0.mp c16
      refine lv_iconst (v := -1) hx hb dX10_free_19 (by decide) ?_
      exact rd_iret hx hb hr hlk dX10_free_20 (by first | rfl | (simp [zb, c5, c16]; done))

set_option maxHeartbeats 4000000 in
set_option maxRecDepth 100000 in
theorem c_X10_map (l : Launch) (G : Gv) (q0 : Nat) (q1 : Nat) (q2 : Nat) (q3 : Nat) (q4 : Nat) (q5 : Nat) (q6 : Nat) (q7 : Nat) (q8 : Nat) (q9 : Nat) (q10 : Nat) (q11 : Nat) (q12 : Nat) (q13 : Nat) (q14 : Nat) (tx : Nat → Int32) (ro : Nat → Int32) (co : Nat → Int32) (mp : Nat → Int32) (my : Nat → Int32) (md : Nat → Int32) (mr : Nat → Int32) (dr : Nat → Int32) (nw : Nat → Int32) (tk : Nat → Int32) (cs : Nat → Int32) (sa : Nat → Int32) (go : Nat → Int32) (to : Nat → Int32) (ty : Nat) (dm : Nat) (at_ : Nat) (so : Bool) (de : Nat) (ke : Nat) (sm : Nat) (nr : Nat) (nc : Nat) (n : Nat) (q : Nat) (t : Int32) (w : Int32) (hro : ro 0 = nI nr) (hco : co 0 = nI nc) (hg1 : 2 ≤ nr ∧ nr ≤ 8) (hg2 : 2 ≤ nc ∧ nc ≤ 8) (hn1 : nw 1 = nI n) (hn : n ≤ 10) (hmp : mp 0 = nI q) (hq : q ≤ 5) : Rd l yX10_map cX10_map 3 (some .int) (rmz 3 73) G [.ref q0, .int t, .int w] [(q0, .inr (10, [.ref q1, .int (nI ty), .ref q2, .ref q3, .ref q4, .ref q5, .ref q6, .ref q7, .ref q8, .int (nI dm), .int (nI at_), .int (zb so), .ref q9, .int (nI de), .int (nI ke), .ref q10, .ref q11, .ref q12, .int (nI sm), .ref q13, .ref q14])), (q1, .inl (kB G, 200, .inl tx)), (q2, .inl (kI G, 2, .inl ro)), (q3, .inl (kI G, 2, .inl co)), (q4, .inl (kI G, 2, .inl mp)), (q5, .inl (kI G, 10, .inl my)), (q6, .inl (kI G, 10, .inl md)), (q7, .inl (kI G, 10, .inl mr)), (q8, .inl (kI G, 40, .inl dr)), (q9, .inl (kI G, 504, .inl nw)), (q10, .inl (kI G, 64, .inl tk)), (q11, .inl (kI G, 64, .inl cs)), (q12, .inl (kI G, 12, .inl sa)), (q13, .inl (kI G, 8, .inl go)), (q14, .inl (kI G, 2048, .inl to))] (.int (mpM nr nc nw my md mr n q t w)) := by
  refine Rd.ofW (by decide) (Nat.le_of_ble_eq_true rfl) ?_
  intro p e s m below meth c ls hx hb hml hr hown hts hlk hP hE hl
  have hl : lv_has ls 3 [(0, .ref q0), (1, .int t), (2, .int w)] := hl
  refine lv_aload_n hx hb dX10_map_0 rfl (lv_at hl 0 rfl) ?_
  refine lv_iload_n hx hb dX10_map_1 rfl (lv_at hl 1 rfl) ?_
  refine rd_callV (As := [.int t]) (rest := []) hx hb hml hown hts hE hl.1 (c_X10_isMap l G q0 q1 q2 q3 q4 q5 q6 q7 q8 q9 q10 q11 q12 q13 q14 tx ro co mp my md mr dr nw tk cs sa go to ty dm at_ so de ke sm q t (by first | assumption | omega) (by first | assumption | omega)) (cw_X10_133 hts) ⟨(Nat.le_of_ble_eq_true rfl), (Nat.le_of_ble_eq_true rfl)⟩ ⟨Nat.zero_le _, Nat.zero_le _⟩ rfl (sub_P hP [0, 1, 2, 3, 4, 5, 6, 7, 8, 9, 10, 11, 12, 13, 14] rfl) rfl rfl rfl rfl (Nat.le_of_ble_eq_true rfl) dX10_map_2 ?_
  refine lv_if_eq (tgt := 17) hx hb dX10_map_5 (by decide) (fun c5 => ?_) (fun c5 => ?_)
  · have c5 := zb_0.mp c5
    refine lv_iconst (v := -1) hx hb dX10_map_17 (by decide) ?_
    exact rd_iret hx hb hr hlk dX10_map_18 (by first | (simp [mpM, c5]; done) | (have g0 : ¬ w = 0 := h5 0 (by decide) (by decide); have g1 : ¬ w = 1 := h5 1 (by decide) (by decide); have g2 : ¬ w = 2 := h5 2 (by decide) (by decide); have g3 : ¬ w = 3 := h5 3 (by decide) (by decide); simp [mpM, g0, g1, g2, g3]))
  · have c5 := zb_n0.mp c5
    obtain ⟨j, hj, rfl⟩ := inB_nat c5 (by omega)
    have c5 := c5
    refine lv_iload_n hx hb dX10_map_8 rfl (lv_at hl 2 rfl) ?_
    refine lv_iconst (v := 0) hx hb dX10_map_9 (by decide) ?_
    refine lv_iconst (v := 3) hx hb dX10_map_10 (by decide) ?_
    refine rd_callS (As := [.int w, .int 0, .int 3]) (rest := []) hx hb hml hown hts hE hl.1 (c_X10_in l G w 0 3 ) (cs_X10_61 hts) ⟨(Nat.le_of_ble_eq_true rfl), (Nat.le_of_ble_eq_true rfl)⟩ ⟨Nat.zero_le _, Nat.zero_le _⟩ rfl (sub_P hP [] rfl) rfl (Nat.le_of_ble_eq_true rfl) dX10_map_11 ?_
    refine lv_if_ne (tgt := 19) hx hb dX10_map_14 (by decide) (fun c14 => ?_) (fun c14 => ?_)
    · have c14 := zb_n0.mp c14
      refine lv_iload_n hx hb dX10_map_19 rfl (lv_at hl 2 rfl) ?_
      refine lv_if_ne (tgt := 32) hx hb dX10_map_20 (by decide) (fun c20 => ?_) (fun c20 => ?_)
      · refine lv_iload_n hx hb dX10_map_32 rfl (lv_at hl 2 rfl) ?_
        refine lv_iconst (v := 1) hx hb dX10_map_33 (by decide) ?_
        refine lv_icmp_ne (tgt := 46) hx hb dX10_map_34 (by decide) (fun c34 => ?_) (fun c34 => ?_)
        · refine lv_iload_n hx hb dX10_map_46 rfl (lv_at hl 2 rfl) ?_
          refine lv_iconst (v := 2) hx hb dX10_map_47 (by decide) ?_
          refine lv_icmp_ne (tgt := 60) hx hb dX10_map_48 (by decide) (fun c48 => ?_) (fun c48 => ?_)
          · have h3 := inn3 c14 c20 c34 c48
            refine lv_aload_n hx hb dX10_map_60 rfl (lv_at hl 0 rfl) ?_
            refine lv_iload_n hx hb dX10_map_61 rfl (lv_at hl 1 rfl) ?_
            refine rd_callV (As := [.int (nI j)]) (rest := []) hx hb hml hown hts hE hl.1 (c_X10_shown l G q0 q1 q2 q3 q4 q5 q6 q7 q8 q9 q10 q11 q12 q13 q14 tx ro co mp my md mr dr nw tk cs sa go to ty dm at_ so de ke sm nr nc n j (by first | assumption | omega) (by first | assumption | omega) (by first | assumption | omega) (by first | assumption | omega) (by first | assumption | omega) (by first | assumption | omega) (by first | assumption | omega)) (cw_X10_136 hts) ⟨(Nat.le_of_ble_eq_true rfl), (Nat.le_of_ble_eq_true rfl)⟩ ⟨Nat.zero_le _, Nat.zero_le _⟩ rfl (sub_P hP [0, 1, 2, 3, 4, 5, 6, 7, 8, 9, 10, 11, 12, 13, 14] rfl) rfl rfl rfl rfl (Nat.le_of_ble_eq_true rfl) dX10_map_62 ?_
            refine rd_callS (As := [.long (swM nr nc nw my md mr n j)]) (rest := []) hx hb hml hown hts hE hl.1 (c_X10_manyOf l G (swM nr nc nw my md mr n j) ) (cs_X10_140 hts) ⟨(Nat.le_of_ble_eq_true rfl), (Nat.le_of_ble_eq_true rfl)⟩ ⟨Nat.zero_le _, Nat.zero_le _⟩ rfl (sub_P hP [] rfl) rfl (Nat.le_of_ble_eq_true rfl) dX10_map_65 ?_
            exact rd_iret hx hb hr hlk dX10_map_68 (by first | (rw [mpM, if_pos c5, ixx (by omega), if_pos c20]; done) | (rw [mpM, if_pos c5, ixx (by omega), if_neg c20, if_pos c34]; done) | (rw [mpM, if_pos c5, ixx (by omega), if_neg c20, if_neg c34, if_pos c48]; done) | (rw [mpM, if_pos c5, ixx (by omega), if_neg c20, if_neg c34, if_neg c48, if_pos h3]; done))
          · refine lv_aload_n hx hb dX10_map_51 rfl (lv_at hl 0 rfl) ?_
            refine va_get hx hb hts inlX10 hown hE.1 hP 0 rfl rfl 7 (by decide) (fl_X10_29 hts) (fun _ h9 => h9) rfl dX10_map_52 ?_
            refine lv_iload_n hx hb dX10_map_55 rfl (lv_at hl 1 rfl) ?_
            refine va_iald hx hb hE.1 hP 7 0 rfl rfl (vp_in_nI (by omega) (by omega)) dX10_map_56 ?_
            rw [nI_clamp (show j < 2 ^ 31 by omega)]
            refine lv_goto (tgt := 68) hx hb dX10_map_57 (by decide) ?_
            exact rd_iret hx hb hr hlk dX10_map_68 (by first | (rw [mpM, if_pos c5, ixx (by omega), if_pos c20]; done) | (rw [mpM, if_pos c5, ixx (by omega), if_neg c20, if_pos c34]; done) | (rw [mpM, if_pos c5, ixx (by omega), if_neg c20, if_neg c34, if_pos c48]; done) | (rw [mpM, if_pos c5, ixx (by omega), if_neg c20, if_neg c34, if_neg c48, if_pos h3]; done))
        · refine lv_aload_n hx hb dX10_map_37 rfl (lv_at hl 0 rfl) ?_
          refine va_get hx hb hts inlX10 hown hE.1 hP 0 rfl rfl 6 (by decide) (fl_X10_26 hts) (fun _ h9 => h9) rfl dX10_map_38 ?_
          refine lv_iload_n hx hb dX10_map_41 rfl (lv_at hl 1 rfl) ?_
          refine va_iald hx hb hE.1 hP 6 0 rfl rfl (vp_in_nI (by omega) (by omega)) dX10_map_42 ?_
          rw [nI_clamp (show j < 2 ^ 31 by omega)]
          refine lv_goto (tgt := 68) hx hb dX10_map_43 (by decide) ?_
          exact rd_iret hx hb hr hlk dX10_map_68 (by first | (rw [mpM, if_pos c5, ixx (by omega), if_pos c20]; done) | (rw [mpM, if_pos c5, ixx (by omega), if_neg c20, if_pos c34]; done) | (rw [mpM, if_pos c5, ixx (by omega), if_neg c20, if_neg c34, if_pos c48]; done) | (rw [mpM, if_pos c5, ixx (by omega), if_neg c20, if_neg c34, if_neg c48, if_pos h3]; done))
      · refine lv_aload_n hx hb dX10_map_23 rfl (lv_at hl 0 rfl) ?_
        refine va_get hx hb hts inlX10 hown hE.1 hP 0 rfl rfl 5 (by decide) (fl_X10_23 hts) (fun _ h9 => h9) rfl dX10_map_24 ?_
        refine lv_iload_n hx hb dX10_map_27 rfl (lv_at hl 1 rfl) ?_
        refine va_iald hx hb hE.1 hP 5 0 rfl rfl (vp_in_nI (by omega) (by omega)) dX10_map_28 ?_
        rw [nI_clamp (show j < 2 ^ 31 by omega)]
        refine lv_goto (tgt := 68) hx hb dX10_map_29 (by decide) ?_
        exact rd_iret hx hb hr hlk dX10_map_68 (by first | (rw [mpM, if_pos c5, ixx (by omega), if_pos c20]; done) | (rw [mpM, if_pos c5, ixx (by omega), if_neg c20, if_pos c34]; done) | (rw [mpM, if_pos c5, ixx (by omega), if_neg c20, if_neg c34, if_pos c48]; done) | (rw [mpM, if_pos c5, ixx (by omega), if_neg c20, if_neg c34, if_neg c48, if_pos h3]; done))
    · have c14 := zb_0.mp c14
      have h5 := inn_no (n := 3) c14
      refine lv_iconst (v := -1) hx hb dX10_map_17 (by decide) ?_
      exact rd_iret hx hb hr hlk dX10_map_18 (by first | (simp [mpM, c5]; done) | (have g0 : ¬ w = 0 := h5 0 (by decide) (by decide); have g1 : ¬ w = 1 := h5 1 (by decide) (by decide); have g2 : ¬ w = 2 := h5 2 (by decide) (by decide); have g3 : ¬ w = 3 := h5 3 (by decide) (by decide); simp [mpM, g0, g1, g2, g3]))

set_option maxHeartbeats 4000000 in
set_option maxRecDepth 100000 in
theorem c_X10_shows (l : Launch) (G : Gv) (q0 : Nat) (q1 : Nat) (q2 : Nat) (q3 : Nat) (q4 : Nat) (q5 : Nat) (q6 : Nat) (q7 : Nat) (q8 : Nat) (q9 : Nat) (q10 : Nat) (q11 : Nat) (q12 : Nat) (q13 : Nat) (q14 : Nat) (tx : Nat → Int32) (ro : Nat → Int32) (co : Nat → Int32) (mp : Nat → Int32) (my : Nat → Int32) (md : Nat → Int32) (mr : Nat → Int32) (dr : Nat → Int32) (nw : Nat → Int32) (tk : Nat → Int32) (cs : Nat → Int32) (sa : Nat → Int32) (go : Nat → Int32) (to : Nat → Int32) (ty : Nat) (dm : Nat) (at_ : Nat) (so : Bool) (de : Nat) (ke : Nat) (sm : Nat) (nr : Nat) (nc : Nat) (n : Nat) (q : Nat) (t : Int32) (x : Int32) (hro : ro 0 = nI nr) (hco : co 0 = nI nc) (hg1 : 2 ≤ nr ∧ nr ≤ 8) (hg2 : 2 ≤ nc ∧ nc ≤ 8) (hn1 : nw 1 = nI n) (hn : n ≤ 10) (hmp : mp 0 = nI q) (hq : q ≤ 5) : Rd l yX10_shows cX10_shows 3 (some .int) (rmz 3 73) G [.ref q0, .int t, .int x] [(q0, .inr (10, [.ref q1, .int (nI ty), .ref q2, .ref q3, .ref q4, .ref q5, .ref q6, .ref q7, .ref q8, .int (nI dm), .int (nI at_), .int (zb so), .ref q9, .int (nI de), .int (nI ke), .ref q10, .ref q11, .ref q12, .int (nI sm), .ref q13, .ref q14])), (q1, .inl (kB G, 200, .inl tx)), (q2, .inl (kI G, 2, .inl ro)), (q3, .inl (kI G, 2, .inl co)), (q4, .inl (kI G, 2, .inl mp)), (q5, .inl (kI G, 10, .inl my)), (q6, .inl (kI G, 10, .inl md)), (q7, .inl (kI G, 10, .inl mr)), (q8, .inl (kI G, 40, .inl dr)), (q9, .inl (kI G, 504, .inl nw)), (q10, .inl (kI G, 64, .inl tk)), (q11, .inl (kI G, 64, .inl cs)), (q12, .inl (kI G, 12, .inl sa)), (q13, .inl (kI G, 8, .inl go)), (q14, .inl (kI G, 2048, .inl to))] (.int (if inB t q then (if inG nr nc x then ssM (swM nr nc nw my md mr n (ix t)) x else -1) else -1)) := by
  refine Rd.ofW (by decide) (Nat.le_of_ble_eq_true rfl) ?_
  intro p e s m below meth c ls hx hb hml hr hown hts hlk hP hE hl
  have hl : lv_has ls 3 [(0, .ref q0), (1, .int t), (2, .int x)] := hl
  refine lv_aload_n hx hb dX10_shows_0 rfl (lv_at hl 0 rfl) ?_
  refine lv_iload_n hx hb dX10_shows_1 rfl (lv_at hl 1 rfl) ?_
  refine rd_callV (As := [.int t]) (rest := []) hx hb hml hown hts hE hl.1 (c_X10_isMap l G q0 q1 q2 q3 q4 q5 q6 q7 q8 q9 q10 q11 q12 q13 q14 tx ro co mp my md mr dr nw tk cs sa go to ty dm at_ so de ke sm q t (by first | assumption | omega) (by first | assumption | omega)) (cw_X10_133 hts) ⟨(Nat.le_of_ble_eq_true rfl), (Nat.le_of_ble_eq_true rfl)⟩ ⟨Nat.zero_le _, Nat.zero_le _⟩ rfl (sub_P hP [0, 1, 2, 3, 4, 5, 6, 7, 8, 9, 10, 11, 12, 13, 14] rfl) rfl rfl rfl rfl (Nat.le_of_ble_eq_true rfl) dX10_shows_2 ?_
  refine lv_if_eq (tgt := 29) hx hb dX10_shows_5 (by decide) (fun c5 => ?_) (fun c5 => ?_)
  · have c5 := zb_0.mp c5
    refine lv_iconst (v := -1) hx hb dX10_shows_29 (by decide) ?_
    exact rd_iret hx hb hr hlk dX10_shows_30 (by first | (rw [if_pos c5, if_pos c13, ixx (by omega)]; rfl) | (simp [c5]; done))
  · have c5 := zb_n0.mp c5
    obtain ⟨j, hj, rfl⟩ := inB_nat c5 (by omega)
    have c5 := c5
    refine lv_aload_n hx hb dX10_shows_8 rfl (lv_at hl 0 rfl) ?_
    refine lv_iload_n hx hb dX10_shows_9 rfl (lv_at hl 2 rfl) ?_
    refine rd_callV (As := [.int x]) (rest := []) hx hb hml hown hts hE hl.1 (c_X10_isCell l G q0 q1 q2 q3 q4 q5 q6 q7 q8 q9 q10 q11 q12 q13 q14 tx ro co mp my md mr dr nw tk cs sa go to ty dm at_ so de ke sm nr nc x (by first | assumption | omega) (by first | assumption | omega) (by first | assumption | omega) (by first | assumption | omega)) (cw_X10_116 hts) ⟨(Nat.le_of_ble_eq_true rfl), (Nat.le_of_ble_eq_true rfl)⟩ ⟨Nat.zero_le _, Nat.zero_le _⟩ rfl (sub_P hP [0, 1, 2, 3, 4, 5, 6, 7, 8, 9, 10, 11, 12, 13, 14] rfl) rfl rfl rfl rfl (Nat.le_of_ble_eq_true rfl) dX10_shows_10 ?_
    refine lv_if_eq (tgt := 29) hx hb dX10_shows_13 (by decide) (fun c13 => ?_) (fun c13 => ?_)
    · have c13 := zb_0.mp c13
      refine lv_iconst (v := -1) hx hb dX10_shows_29 (by decide) ?_
      exact rd_iret hx hb hr hlk dX10_shows_30 (by first | (rw [if_pos c5, if_pos c13, ixx (by omega)]; rfl) | (simp [c5, c13]; done))
    · have c13 := zb_n0.mp c13
      refine lv_aload_n hx hb dX10_shows_16 rfl (lv_at hl 0 rfl) ?_
      refine lv_iload_n hx hb dX10_shows_17 rfl (lv_at hl 1 rfl) ?_
      refine rd_callV (As := [.int (nI j)]) (rest := []) hx hb hml hown hts hE hl.1 (c_X10_shown l G q0 q1 q2 q3 q4 q5 q6 q7 q8 q9 q10 q11 q12 q13 q14 tx ro co mp my md mr dr nw tk cs sa go to ty dm at_ so de ke sm nr nc n j (by first | assumption | omega) (by first | assumption | omega) (by first | assumption | omega) (by first | assumption | omega) (by first | assumption | omega) (by first | assumption | omega) (by first | assumption | omega)) (cw_X10_136 hts) ⟨(Nat.le_of_ble_eq_true rfl), (Nat.le_of_ble_eq_true rfl)⟩ ⟨Nat.zero_le _, Nat.zero_le _⟩ rfl (sub_P hP [0, 1, 2, 3, 4, 5, 6, 7, 8, 9, 10, 11, 12, 13, 14] rfl) rfl rfl rfl rfl (Nat.le_of_ble_eq_true rfl) dX10_shows_18 ?_
      refine lv_iload_n hx hb dX10_shows_21 rfl (lv_at hl 2 rfl) ?_
      refine lv_lshr hx hb dX10_shows_22 rfl ?_
      refine lv_lconst (v := 1) hx hb dX10_shows_23 (by decide) ?_
      refine lv_land hx hb dX10_shows_24 ?_
      refine lv_l2i hx hb dX10_shows_25 rfl ?_
      refine lv_goto (tgt := 30) hx hb dX10_shows_26 (by decide) ?_
      exact rd_iret hx hb hr hlk dX10_shows_30 (by first | (rw [if_pos c5, if_pos c13, ixx (by omega)]; rfl) | (simp [c5, c13]; done))

set_option maxHeartbeats 4000000 in
set_option maxRecDepth 100000 in
theorem c_X10_wrong_y (l : Launch) (G : Gv) (q0 : Nat) (q1 : Nat) (q2 : Nat) (q3 : Nat) (q4 : Nat) (q5 : Nat) (q6 : Nat) (q7 : Nat) (q8 : Nat) (q9 : Nat) (q10 : Nat) (q11 : Nat) (q12 : Nat) (q13 : Nat) (q14 : Nat) (tx : Nat → Int32) (ro : Nat → Int32) (co : Nat → Int32) (mp : Nat → Int32) (my : Nat → Int32) (md : Nat → Int32) (mr : Nat → Int32) (dr : Nat → Int32) (nw : Nat → Int32) (tk : Nat → Int32) (cs : Nat → Int32) (sa : Nat → Int32) (go : Nat → Int32) (to : Nat → Int32) (ty : Nat) (dm : Nat) (at_ : Nat) (so : Bool) (de : Nat) (ke : Nat) (sm : Nat) (nr : Nat) (nc : Nat) (n : Nat) (q : Nat) (j : Nat) (w : Int32) (hro : ro 0 = nI nr) (hco : co 0 = nI nc) (hg1 : 2 ≤ nr ∧ nr ≤ 8) (hg2 : 2 ≤ nc ∧ nc ≤ 8) (hn1 : nw 1 = nI n) (hn : n ≤ 10) (hmp : mp 0 = nI q) (hq : q ≤ 5) (hj : j < q) (hw : inn w 0 1 = true) : Rd l yX10_wrong cX10_wrong 6 (some .int) (rmz 3 73) G [.ref q0, .int (nI j), .int w] [(q0, .inr (10, [.ref q1, .int (nI ty), .ref q2, .ref q3, .ref q4, .ref q5, .ref q6, .ref q7, .ref q8, .int (nI dm), .int (nI at_), .int (zb so), .ref q9, .int (nI de), .int (nI ke), .ref q10, .ref q11, .ref q12, .int (nI sm), .ref q13, .ref q14])), (q1, .inl (kB G, 200, .inl tx)), (q2, .inl (kI G, 2, .inl ro)), (q3, .inl (kI G, 2, .inl co)), (q4, .inl (kI G, 2, .inl mp)), (q5, .inl (kI G, 10, .inl my)), (q6, .inl (kI G, 10, .inl md)), (q7, .inl (kI G, 10, .inl mr)), (q8, .inl (kI G, 40, .inl dr)), (q9, .inl (kI G, 504, .inl nw)), (q10, .inl (kI G, 64, .inl tk)), (q11, .inl (kI G, 64, .inl cs)), (q12, .inl (kI G, 12, .inl sa)), (q13, .inl (kI G, 8, .inl go)), (q14, .inl (kI G, 2048, .inl to))] (.int (if w = 0 then mnM (wgM nw (my j) (swM nr nc nw my md mr n j) n) 64 else fsx (hsM (wgM nw (my j) (swM nr nc nw my md mr n j) n)) 64 0)) := by
  refine Rd.ofW (by decide) (Nat.le_of_ble_eq_true rfl) ?_
  intro p e s m below meth c ls hx hb hml hr hown hts hlk hP hE hl
  have hl : lv_has ls 6 [(0, .ref q0), (1, .int (nI j)), (2, .int w)] := hl
  have J_28 : ∀ (n_ : Nat) (k : Nat) (acc : Int64) (hk : k ≤ n) (ha : acc = wgM nw (my j) (swM nr nc nw my md mr n j) k) (hm_28 : n - k < n_), ∀ ls : Array Slot, lv_has ls 6 [(0, .ref q0), (1, .int (nI j)), (2, .int w), (3, .long acc), (5, .int (nI k))] → WR p l e (rmz 3 73) s m [.ref q0, .int (nI j), .int w] below meth c (.int (if w = 0 then mnM (wgM nw (my j) (swM nr nc nw my md mr n j) n) 64 else fsx (hsM (wgM nw (my j) (swM nr nc nw my md mr n j) n)) 64 0)) (F0 m 28 ls []) := by
    intro n_
    induction n_ with
    | zero =>
      intro k acc hk ha hm_28
      exact absurd hm_28 (Nat.not_lt_zero _)
    | succ n_ ih_28 =>
      intro k acc hk ha hm_28 ls hl
      refine lv_iload hx hb dX10_wrong_28 (lv_at hl 4 rfl) ?_
      refine lv_aload_n hx hb dX10_wrong_30 rfl (lv_at hl 0 rfl) ?_
      refine va_get hx hb hts inlX10 hown hE.1 hP 0 rfl rfl 12 (by decide) (fl_X10_35 hts) (fun _ h9 => h9) rfl dX10_wrong_31 ?_
      refine lv_iconst (v := 1) hx hb dX10_wrong_34 (by decide) ?_
      refine va_iald hx hb hE.1 hP 9 0 rfl rfl (inB_iff.mp (by decide)) dX10_wrong_35 ?_
      rw [show (1 : Int32).toNatClampNeg = 1 from rfl]
      rw [hn1]
      refine lv_icmp_ge (tgt := 85) hx hb dX10_wrong_36 (by decide) (fun c36 => ?_) (fun c36 => ?_)
      · have hkn : n ≤ k := le_of_le (by omega) (by omega) c36
        refine lv_iload_n hx hb dX10_wrong_85 rfl (lv_at hl 2 rfl) ?_
        refine lv_if_ne (tgt := 96) hx hb dX10_wrong_86 (by decide) (fun c86 => ?_) (fun c86 => ?_)
        · refine lv_lload_n hx hb dX10_wrong_96 rfl (lv_at hl 3 rfl) ?_
          refine rd_callS (As := [.long acc]) (rest := []) hx hb hml hown hts hE hl.1 (c_X10_lowest l G acc ) (cs_X10_178 hts) ⟨(Nat.le_of_ble_eq_true rfl), (Nat.le_of_ble_eq_true rfl)⟩ ⟨Nat.zero_le _, Nat.zero_le _⟩ rfl (sub_P hP [] rfl) rfl (Nat.le_of_ble_eq_true rfl) dX10_wrong_97 ?_
          exact rd_iret hx hb hr hlk dX10_wrong_100 (by rw [show k = n by omega] at ha; first | rw [if_pos c86, ha] | rw [if_neg c86, ha])
        · refine lv_lload_n hx hb dX10_wrong_89 rfl (lv_at hl 3 rfl) ?_
          refine rd_callS (As := [.long acc]) (rest := []) hx hb hml hown hts hE hl.1 (c_X10_manyOf l G acc ) (cs_X10_140 hts) ⟨(Nat.le_of_ble_eq_true rfl), (Nat.le_of_ble_eq_true rfl)⟩ ⟨Nat.zero_le _, Nat.zero_le _⟩ rfl (sub_P hP [] rfl) rfl (Nat.le_of_ble_eq_true rfl) dX10_wrong_90 ?_
          refine lv_goto (tgt := 100) hx hb dX10_wrong_93 (by decide) ?_
          exact rd_iret hx hb hr hlk dX10_wrong_100 (by rw [show k = n by omega] at ha; first | rw [if_pos c86, ha] | rw [if_neg c86, ha])
      · have hkn : k < n := lt_of_nle (by omega) (by omega) c36
        refine lv_lload_n hx hb dX10_wrong_39 rfl (lv_at hl 3 rfl) ?_
        refine lv_aload_n hx hb dX10_wrong_40 rfl (lv_at hl 0 rfl) ?_
        refine lv_iconst (v := 0) hx hb dX10_wrong_41 (by decide) ?_
        refine lv_iload hx hb dX10_wrong_42 (lv_at hl 4 rfl) ?_
        refine lv_aload_n hx hb dX10_wrong_44 rfl (lv_at hl 0 rfl) ?_
        refine va_get hx hb hts inlX10 hown hE.1 hP 0 rfl rfl 5 (by decide) (fl_X10_23 hts) (fun _ h9 => h9) rfl dX10_wrong_45 ?_
        refine lv_iload_n hx hb dX10_wrong_48 rfl (lv_at hl 1 rfl) ?_
        refine va_iald hx hb hE.1 hP 5 0 rfl rfl (vp_in_nI (by omega) (by omega)) dX10_wrong_49 ?_
        rw [nI_clamp (show j < 2 ^ 31 by omega)]
        refine rd_callV (As := [.int 0, .int (nI k), .int (my j)]) (rest := [.long acc]) hx hb hml hown hts hE hl.1 (c_X10_isLost l G q0 q1 q2 q3 q4 q5 q6 q7 q8 q9 q10 q11 q12 q13 q14 tx ro co mp my md mr dr nw tk cs sa go to ty dm at_ so de ke sm 0 k (my j) (by decide) (by first | assumption | omega)) (cw_X10_113 hts) ⟨(Nat.le_of_ble_eq_true rfl), (Nat.le_of_ble_eq_true rfl)⟩ ⟨Nat.zero_le _, Nat.zero_le _⟩ rfl (sub_P hP [0, 1, 2, 3, 4, 5, 6, 7, 8, 9, 10, 11, 12, 13, 14] rfl) rfl rfl rfl rfl (Nat.le_of_ble_eq_true rfl) dX10_wrong_50 ?_
        refine lv_if_eq (tgt := 74) hx hb dX10_wrong_53 (by decide) (fun c53 => ?_) (fun c53 => ?_)
        · have c53 := zb_0.mp c53
          refine lv_ldc2 hx hb hown (cL_X10_163 hts) dX10_wrong_74 ?_
          refine lv_land hx hb dX10_wrong_77 ?_
          refine lv_lstore_n (lv' := [(3, .long (acc &&& (-1))), (0, .ref q0), (1, .int (nI j)), (2, .int w), (5, .int (nI k))]) hx hb dX10_wrong_78 rfl hl (by decide) rfl (fun ls hl => ?_)
          refine lv_iinc (v := nI (k + 1)) (lv' := [(5, .int (nI (k + 1))), (3, .long (acc &&& (-1))), (0, .ref q0), (1, .int (nI j)), (2, .int w)]) hx hb dX10_wrong_79 hl (k := 4) rfl (nI_1 k) (by decide) rfl (fun ls hl => ?_)
          refine lv_goto (tgt := 28) hx hb dX10_wrong_82 (by decide) ?_
          have ha0 := ha
          rw [wgM] at ha0
          exact ih_28 (k + 1) (acc &&& (-1)) (by first | assumption | omega | rfl) (by rw [wgM, it_s]; simp only [← ha0, c53]; first | rfl | simp [cel, bt]) (by omega) ls (lv_sub hl [2, 3, 4, 1, 0] rfl)
        · have c53 := zb_n0.mp c53
          refine lv_lconst (v := 1) hx hb dX10_wrong_56 (by decide) ?_
          refine lv_aload_n hx hb dX10_wrong_57 rfl (lv_at hl 0 rfl) ?_
          refine va_get hx hb hts inlX10 hown hE.1 hP 0 rfl rfl 12 (by decide) (fl_X10_35 hts) (fun _ h9 => h9) rfl dX10_wrong_58 ?_
          refine lv_iconst (v := 2) hx hb dX10_wrong_61 (by decide) ?_
          refine lv_iload hx hb dX10_wrong_62 (lv_at hl 4 rfl) ?_
          refine lv_iadd hx hb dX10_wrong_64 ?_
          rw [show (2 : Int32) + (nI k) = nI (2 + k) from nI_add 2 k]
          refine va_iald hx hb hE.1 hP 9 0 rfl rfl (vp_in_nI (by omega) (by omega)) dX10_wrong_65 ?_
          rw [nI_clamp (show 2 + k < 2 ^ 31 by omega)]
          refine lv_lshl hx hb dX10_wrong_66 rfl ?_
          refine lv_ldc2 hx hb hown (cL_X10_163 hts) dX10_wrong_67 ?_
          refine lv_lxor hx hb dX10_wrong_70 ?_
          refine lv_goto (tgt := 77) hx hb dX10_wrong_71 (by decide) ?_
          refine lv_land hx hb dX10_wrong_77 ?_
          refine lv_lstore_n (lv' := [(3, .long (acc &&& ((1 <<< ((nw (2 + k)).toInt64 &&& 63)) ^^^ (-1)))), (0, .ref q0), (1, .int (nI j)), (2, .int w), (5, .int (nI k))]) hx hb dX10_wrong_78 rfl hl (by decide) rfl (fun ls hl => ?_)
          refine lv_iinc (v := nI (k + 1)) (lv' := [(5, .int (nI (k + 1))), (3, .long (acc &&& ((1 <<< ((nw (2 + k)).toInt64 &&& 63)) ^^^ (-1)))), (0, .ref q0), (1, .int (nI j)), (2, .int w)]) hx hb dX10_wrong_79 hl (k := 4) rfl (nI_1 k) (by decide) rfl (fun ls hl => ?_)
          refine lv_goto (tgt := 28) hx hb dX10_wrong_82 (by decide) ?_
          have ha0 := ha
          rw [wgM] at ha0
          exact ih_28 (k + 1) (acc &&& ((1 <<< ((nw (2 + k)).toInt64 &&& 63)) ^^^ (-1))) (by first | assumption | omega | rfl) (by rw [wgM, it_s]; simp only [← ha0, c53]; first | rfl | simp [cel, bt]) (by omega) ls (lv_sub hl [2, 3, 4, 1, 0] rfl)
  refine lv_aload_n hx hb dX10_wrong_0 rfl (lv_at hl 0 rfl) ?_
  refine lv_iload_n hx hb dX10_wrong_1 rfl (lv_at hl 1 rfl) ?_
  refine rd_callV (As := [.int (nI j)]) (rest := []) hx hb hml hown hts hE hl.1 (c_X10_isMap l G q0 q1 q2 q3 q4 q5 q6 q7 q8 q9 q10 q11 q12 q13 q14 tx ro co mp my md mr dr nw tk cs sa go to ty dm at_ so de ke sm q (nI j) (by first | assumption | omega) (by first | assumption | omega)) (cw_X10_133 hts) ⟨(Nat.le_of_ble_eq_true rfl), (Nat.le_of_ble_eq_true rfl)⟩ ⟨Nat.zero_le _, Nat.zero_le _⟩ rfl (sub_P hP [0, 1, 2, 3, 4, 5, 6, 7, 8, 9, 10, 11, 12, 13, 14] rfl) rfl rfl rfl rfl (Nat.le_of_ble_eq_true rfl) dX10_wrong_2 ?_
  refine lv_if_eq (tgt := 17) hx hb dX10_wrong_5 (by decide) (fun c5 => ?_) (fun c5 => ?_)
  · have c5 := zb_0.mp c5
    exact absurd c5 (by rw [inB_nI (by omega)]; simp [hj])
  · have c5 := zb_n0.mp c5
    refine lv_iload_n hx hb dX10_wrong_8 rfl (lv_at hl 2 rfl) ?_
    refine lv_iconst (v := 0) hx hb dX10_wrong_9 (by decide) ?_
    refine lv_iconst (v := 1) hx hb dX10_wrong_10 (by decide) ?_
    refine rd_callS (As := [.int w, .int 0, .int 1]) (rest := []) hx hb hml hown hts hE hl.1 (c_X10_in l G w 0 1 ) (cs_X10_61 hts) ⟨(Nat.le_of_ble_eq_true rfl), (Nat.le_of_ble_eq_true rfl)⟩ ⟨Nat.zero_le _, Nat.zero_le _⟩ rfl (sub_P hP [] rfl) rfl (Nat.le_of_ble_eq_true rfl) dX10_wrong_11 ?_
    refine lv_if_ne (tgt := 19) hx hb dX10_wrong_14 (by decide) (fun c14 => ?_) (fun c14 => ?_)
    · have c14 := zb_n0.mp c14
      refine lv_aload_n hx hb dX10_wrong_19 rfl (lv_at hl 0 rfl) ?_
      refine lv_iload_n hx hb dX10_wrong_20 rfl (lv_at hl 1 rfl) ?_
      refine rd_callV (As := [.int (nI j)]) (rest := []) hx hb hml hown hts hE hl.1 (c_X10_shown l G q0 q1 q2 q3 q4 q5 q6 q7 q8 q9 q10 q11 q12 q13 q14 tx ro co mp my md mr dr nw tk cs sa go to ty dm at_ so de ke sm nr nc n j (by first | assumption | omega) (by first | assumption | omega) (by first | assumption | omega) (by first | assumption | omega) (by first | assumption | omega) (by first | assumption | omega) (by first | assumption | omega)) (cw_X10_136 hts) ⟨(Nat.le_of_ble_eq_true rfl), (Nat.le_of_ble_eq_true rfl)⟩ ⟨Nat.zero_le _, Nat.zero_le _⟩ rfl (sub_P hP [0, 1, 2, 3, 4, 5, 6, 7, 8, 9, 10, 11, 12, 13, 14] rfl) rfl rfl rfl rfl (Nat.le_of_ble_eq_true rfl) dX10_wrong_21 ?_
      refine lv_lstore_n (lv' := [(3, .long (swM nr nc nw my md mr n j)), (0, .ref q0), (1, .int (nI j)), (2, .int w)]) hx hb dX10_wrong_24 rfl hl (by decide) rfl (fun ls hl => ?_)
      refine lv_iconst (v := 0) hx hb dX10_wrong_25 (by decide) ?_
      refine lv_istore (lv' := [(5, .int 0), (3, .long (swM nr nc nw my md mr n j)), (0, .ref q0), (1, .int (nI j)), (2, .int w)]) hx hb dX10_wrong_26 hl (by decide) rfl (fun ls hl => ?_)
      exact J_28 (n - 0 + 1) 0 (swM nr nc nw my md mr n j) (by first | assumption | omega | rfl) rfl (Nat.lt_succ_self _) ls (lv_sub hl [2, 3, 4, 1, 0] rfl)
    · have c14 := zb_0.mp c14
      exact absurd (c14.symm.trans hw) (by decide)

set_option maxHeartbeats 4000000 in
set_option maxRecDepth 100000 in
theorem c_X10_wrong_n (l : Launch) (G : Gv) (q0 : Nat) (q1 : Nat) (q2 : Nat) (q3 : Nat) (q4 : Nat) (q5 : Nat) (q6 : Nat) (q7 : Nat) (q8 : Nat) (q9 : Nat) (q10 : Nat) (q11 : Nat) (q12 : Nat) (q13 : Nat) (q14 : Nat) (tx : Nat → Int32) (ro : Nat → Int32) (co : Nat → Int32) (mp : Nat → Int32) (my : Nat → Int32) (md : Nat → Int32) (mr : Nat → Int32) (dr : Nat → Int32) (nw : Nat → Int32) (tk : Nat → Int32) (cs : Nat → Int32) (sa : Nat → Int32) (go : Nat → Int32) (to : Nat → Int32) (ty : Nat) (dm : Nat) (at_ : Nat) (so : Bool) (de : Nat) (ke : Nat) (sm : Nat) (nr : Nat) (nc : Nat) (n : Nat) (q : Nat) (t : Int32) (w : Int32) (hro : ro 0 = nI nr) (hco : co 0 = nI nc) (hg1 : 2 ≤ nr ∧ nr ≤ 8) (hg2 : 2 ≤ nc ∧ nc ≤ 8) (hn1 : nw 1 = nI n) (hn : n ≤ 10) (hmp : mp 0 = nI q) (hq : q ≤ 5) (hno : ¬ (inB t q = true ∧ inn w 0 1 = true)) : Rd l yX10_wrong cX10_wrong 6 (some .int) (rmz 2 43) G [.ref q0, .int t, .int w] [(q0, .inr (10, [.ref q1, .int (nI ty), .ref q2, .ref q3, .ref q4, .ref q5, .ref q6, .ref q7, .ref q8, .int (nI dm), .int (nI at_), .int (zb so), .ref q9, .int (nI de), .int (nI ke), .ref q10, .ref q11, .ref q12, .int (nI sm), .ref q13, .ref q14])), (q1, .inl (kB G, 200, .inl tx)), (q2, .inl (kI G, 2, .inl ro)), (q3, .inl (kI G, 2, .inl co)), (q4, .inl (kI G, 2, .inl mp)), (q5, .inl (kI G, 10, .inl my)), (q6, .inl (kI G, 10, .inl md)), (q7, .inl (kI G, 10, .inl mr)), (q8, .inl (kI G, 40, .inl dr)), (q9, .inl (kI G, 504, .inl nw)), (q10, .inl (kI G, 64, .inl tk)), (q11, .inl (kI G, 64, .inl cs)), (q12, .inl (kI G, 12, .inl sa)), (q13, .inl (kI G, 8, .inl go)), (q14, .inl (kI G, 2048, .inl to))] (.int (-1)) := by
  refine Rd.ofW (by decide) (Nat.le_of_ble_eq_true rfl) ?_
  intro p e s m below meth c ls hx hb hml hr hown hts hlk hP hE hl
  have hl : lv_has ls 6 [(0, .ref q0), (1, .int t), (2, .int w)] := hl
  refine lv_aload_n hx hb dX10_wrong_0 rfl (lv_at hl 0 rfl) ?_
  refine lv_iload_n hx hb dX10_wrong_1 rfl (lv_at hl 1 rfl) ?_
  refine rd_callV (As := [.int t]) (rest := []) hx hb hml hown hts hE hl.1 (c_X10_isMap l G q0 q1 q2 q3 q4 q5 q6 q7 q8 q9 q10 q11 q12 q13 q14 tx ro co mp my md mr dr nw tk cs sa go to ty dm at_ so de ke sm q t (by first | assumption | omega) (by first | assumption | omega)) (cw_X10_133 hts) ⟨(Nat.le_of_ble_eq_true rfl), (Nat.le_of_ble_eq_true rfl)⟩ ⟨Nat.zero_le _, Nat.zero_le _⟩ rfl (sub_P hP [0, 1, 2, 3, 4, 5, 6, 7, 8, 9, 10, 11, 12, 13, 14] rfl) rfl rfl rfl rfl (Nat.le_of_ble_eq_true rfl) dX10_wrong_2 ?_
  refine lv_if_eq (tgt := 17) hx hb dX10_wrong_5 (by decide) (fun c5 => ?_) (fun c5 => ?_)
  · have c5 := zb_0.mp c5
    refine lv_iconst (v := -1) hx hb dX10_wrong_17 (by decide) ?_
    exact rd_iret hx hb hr hlk dX10_wrong_18 (by first | rfl | (simp [zb, c5]; done))
  · have c5 := zb_n0.mp c5
    refine lv_iload_n hx hb dX10_wrong_8 rfl (lv_at hl 2 rfl) ?_
    refine lv_iconst (v := 0) hx hb dX10_wrong_9 (by decide) ?_
    refine lv_iconst (v := 1) hx hb dX10_wrong_10 (by decide) ?_
    refine rd_callS (As := [.int w, .int 0, .int 1]) (rest := []) hx hb hml hown hts hE hl.1 (c_X10_in l G w 0 1 ) (cs_X10_61 hts) ⟨(Nat.le_of_ble_eq_true rfl), (Nat.le_of_ble_eq_true rfl)⟩ ⟨Nat.zero_le _, Nat.zero_le _⟩ rfl (sub_P hP [] rfl) rfl (Nat.le_of_ble_eq_true rfl) dX10_wrong_11 ?_
    refine lv_if_ne (tgt := 19) hx hb dX10_wrong_14 (by decide) (fun c14 => ?_) (fun c14 => ?_)
    · have c14 := zb_n0.mp c14
      exact absurd ⟨c5, c14⟩ hno
    · have c14 := zb_0.mp c14
      refine lv_iconst (v := -1) hx hb dX10_wrong_17 (by decide) ?_
      exact rd_iret hx hb hr hlk dX10_wrong_18 (by first | rfl | (simp [zb, c5, c14]; done))

set_option maxHeartbeats 4000000 in
set_option maxRecDepth 100000 in
theorem c_X10_nextMap (l : Launch) (G : Gv) (q0 : Nat) (q1 : Nat) (q2 : Nat) (q3 : Nat) (q4 : Nat) (q5 : Nat) (q6 : Nat) (q7 : Nat) (q8 : Nat) (q9 : Nat) (q10 : Nat) (q11 : Nat) (q12 : Nat) (q13 : Nat) (q14 : Nat) (tx : Nat → Int32) (ro : Nat → Int32) (co : Nat → Int32) (mp : Nat → Int32) (my : Nat → Int32) (md : Nat → Int32) (mr : Nat → Int32) (dr : Nat → Int32) (nw : Nat → Int32) (tk : Nat → Int32) (cs : Nat → Int32) (sa : Nat → Int32) (go : Nat → Int32) (to : Nat → Int32) (ty : Nat) (dm : Nat) (at_ : Nat) (so : Bool) (de : Nat) (ke : Nat) (sm : Nat) (q : Nat) (y : Int32) (hmp : mp 0 = nI q) (hq : q ≤ 5) : Rd l yX10_nextMap cX10_nextMap 4 (some .int) (rmz 0 0) G [.ref q0, .int y] [(q0, .inr (10, [.ref q1, .int (nI ty), .ref q2, .ref q3, .ref q4, .ref q5, .ref q6, .ref q7, .ref q8, .int (nI dm), .int (nI at_), .int (zb so), .ref q9, .int (nI de), .int (nI ke), .ref q10, .ref q11, .ref q12, .int (nI sm), .ref q13, .ref q14])), (q1, .inl (kB G, 200, .inl tx)), (q2, .inl (kI G, 2, .inl ro)), (q3, .inl (kI G, 2, .inl co)), (q4, .inl (kI G, 2, .inl mp)), (q5, .inl (kI G, 10, .inl my)), (q6, .inl (kI G, 10, .inl md)), (q7, .inl (kI G, 10, .inl mr)), (q8, .inl (kI G, 40, .inl dr)), (q9, .inl (kI G, 504, .inl nw)), (q10, .inl (kI G, 64, .inl tk)), (q11, .inl (kI G, 64, .inl cs)), (q12, .inl (kI G, 12, .inl sa)), (q13, .inl (kI G, 8, .inl go)), (q14, .inl (kI G, 2048, .inl to))] (.int (nmA my y q)) := by
  refine Rd.ofW (by decide) (Nat.le_of_ble_eq_true rfl) ?_
  intro p e s m below meth c ls hx hb hml hr hown hts hlk hP hE hl
  have hl : lv_has ls 4 [(0, .ref q0), (1, .int y)] := hl
  have J_6 : ∀ (n_ : Nat) (k : Nat) (acc : Int32) (hk : k ≤ q) (ha : acc = nmA my y k) (hm_6 : q - k < n_), ∀ ls : Array Slot, lv_has ls 4 [(0, .ref q0), (1, .int y), (2, .int acc), (3, .int (nI k))] → WR p l e (rmz 0 0) s m [.ref q0, .int y] below meth c (.int (nmA my y q)) (F0 m 6 ls []) := by
    intro n_
    induction n_ with
    | zero =>
      intro k acc hk ha hm_6
      exact absurd hm_6 (Nat.not_lt_zero _)
    | succ n_ ih_6 =>
      intro k acc hk ha hm_6 ls hl
      refine lv_iload_n hx hb dX10_nextMap_6 rfl (lv_at hl 3 rfl) ?_
      refine lv_aload_n hx hb dX10_nextMap_7 rfl (lv_at hl 0 rfl) ?_
      refine va_get hx hb hts inlX10 hown hE.1 hP 0 rfl rfl 4 (by decide) (fl_X10_20 hts) (fun _ h9 => h9) rfl dX10_nextMap_8 ?_
      refine lv_iconst (v := 0) hx hb dX10_nextMap_11 (by decide) ?_
      refine va_iald hx hb hE.1 hP 4 0 rfl rfl (inB_iff.mp (by decide)) dX10_nextMap_12 ?_
      rw [show (0 : Int32).toNatClampNeg = 0 from rfl]
      rw [hmp]
      refine lv_icmp_ge (tgt := 53) hx hb dX10_nextMap_13 (by decide) (fun c13 => ?_) (fun c13 => ?_)
      · have hkn : q ≤ k := le_of_le (by omega) (by omega) c13
        refine lv_iload_n hx hb dX10_nextMap_53 rfl (lv_at hl 2 rfl) ?_
        exact rd_iret hx hb hr hlk dX10_nextMap_54 (by rw [ha, show k = q by omega])
      · have hkn : k < q := lt_of_nle (by omega) (by omega) c13
        refine lv_aload_n hx hb dX10_nextMap_16 rfl (lv_at hl 0 rfl) ?_
        refine va_get hx hb hts inlX10 hown hE.1 hP 0 rfl rfl 5 (by decide) (fl_X10_23 hts) (fun _ h9 => h9) rfl dX10_nextMap_17 ?_
        refine lv_iload_n hx hb dX10_nextMap_20 rfl (lv_at hl 3 rfl) ?_
        refine va_iald hx hb hE.1 hP 5 0 rfl rfl (vp_in_nI (by omega) (by omega)) dX10_nextMap_21 ?_
        rw [nI_clamp (show k < 2 ^ 31 by omega)]
        refine lv_iload_n hx hb dX10_nextMap_22 rfl (lv_at hl 1 rfl) ?_
        refine lv_icmp_le (tgt := 45) hx hb dX10_nextMap_23 (by decide) (fun c23 => ?_) (fun c23 => ?_)
        · refine lv_iload_n hx hb dX10_nextMap_45 rfl (lv_at hl 2 rfl) ?_
          refine lv_istore_n (lv' := [(2, .int acc), (0, .ref q0), (1, .int y), (3, .int (nI k))]) hx hb dX10_nextMap_46 rfl hl (by decide) rfl (fun ls hl => ?_)
          refine lv_iinc (v := nI (k + 1)) (lv' := [(3, .int (nI (k + 1))), (2, .int acc), (0, .ref q0), (1, .int y)]) hx hb dX10_nextMap_47 hl (k := 3) rfl (nI_1 k) (by decide) rfl (fun ls hl => ?_)
          refine lv_goto (tgt := 6) hx hb dX10_nextMap_50 (by decide) ?_
          have ha0 := ha
          rw [nmA] at ha0
          exact ih_6 (k + 1) acc (by first | assumption | omega | rfl) (by rw [nmA, it_s]; simp only [← ha0]; simp [c13, c23]) (by omega) ls (lv_sub hl [2, 3, 1, 0] rfl)
        · refine lv_aload_n hx hb dX10_nextMap_26 rfl (lv_at hl 0 rfl) ?_
          refine va_get hx hb hts inlX10 hown hE.1 hP 0 rfl rfl 5 (by decide) (fl_X10_23 hts) (fun _ h9 => h9) rfl dX10_nextMap_27 ?_
          refine lv_iload_n hx hb dX10_nextMap_30 rfl (lv_at hl 3 rfl) ?_
          refine va_iald hx hb hE.1 hP 5 0 rfl rfl (vp_in_nI (by omega) (by omega)) dX10_nextMap_31 ?_
          rw [nI_clamp (show k < 2 ^ 31 by omega)]
          refine lv_iload_n hx hb dX10_nextMap_32 rfl (lv_at hl 2 rfl) ?_
          refine lv_icmp_ge (tgt := 45) hx hb dX10_nextMap_33 (by decide) (fun c33 => ?_) (fun c33 => ?_)
          · refine lv_iload_n hx hb dX10_nextMap_45 rfl (lv_at hl 2 rfl) ?_
            refine lv_istore_n (lv' := [(2, .int acc), (0, .ref q0), (1, .int y), (3, .int (nI k))]) hx hb dX10_nextMap_46 rfl hl (by decide) rfl (fun ls hl => ?_)
            refine lv_iinc (v := nI (k + 1)) (lv' := [(3, .int (nI (k + 1))), (2, .int acc), (0, .ref q0), (1, .int y)]) hx hb dX10_nextMap_47 hl (k := 3) rfl (nI_1 k) (by decide) rfl (fun ls hl => ?_)
            refine lv_goto (tgt := 6) hx hb dX10_nextMap_50 (by decide) ?_
            have ha0 := ha
            rw [nmA] at ha0
            exact ih_6 (k + 1) acc (by first | assumption | omega | rfl) (by rw [nmA, it_s]; simp only [← ha0]; simp [c13, c23, c33]) (by omega) ls (lv_sub hl [2, 3, 1, 0] rfl)
          · refine lv_aload_n hx hb dX10_nextMap_36 rfl (lv_at hl 0 rfl) ?_
            refine va_get hx hb hts inlX10 hown hE.1 hP 0 rfl rfl 5 (by decide) (fl_X10_23 hts) (fun _ h9 => h9) rfl dX10_nextMap_37 ?_
            refine lv_iload_n hx hb dX10_nextMap_40 rfl (lv_at hl 3 rfl) ?_
            refine va_iald hx hb hE.1 hP 5 0 rfl rfl (vp_in_nI (by omega) (by omega)) dX10_nextMap_41 ?_
            rw [nI_clamp (show k < 2 ^ 31 by omega)]
            refine lv_goto (tgt := 46) hx hb dX10_nextMap_42 (by decide) ?_
            refine lv_istore_n (lv' := [(2, .int (my k)), (0, .ref q0), (1, .int y), (3, .int (nI k))]) hx hb dX10_nextMap_46 rfl hl (by decide) rfl (fun ls hl => ?_)
            refine lv_iinc (v := nI (k + 1)) (lv' := [(3, .int (nI (k + 1))), (2, .int (my k)), (0, .ref q0), (1, .int y)]) hx hb dX10_nextMap_47 hl (k := 3) rfl (nI_1 k) (by decide) rfl (fun ls hl => ?_)
            refine lv_goto (tgt := 6) hx hb dX10_nextMap_50 (by decide) ?_
            have ha0 := ha
            rw [nmA] at ha0
            exact ih_6 (k + 1) (my k) (by first | assumption | omega | rfl) (by rw [nmA, it_s]; simp only [← ha0]; simp [c13, c23, c33]) (by omega) ls (lv_sub hl [2, 3, 1, 0] rfl)
  refine lv_sipush (v := 1000) hx hb dX10_nextMap_0 (by decide) ?_
  refine lv_istore_n (lv' := [(2, .int 1000), (0, .ref q0), (1, .int y)]) hx hb dX10_nextMap_3 rfl hl (by decide) rfl (fun ls hl => ?_)
  refine lv_iconst (v := 0) hx hb dX10_nextMap_4 (by decide) ?_
  refine lv_istore_n (lv' := [(3, .int 0), (2, .int 1000), (0, .ref q0), (1, .int y)]) hx hb dX10_nextMap_5 rfl hl (by decide) rfl (fun ls hl => ?_)
  exact J_6 (q - 0 + 1) 0 1000 (by first | assumption | omega | rfl) rfl (Nat.lt_succ_self _) ls (lv_sub hl [2, 3, 1, 0] rfl)

set_option maxHeartbeats 4000000 in
set_option maxRecDepth 100000 in
theorem c_X10_older (l : Launch) (G : Gv) (q0 : Nat) (q1 : Nat) (q2 : Nat) (q3 : Nat) (q4 : Nat) (q5 : Nat) (q6 : Nat) (q7 : Nat) (q8 : Nat) (q9 : Nat) (q10 : Nat) (q11 : Nat) (q12 : Nat) (q13 : Nat) (q14 : Nat) (tx : Nat → Int32) (ro : Nat → Int32) (co : Nat → Int32) (mp : Nat → Int32) (my : Nat → Int32) (md : Nat → Int32) (mr : Nat → Int32) (dr : Nat → Int32) (nw : Nat → Int32) (tk : Nat → Int32) (cs : Nat → Int32) (sa : Nat → Int32) (go : Nat → Int32) (to : Nat → Int32) (ty : Nat) (dm : Nat) (at_ : Nat) (so : Bool) (de : Nat) (ke : Nat) (sm : Nat) (n : Nat) (q : Nat) (hn1 : nw 1 = nI n) (hn : n ≤ 10) (hmp : mp 0 = nI q) (hq : q ≤ 5) : Rd l yX10_older cX10_older 7 (some .int) (rmz 1 23) G [.ref q0] [(q0, .inr (10, [.ref q1, .int (nI ty), .ref q2, .ref q3, .ref q4, .ref q5, .ref q6, .ref q7, .ref q8, .int (nI dm), .int (nI at_), .int (zb so), .ref q9, .int (nI de), .int (nI ke), .ref q10, .ref q11, .ref q12, .int (nI sm), .ref q13, .ref q14])), (q1, .inl (kB G, 200, .inl tx)), (q2, .inl (kI G, 2, .inl ro)), (q3, .inl (kI G, 2, .inl co)), (q4, .inl (kI G, 2, .inl mp)), (q5, .inl (kI G, 10, .inl my)), (q6, .inl (kI G, 10, .inl md)), (q7, .inl (kI G, 10, .inl mr)), (q8, .inl (kI G, 40, .inl dr)), (q9, .inl (kI G, 504, .inl nw)), (q10, .inl (kI G, 64, .inl tk)), (q11, .inl (kI G, 64, .inl cs)), (q12, .inl (kI G, 12, .inl sa)), (q13, .inl (kI G, 8, .inl go)), (q14, .inl (kI G, 2048, .inl to))] (.int (if q = 0 then -4 else olL nw my n q 1001 (-1) 1)) := by
  refine Rd.ofW (by decide) (Nat.le_of_ble_eq_true rfl) ?_
  intro p e s m below meth c ls hx hb hml hr hown hts hlk hP hE hl
  have hl : lv_has ls 7 [(0, .ref q0)] := hl
  have J_16 : ∀ (n_ : Nat) (f : Nat) (fr : Int32) (w : Int32) (hq0 : ¬ q = 0) (hf : (1000 - Int32.toInt fr).toNat ≤ f) (hO : olL nw my n q 1001 (-1) 1 = olL nw my n q f fr w) (hm_16 : (1000 - Int32.toInt fr).toNat < n_), ∀ ls : Array Slot, lv_has ls 7 [(0, .ref q0), (1, .int w), (2, .int fr)] → WR p l e (rmz 1 23) s m [.ref q0] below meth c (.int (if q = 0 then -4 else olL nw my n q 1001 (-1) 1)) (F0 m 16 ls []) := by
    intro n_
    induction n_ with
    | zero =>
      intro f fr w hq0 hf hO hm_16
      exact absurd hm_16 (Nat.not_lt_zero _)
    | succ n_ ih_16 =>
      intro f fr w hq0 hf hO hm_16 ls hl
      have J_39 : ∀ (n_ : Nat) (k : Nat) (c2 : Int32) (w2 : Int32) (h24 : ¬ 1000 ≤ nmA my fr q) (hk : k ≤ n) (hI : (c2, w2) = olI nw fr (nmA my fr q) (0, w) k) (hm_39 : n - k < n_), ∀ ls : Array Slot, lv_has ls 7 [(0, .ref q0), (1, .int w2), (2, .int fr), (3, .int (nmA my fr q)), (4, .int c2), (5, .int (nI k))] → WR p l e (rmz 1 23) s m [.ref q0] below meth c (.int (if q = 0 then -4 else olL nw my n q 1001 (-1) 1)) (F0 m 39 ls []) := by
        intro n_
        induction n_ with
        | zero =>
          intro k c2 w2 h24 hk hI hm_39
          exact absurd hm_39 (Nat.not_lt_zero _)
        | succ n_ ih_39 =>
          intro k c2 w2 h24 hk hI hm_39 ls hl
          have J_91 : ∀ (g : Bool) (hkn : k < n) (hgo : olB nw fr (nmA my fr q) k = g), ∀ ls : Array Slot, lv_has ls 7 [(0, .ref q0), (1, .int w2), (2, .int fr), (3, .int (nmA my fr q)), (4, .int c2), (5, .int (nI k))] → WR p l e (rmz 1 23) s m [.ref q0] below meth c (.int (if q = 0 then -4 else olL nw my n q 1001 (-1) 1)) (F0 m 91 ls [.int (zb g)]) := by
            intro g hkn hgo ls hl
            refine lv_istore (lv' := [(6, .int (zb g)), (0, .ref q0), (1, .int w2), (2, .int fr), (3, .int (nmA my fr q)), (4, .int c2), (5, .int (nI k))]) hx hb dX10_older_91 hl (by decide) rfl (fun ls hl => ?_)
            refine lv_iload hx hb dX10_older_93 (lv_at hl 5 rfl) ?_
            refine lv_iload hx hb dX10_older_95 (lv_at hl 0 rfl) ?_
            refine lv_if_eq (tgt := 104) hx hb dX10_older_97 (by decide) (fun c97 => ?_) (fun c97 => ?_)
            · have c97 := zb_0.mp c97
              refine lv_iconst (v := 0) hx hb dX10_older_104 (by decide) ?_
              refine lv_iadd hx hb dX10_older_105 ?_
              refine lv_istore (lv' := [(4, .int (c2 + 0)), (6, .int (zb g)), (0, .ref q0), (1, .int w2), (2, .int fr), (3, .int (nmA my fr q)), (5, .int (nI k))]) hx hb dX10_older_106 hl (by decide) rfl (fun ls hl => ?_)
              refine lv_iload_n hx hb dX10_older_108 rfl (lv_at hl 3 rfl) ?_
              refine lv_iload hx hb dX10_older_109 (lv_at hl 1 rfl) ?_
              refine lv_if_eq (tgt := 119) hx hb dX10_older_111 (by decide) (fun c111 => ?_) (fun c111 => ?_)
              · have c111 := zb_0.mp c111
                refine lv_iconst (v := 1) hx hb dX10_older_119 (by decide) ?_
                refine lv_imul hx hb dX10_older_120 ?_
                refine lv_istore_n (lv' := [(1, .int (w2 * 1)), (4, .int (c2 + 0)), (6, .int (zb g)), (0, .ref q0), (2, .int fr), (3, .int (nmA my fr q)), (5, .int (nI k))]) hx hb dX10_older_121 rfl hl (by decide) rfl (fun ls hl => ?_)
                refine lv_iinc (v := nI (k + 1)) (lv' := [(5, .int (nI (k + 1))), (1, .int (w2 * 1)), (4, .int (c2 + 0)), (6, .int (zb g)), (0, .ref q0), (2, .int fr), (3, .int (nmA my fr q))]) hx hb dX10_older_122 hl (k := 6) rfl (nI_1 k) (by decide) rfl (fun ls hl => ?_)
                refine lv_goto (tgt := 39) hx hb dX10_older_125 (by decide) ?_
                have hI0 := hI
                rw [olI] at hI0
                exact ih_39 (k + 1) (c2 + 0) (w2 * 1) h24 (by first | assumption | omega | rfl) (by rw [olI, it_s]; simp only [← hI0, hgo]; first | (simp [c97, c111]; done) | exact absurd (c97.symm.trans c111) (by decide)) (by omega) ls (lv_sub hl [4, 1, 5, 6, 2, 0] rfl)
              · have c111 := zb_n0.mp c111
                refine lv_iload hx hb dX10_older_114 (lv_at hl 0 rfl) ?_
                refine lv_goto (tgt := 120) hx hb dX10_older_116 (by decide) ?_
                refine lv_imul hx hb dX10_older_120 ?_
                refine lv_istore_n (lv' := [(1, .int (w2 * (c2 + 0))), (4, .int (c2 + 0)), (6, .int (zb g)), (0, .ref q0), (2, .int fr), (3, .int (nmA my fr q)), (5, .int (nI k))]) hx hb dX10_older_121 rfl hl (by decide) rfl (fun ls hl => ?_)
                refine lv_iinc (v := nI (k + 1)) (lv' := [(5, .int (nI (k + 1))), (1, .int (w2 * (c2 + 0))), (4, .int (c2 + 0)), (6, .int (zb g)), (0, .ref q0), (2, .int fr), (3, .int (nmA my fr q))]) hx hb dX10_older_122 hl (k := 6) rfl (nI_1 k) (by decide) rfl (fun ls hl => ?_)
                refine lv_goto (tgt := 39) hx hb dX10_older_125 (by decide) ?_
                have hI0 := hI
                rw [olI] at hI0
                exact ih_39 (k + 1) (c2 + 0) (w2 * (c2 + 0)) h24 (by first | assumption | omega | rfl) (by rw [olI, it_s]; simp only [← hI0, hgo]; first | (simp [c97, c111]; done) | exact absurd (c97.symm.trans c111) (by decide)) (by omega) ls (lv_sub hl [4, 1, 5, 6, 2, 0] rfl)
            · have c97 := zb_n0.mp c97
              refine lv_iconst (v := 1) hx hb dX10_older_100 (by decide) ?_
              refine lv_goto (tgt := 105) hx hb dX10_older_101 (by decide) ?_
              refine lv_iadd hx hb dX10_older_105 ?_
              refine lv_istore (lv' := [(4, .int (c2 + 1)), (6, .int (zb g)), (0, .ref q0), (1, .int w2), (2, .int fr), (3, .int (nmA my fr q)), (5, .int (nI k))]) hx hb dX10_older_106 hl (by decide) rfl (fun ls hl => ?_)
              refine lv_iload_n hx hb dX10_older_108 rfl (lv_at hl 3 rfl) ?_
              refine lv_iload hx hb dX10_older_109 (lv_at hl 1 rfl) ?_
              refine lv_if_eq (tgt := 119) hx hb dX10_older_111 (by decide) (fun c111 => ?_) (fun c111 => ?_)
              · have c111 := zb_0.mp c111
                refine lv_iconst (v := 1) hx hb dX10_older_119 (by decide) ?_
                refine lv_imul hx hb dX10_older_120 ?_
                refine lv_istore_n (lv' := [(1, .int (w2 * 1)), (4, .int (c2 + 1)), (6, .int (zb g)), (0, .ref q0), (2, .int fr), (3, .int (nmA my fr q)), (5, .int (nI k))]) hx hb dX10_older_121 rfl hl (by decide) rfl (fun ls hl => ?_)
                refine lv_iinc (v := nI (k + 1)) (lv' := [(5, .int (nI (k + 1))), (1, .int (w2 * 1)), (4, .int (c2 + 1)), (6, .int (zb g)), (0, .ref q0), (2, .int fr), (3, .int (nmA my fr q))]) hx hb dX10_older_122 hl (k := 6) rfl (nI_1 k) (by decide) rfl (fun ls hl => ?_)
                refine lv_goto (tgt := 39) hx hb dX10_older_125 (by decide) ?_
                have hI0 := hI
                rw [olI] at hI0
                exact ih_39 (k + 1) (c2 + 1) (w2 * 1) h24 (by first | assumption | omega | rfl) (by rw [olI, it_s]; simp only [← hI0, hgo]; first | (simp [c97, c111]; done) | exact absurd (c97.symm.trans c111) (by decide)) (by omega) ls (lv_sub hl [4, 1, 5, 6, 2, 0] rfl)
              · have c111 := zb_n0.mp c111
                refine lv_iload hx hb dX10_older_114 (lv_at hl 0 rfl) ?_
                refine lv_goto (tgt := 120) hx hb dX10_older_116 (by decide) ?_
                refine lv_imul hx hb dX10_older_120 ?_
                refine lv_istore_n (lv' := [(1, .int (w2 * (c2 + 1))), (4, .int (c2 + 1)), (6, .int (zb g)), (0, .ref q0), (2, .int fr), (3, .int (nmA my fr q)), (5, .int (nI k))]) hx hb dX10_older_121 rfl hl (by decide) rfl (fun ls hl => ?_)
                refine lv_iinc (v := nI (k + 1)) (lv' := [(5, .int (nI (k + 1))), (1, .int (w2 * (c2 + 1))), (4, .int (c2 + 1)), (6, .int (zb g)), (0, .ref q0), (2, .int fr), (3, .int (nmA my fr q))]) hx hb dX10_older_122 hl (k := 6) rfl (nI_1 k) (by decide) rfl (fun ls hl => ?_)
                refine lv_goto (tgt := 39) hx hb dX10_older_125 (by decide) ?_
                have hI0 := hI
                rw [olI] at hI0
                exact ih_39 (k + 1) (c2 + 1) (w2 * (c2 + 1)) h24 (by first | assumption | omega | rfl) (by rw [olI, it_s]; simp only [← hI0, hgo]; first | (simp [c97, c111]; done) | exact absurd (c97.symm.trans c111) (by decide)) (by omega) ls (lv_sub hl [4, 1, 5, 6, 2, 0] rfl)
          refine lv_iload hx hb dX10_older_39 (lv_at hl 5 rfl) ?_
          refine lv_aload_n hx hb dX10_older_41 rfl (lv_at hl 0 rfl) ?_
          refine va_get hx hb hts inlX10 hown hE.1 hP 0 rfl rfl 12 (by decide) (fl_X10_35 hts) (fun _ h9 => h9) rfl dX10_older_42 ?_
          refine lv_iconst (v := 1) hx hb dX10_older_45 (by decide) ?_
          refine va_iald hx hb hE.1 hP 9 0 rfl rfl (inB_iff.mp (by decide)) dX10_older_46 ?_
          rw [show (1 : Int32).toNatClampNeg = 1 from rfl]
          rw [hn1]
          refine lv_icmp_ge (tgt := 128) hx hb dX10_older_47 (by decide) (fun c47 => ?_) (fun c47 => ?_)
          · have hkn : n ≤ k := le_of_le (by omega) (by omega) c47
            refine lv_iload_n hx hb dX10_older_128 rfl (lv_at hl 3 rfl) ?_
            refine lv_istore_n (lv' := [(2, .int (nmA my fr q)), (0, .ref q0), (1, .int w2), (3, .int (nmA my fr q)), (4, .int c2), (5, .int (nI k))]) hx hb dX10_older_129 rfl hl (by decide) rfl (fun ls hl => ?_)
            refine lv_goto (tgt := 16) hx hb dX10_older_130 (by decide) ?_
            exact ih_16 (f - 1) (nmA my fr q) w2 hq0 (by have := nmA_m h24; omega) (by rw [hO, show f = (f - 1) + 1 by have := nmA_m h24; omega, olL_s h24, show f - 1 + 1 - 1 = f - 1 by omega, ← show k = n by omega, ← hI]) (by have := nmA_m h24; omega) ls (lv_sub hl [1, 2, 0] rfl)
          · have hkn : k < n := lt_of_nle (by omega) (by omega) c47
            refine lv_aload_n hx hb dX10_older_50 rfl (lv_at hl 0 rfl) ?_
            refine va_get hx hb hts inlX10 hown hE.1 hP 0 rfl rfl 12 (by decide) (fl_X10_35 hts) (fun _ h9 => h9) rfl dX10_older_51 ?_
            refine lv_bipush (v := 32) hx hb dX10_older_54 (by decide) ?_
            refine lv_iload hx hb dX10_older_56 (lv_at hl 5 rfl) ?_
            refine lv_iadd hx hb dX10_older_58 ?_
            rw [show (32 : Int32) + (nI k) = nI (32 + k) from nI_add 32 k]
            refine va_iald hx hb hE.1 hP 9 0 rfl rfl (vp_in_nI (by omega) (by omega)) dX10_older_59 ?_
            rw [nI_clamp (show 32 + k < 2 ^ 31 by omega)]
            refine lv_iconst (v := 3) hx hb dX10_older_60 (by decide) ?_
            refine lv_icmp_eq (tgt := 90) hx hb dX10_older_61 (by decide) (fun c61 => ?_) (fun c61 => ?_)
            · refine lv_iconst (v := 0) hx hb dX10_older_90 (by decide) ?_
              exact J_91 false (by first | assumption | omega | rfl) (by simp [olB, kin, c47, c61]) ls (lv_sub hl [0, 1, 2, 3, 4, 5] rfl)
            · refine lv_aload_n hx hb dX10_older_64 rfl (lv_at hl 0 rfl) ?_
              refine lv_iconst (v := 0) hx hb dX10_older_65 (by decide) ?_
              refine lv_iload hx hb dX10_older_66 (lv_at hl 5 rfl) ?_
              refine lv_iload_n hx hb dX10_older_68 rfl (lv_at hl 3 rfl) ?_
              refine rd_callV (As := [.int 0, .int (nI k), .int (nmA my fr q)]) (rest := []) hx hb hml hown hts hE hl.1 (c_X10_isLost l G q0 q1 q2 q3 q4 q5 q6 q7 q8 q9 q10 q11 q12 q13 q14 tx ro co mp my md mr dr nw tk cs sa go to ty dm at_ so de ke sm 0 k (nmA my fr q) (by decide) (by first | assumption | omega)) (cw_X10_113 hts) ⟨(Nat.le_of_ble_eq_true rfl), (Nat.le_of_ble_eq_true rfl)⟩ ⟨Nat.zero_le _, Nat.zero_le _⟩ rfl (sub_P hP [0, 1, 2, 3, 4, 5, 6, 7, 8, 9, 10, 11, 12, 13, 14] rfl) rfl rfl rfl rfl (Nat.le_of_ble_eq_true rfl) dX10_older_69 ?_
              refine lv_if_eq (tgt := 90) hx hb dX10_older_72 (by decide) (fun c72 => ?_) (fun c72 => ?_)
              · have c72 := zb_0.mp c72
                refine lv_iconst (v := 0) hx hb dX10_older_90 (by decide) ?_
                exact J_91 false (by first | assumption | omega | rfl) (by simp [olB, kin, c47, c61, c72]) ls (lv_sub hl [0, 1, 2, 3, 4, 5] rfl)
              · have c72 := zb_n0.mp c72
                refine lv_aload_n hx hb dX10_older_75 rfl (lv_at hl 0 rfl) ?_
                refine lv_iconst (v := 0) hx hb dX10_older_76 (by decide) ?_
                refine lv_iload hx hb dX10_older_77 (lv_at hl 5 rfl) ?_
                refine lv_iload_n hx hb dX10_older_79 rfl (lv_at hl 2 rfl) ?_
                refine rd_callV (As := [.int 0, .int (nI k), .int fr]) (rest := []) hx hb hml hown hts hE hl.1 (c_X10_isLost l G q0 q1 q2 q3 q4 q5 q6 q7 q8 q9 q10 q11 q12 q13 q14 tx ro co mp my md mr dr nw tk cs sa go to ty dm at_ so de ke sm 0 k fr (by decide) (by first | assumption | omega)) (cw_X10_113 hts) ⟨(Nat.le_of_ble_eq_true rfl), (Nat.le_of_ble_eq_true rfl)⟩ ⟨Nat.zero_le _, Nat.zero_le _⟩ rfl (sub_P hP [0, 1, 2, 3, 4, 5, 6, 7, 8, 9, 10, 11, 12, 13, 14] rfl) rfl rfl rfl rfl (Nat.le_of_ble_eq_true rfl) dX10_older_80 ?_
                refine lv_if_ne (tgt := 90) hx hb dX10_older_83 (by decide) (fun c83 => ?_) (fun c83 => ?_)
                · have c83 := zb_n0.mp c83
                  refine lv_iconst (v := 0) hx hb dX10_older_90 (by decide) ?_
                  exact J_91 false (by first | assumption | omega | rfl) (by simp [olB, kin, c47, c61, c72, c83]) ls (lv_sub hl [0, 1, 2, 3, 4, 5] rfl)
                · have c83 := zb_0.mp c83
                  refine lv_iconst (v := 1) hx hb dX10_older_86 (by decide) ?_
                  refine lv_goto (tgt := 91) hx hb dX10_older_87 (by decide) ?_
                  exact J_91 true (by first | assumption | omega | rfl) (by simp [olB, kin, c47, c61, c72, c83]) ls (lv_sub hl [0, 1, 2, 3, 4, 5] rfl)
      refine lv_aload_n hx hb dX10_older_16 rfl (lv_at hl 0 rfl) ?_
      refine lv_iload_n hx hb dX10_older_17 rfl (lv_at hl 2 rfl) ?_
      refine rd_callV (As := [.int fr]) (rest := []) hx hb hml hown hts hE hl.1 (c_X10_nextMap l G q0 q1 q2 q3 q4 q5 q6 q7 q8 q9 q10 q11 q12 q13 q14 tx ro co mp my md mr dr nw tk cs sa go to ty dm at_ so de ke sm q fr (by first | assumption | omega) (by first | assumption | omega)) (cw_X10_181 hts) ⟨(Nat.le_of_ble_eq_true rfl), (Nat.le_of_ble_eq_true rfl)⟩ ⟨Nat.zero_le _, Nat.zero_le _⟩ rfl (sub_P hP [0, 1, 2, 3, 4, 5, 6, 7, 8, 9, 10, 11, 12, 13, 14] rfl) rfl rfl rfl rfl (Nat.le_of_ble_eq_true rfl) dX10_older_18 ?_
      refine lv_sipush (v := 1000) hx hb dX10_older_21 (by decide) ?_
      refine lv_icmp_ge (tgt := 133) hx hb dX10_older_24 (by decide) (fun c24 => ?_) (fun c24 => ?_)
      · refine lv_iload_n hx hb dX10_older_133 rfl (lv_at hl 1 rfl) ?_
        exact rd_iret hx hb hr hlk dX10_older_134 (by rw [if_neg hq0, hO, olL_end c24])
      · refine lv_aload_n hx hb dX10_older_27 rfl (lv_at hl 0 rfl) ?_
        refine lv_iload_n hx hb dX10_older_28 rfl (lv_at hl 2 rfl) ?_
        refine rd_callV (As := [.int fr]) (rest := []) hx hb hml hown hts hE hl.1 (c_X10_nextMap l G q0 q1 q2 q3 q4 q5 q6 q7 q8 q9 q10 q11 q12 q13 q14 tx ro co mp my md mr dr nw tk cs sa go to ty dm at_ so de ke sm q fr (by first | assumption | omega) (by first | assumption | omega)) (cw_X10_181 hts) ⟨(Nat.le_of_ble_eq_true rfl), (Nat.le_of_ble_eq_true rfl)⟩ ⟨Nat.zero_le _, Nat.zero_le _⟩ rfl (sub_P hP [0, 1, 2, 3, 4, 5, 6, 7, 8, 9, 10, 11, 12, 13, 14] rfl) rfl rfl rfl rfl (Nat.le_of_ble_eq_true rfl) dX10_older_29 ?_
        refine lv_istore_n (lv' := [(3, .int (nmA my fr q)), (0, .ref q0), (1, .int w), (2, .int fr)]) hx hb dX10_older_32 rfl hl (by decide) rfl (fun ls hl => ?_)
        refine lv_iconst (v := 0) hx hb dX10_older_33 (by decide) ?_
        refine lv_istore (lv' := [(4, .int 0), (3, .int (nmA my fr q)), (0, .ref q0), (1, .int w), (2, .int fr)]) hx hb dX10_older_34 hl (by decide) rfl (fun ls hl => ?_)
        refine lv_iconst (v := 0) hx hb dX10_older_36 (by decide) ?_
        refine lv_istore (lv' := [(5, .int 0), (4, .int 0), (3, .int (nmA my fr q)), (0, .ref q0), (1, .int w), (2, .int fr)]) hx hb dX10_older_37 hl (by decide) rfl (fun ls hl => ?_)
        exact J_39 (n - 0 + 1) 0 0 w c24 (by first | assumption | omega | rfl) rfl (Nat.lt_succ_self _) ls (lv_sub hl [3, 4, 5, 2, 1, 0] rfl)
  refine lv_aload_n hx hb dX10_older_0 rfl (lv_at hl 0 rfl) ?_
  refine va_get hx hb hts inlX10 hown hE.1 hP 0 rfl rfl 4 (by decide) (fl_X10_20 hts) (fun _ h9 => h9) rfl dX10_older_1 ?_
  refine lv_iconst (v := 0) hx hb dX10_older_4 (by decide) ?_
  refine va_iald hx hb hE.1 hP 4 0 rfl rfl (inB_iff.mp (by decide)) dX10_older_5 ?_
  rw [show (0 : Int32).toNatClampNeg = 0 from rfl]
  rw [hmp]
  refine lv_if_ne (tgt := 12) hx hb dX10_older_6 (by decide) (fun c6 => ?_) (fun c6 => ?_)
  · have c6 : ¬ q = 0 := fun z => c6 (by rw [z]; rfl)
    refine lv_iconst (v := 1) hx hb dX10_older_12 (by decide) ?_
    refine lv_istore_n (lv' := [(1, .int 1), (0, .ref q0)]) hx hb dX10_older_13 rfl hl (by decide) rfl (fun ls hl => ?_)
    refine lv_iconst (v := -1) hx hb dX10_older_14 (by decide) ?_
    refine lv_istore_n (lv' := [(2, .int (-1)), (1, .int 1), (0, .ref q0)]) hx hb dX10_older_15 rfl hl (by decide) rfl (fun ls hl => ?_)
    exact J_16 ((1000 - Int32.toInt (-1)).toNat + 1) 1001 (-1) 1 c6 (by decide) rfl (Nat.lt_succ_self _) ls (lv_sub hl [2, 1, 0] rfl)
  · have c6 : q = 0 := (nI_eq (a := q) (b := 0) (by omega) (by decide)).mp c6
    refine lv_bipush (v := -4) hx hb dX10_older_9 (by decide) ?_
    exact rd_iret hx hb hr hlk dX10_older_11 (by rw [if_pos c6])

set_option maxHeartbeats 4000000 in
set_option maxRecDepth 100000 in
theorem c_X10_seen (l : Launch) (G : Gv) (q0 : Nat) (q1 : Nat) (q2 : Nat) (q3 : Nat) (q4 : Nat) (q5 : Nat) (q6 : Nat) (q7 : Nat) (q8 : Nat) (q9 : Nat) (q10 : Nat) (q11 : Nat) (q12 : Nat) (q13 : Nat) (q14 : Nat) (tx : Nat → Int32) (ro : Nat → Int32) (co : Nat → Int32) (mp : Nat → Int32) (my : Nat → Int32) (md : Nat → Int32) (mr : Nat → Int32) (dr : Nat → Int32) (nw : Nat → Int32) (tk : Nat → Int32) (cs : Nat → Int32) (sa : Nat → Int32) (go : Nat → Int32) (to : Nat → Int32) (ty : Nat) (dm : Nat) (at_ : Nat) (so : Bool) (de : Nat) (ke : Nat) (sm : Nat) (nr : Nat) (nc : Nat) (n : Nat) (q : Nat) (x : Int32) (hro : ro 0 = nI nr) (hco : co 0 = nI nc) (hg1 : 2 ≤ nr ∧ nr ≤ 8) (hg2 : 2 ≤ nc ∧ nc ≤ 8) (hn1 : nw 1 = nI n) (hn : n ≤ 10) (hmp : mp 0 = nI q) (hq : q ≤ 5) (hsm : sm ≤ 12) : Ct l yX10_seen cX10_seen 2 (some .int) (rmz 2 43) G [.ref q0, .int x] [(q0, .inr (10, [.ref q1, .int (nI ty), .ref q2, .ref q3, .ref q4, .ref q5, .ref q6, .ref q7, .ref q8, .int (nI dm), .int (nI at_), .int (zb so), .ref q9, .int (nI de), .int (nI ke), .ref q10, .ref q11, .ref q12, .int (nI sm), .ref q13, .ref q14])), (q1, .inl (kB G, 200, .inl tx)), (q2, .inl (kI G, 2, .inl ro)), (q3, .inl (kI G, 2, .inl co)), (q4, .inl (kI G, 2, .inl mp)), (q5, .inl (kI G, 10, .inl my)), (q6, .inl (kI G, 10, .inl md)), (q7, .inl (kI G, 10, .inl mr)), (q8, .inl (kI G, 40, .inl dr)), (q9, .inl (kI G, 504, .inl nw)), (q10, .inl (kI G, 64, .inl tk)), (q11, .inl (kI G, 64, .inl cs)), (q12, .inl (kI G, 12, .inl sa)), (q13, .inl (kI G, 8, .inl go)), (q14, .inl (kI G, 2048, .inl to))] (one (some (.int (if inG nr nc x then (if sm = 12 then -3 else nI (sm + 1)) else -1))) [(q0, .inr (10, [.ref q1, .int (nI ty), .ref q2, .ref q3, .ref q4, .ref q5, .ref q6, .ref q7, .ref q8, .int (nI dm), .int (nI at_), .int (zb so), .ref q9, .int (nI de), .int (nI ke), .ref q10, .ref q11, .ref q12, .int (nI (if inG nr nc x && !decide (sm = 12) then sm + 1 else sm)), .ref q13, .ref q14])), (q1, .inl (kB G, 200, .inl tx)), (q2, .inl (kI G, 2, .inl ro)), (q3, .inl (kI G, 2, .inl co)), (q4, .inl (kI G, 2, .inl mp)), (q5, .inl (kI G, 10, .inl my)), (q6, .inl (kI G, 10, .inl md)), (q7, .inl (kI G, 10, .inl mr)), (q8, .inl (kI G, 40, .inl dr)), (q9, .inl (kI G, 504, .inl nw)), (q10, .inl (kI G, 64, .inl tk)), (q11, .inl (kI G, 64, .inl cs)), (q12, .inl (kI G, 12, .inl (if inG nr nc x && !decide (sm = 12) then upd sa sm x else sa))), (q13, .inl (kI G, 8, .inl go)), (q14, .inl (kI G, 2048, .inl to))]) := by
  refine Ct.ofW (by decide) (Nat.le_of_ble_eq_true rfl) ?_
  intro p e s m below meth c ls A hx hb hml hr hown hts hlk hnm hP hD hA hE hS hl
  obtain ⟨H, eH⟩ : ∃ H : Heap, H = s.heap := ⟨_, rfl⟩
  obtain ⟨locs, eL⟩ : ∃ ll : List Loc, ll = [] := ⟨_, rfl⟩
  rw [← eH] at hP
  have hS : va_S A s.heap H locs := by rw [eH, eL]; exact hS
  show WC p l e _ s m _ below meth c G A _ s.heap [] 0 0 _
  rw [← eH, ← eL]
  clear eH eL
  have hl : lv_has ls 2 [(0, .ref q0), (1, .int x)] := hl
  refine lv_aload_n hx hb dX10_seen_0 rfl (lv_at hl 0 rfl) ?_
  refine lv_iload_n hx hb dX10_seen_1 rfl (lv_at hl 1 rfl) ?_
  refine rd_callV (As := [.int x]) (rest := []) hx hb hml hown hts (hE.at0 hS) hl.1 (c_X10_isCell l G q0 q1 q2 q3 q4 q5 q6 q7 q8 q9 q10 q11 q12 q13 q14 tx ro co mp my md mr dr nw tk cs sa go to ty dm at_ so de ke sm nr nc x (by first | assumption | omega) (by first | assumption | omega) (by first | assumption | omega) (by first | assumption | omega)) (cw_X10_116 hts) ⟨(Nat.le_of_ble_eq_true rfl), (Nat.le_of_ble_eq_true rfl)⟩ ⟨Nat.zero_le _, Nat.zero_le _⟩ rfl (sub_P hP [0, 1, 2, 3, 4, 5, 6, 7, 8, 9, 10, 11, 12, 13, 14] rfl) rfl rfl rfl rfl (Nat.le_of_ble_eq_true rfl) dX10_seen_2 ?_
  refine lv_if_ne (tgt := 10) hx hb dX10_seen_5 (by decide) (fun c5 => ?_) (fun c5 => ?_)
  · have c5 := zb_n0.mp c5
    refine lv_aload_n hx hb dX10_seen_10 rfl (lv_at hl 0 rfl) ?_
    refine va_get hx hb hts inlX10 hown hE.1 hP 0 rfl rfl 18 (by decide) (fl_X10_103 hts) (fun _ h9 => h9) rfl dX10_seen_11 ?_
    refine lv_bipush (v := 12) hx hb dX10_seen_14 (by decide) ?_
    refine lv_icmp_ne (tgt := 22) hx hb dX10_seen_16 (by decide) (fun c16 => ?_) (fun c16 => ?_)
    · have c16 : ¬ sm = 12 := fun z => c16 (by rw [z]; rfl)
      refine lv_aload_n hx hb dX10_seen_22 rfl (lv_at hl 0 rfl) ?_
      refine va_get hx hb hts inlX10 hown hE.1 hP 0 rfl rfl 17 (by decide) (fl_X10_44 hts) (fun _ h9 => h9) rfl dX10_seen_23 ?_
      refine lv_aload_n hx hb dX10_seen_26 rfl (lv_at hl 0 rfl) ?_
      refine va_get hx hb hts inlX10 hown hE.1 hP 0 rfl rfl 18 (by decide) (fl_X10_103 hts) (fun _ h9 => h9) rfl dX10_seen_27 ?_
      refine lv_iload_n hx hb dX10_seen_30 rfl (lv_at hl 1 rfl) ?_
      refine va_iast hx hb hE.1 hP hD hS 12 0 rfl rfl (vp_in_nI (by omega) (by omega)) dX10_seen_31 (fun H locs hP hD hS => ?_)
      rw [nI_clamp (show sm < 2 ^ 31 by omega)] at hP hD
      have hP : va_P G.1 vwCl [(q0, .inr (10, [.ref q1, .int (nI ty), .ref q2, .ref q3, .ref q4, .ref q5, .ref q6, .ref q7, .ref q8, .int (nI dm), .int (nI at_), .int (zb so), .ref q9, .int (nI de), .int (nI ke), .ref q10, .ref q11, .ref q12, .int (nI sm), .ref q13, .ref q14])), (q1, .inl (kB G, 200, .inl tx)), (q2, .inl (kI G, 2, .inl ro)), (q3, .inl (kI G, 2, .inl co)), (q4, .inl (kI G, 2, .inl mp)), (q5, .inl (kI G, 10, .inl my)), (q6, .inl (kI G, 10, .inl md)), (q7, .inl (kI G, 10, .inl mr)), (q8, .inl (kI G, 40, .inl dr)), (q9, .inl (kI G, 504, .inl nw)), (q10, .inl (kI G, 64, .inl tk)), (q11, .inl (kI G, 64, .inl cs)), (q12, .inl (kI G, 12, .inl (upd sa sm x))), (q13, .inl (kI G, 8, .inl go)), (q14, .inl (kI G, 2048, .inl to))] H := hP
      have hD : va_D A [(q0, .inr (10, [.ref q1, .int (nI ty), .ref q2, .ref q3, .ref q4, .ref q5, .ref q6, .ref q7, .ref q8, .int (nI dm), .int (nI at_), .int (zb so), .ref q9, .int (nI de), .int (nI ke), .ref q10, .ref q11, .ref q12, .int (nI sm), .ref q13, .ref q14])), (q1, .inl (kB G, 200, .inl tx)), (q2, .inl (kI G, 2, .inl ro)), (q3, .inl (kI G, 2, .inl co)), (q4, .inl (kI G, 2, .inl mp)), (q5, .inl (kI G, 10, .inl my)), (q6, .inl (kI G, 10, .inl md)), (q7, .inl (kI G, 10, .inl mr)), (q8, .inl (kI G, 40, .inl dr)), (q9, .inl (kI G, 504, .inl nw)), (q10, .inl (kI G, 64, .inl tk)), (q11, .inl (kI G, 64, .inl cs)), (q12, .inl (kI G, 12, .inl (upd sa sm x))), (q13, .inl (kI G, 8, .inl go)), (q14, .inl (kI G, 2048, .inl to))] := hD
      refine lv_aload_n hx hb dX10_seen_32 rfl (lv_at hl 0 rfl) ?_
      refine lv_dup hx hb dX10_seen_33 rfl ?_
      refine va_get hx hb hts inlX10 hown hE.1 hP 0 rfl rfl 18 (by decide) (fl_X10_103 hts) (fun _ h9 => h9) rfl dX10_seen_34 ?_
      refine lv_iconst (v := 1) hx hb dX10_seen_37 (by decide) ?_
      refine lv_iadd hx hb dX10_seen_38 ?_
      rw [show (nI sm) + (1 : Int32) = nI (sm + 1) from nI_add sm 1]
      refine va_put (v := .int (nI (sm + 1))) (ty := .int) hx hb hts inlX10 tyX10 tyX10_ok nmX10 hown hE.1 hP hD hS 0 rfl rfl 18 (by decide) (fl_X10_103 hts) (fun _ h9 => h9) rfl (by decide +kernel) rfl rfl (Nat.le_of_ble_eq_true rfl) dX10_seen_39 (fun H locs hP hD hS => ?_)
      have hP : va_P G.1 vwCl [(q0, .inr (10, [.ref q1, .int (nI ty), .ref q2, .ref q3, .ref q4, .ref q5, .ref q6, .ref q7, .ref q8, .int (nI dm), .int (nI at_), .int (zb so), .ref q9, .int (nI de), .int (nI ke), .ref q10, .ref q11, .ref q12, .int (nI (sm + 1)), .ref q13, .ref q14])), (q1, .inl (kB G, 200, .inl tx)), (q2, .inl (kI G, 2, .inl ro)), (q3, .inl (kI G, 2, .inl co)), (q4, .inl (kI G, 2, .inl mp)), (q5, .inl (kI G, 10, .inl my)), (q6, .inl (kI G, 10, .inl md)), (q7, .inl (kI G, 10, .inl mr)), (q8, .inl (kI G, 40, .inl dr)), (q9, .inl (kI G, 504, .inl nw)), (q10, .inl (kI G, 64, .inl tk)), (q11, .inl (kI G, 64, .inl cs)), (q12, .inl (kI G, 12, .inl (upd sa sm x))), (q13, .inl (kI G, 8, .inl go)), (q14, .inl (kI G, 2048, .inl to))] H := hP
      have hD : va_D A [(q0, .inr (10, [.ref q1, .int (nI ty), .ref q2, .ref q3, .ref q4, .ref q5, .ref q6, .ref q7, .ref q8, .int (nI dm), .int (nI at_), .int (zb so), .ref q9, .int (nI de), .int (nI ke), .ref q10, .ref q11, .ref q12, .int (nI (sm + 1)), .ref q13, .ref q14])), (q1, .inl (kB G, 200, .inl tx)), (q2, .inl (kI G, 2, .inl ro)), (q3, .inl (kI G, 2, .inl co)), (q4, .inl (kI G, 2, .inl mp)), (q5, .inl (kI G, 10, .inl my)), (q6, .inl (kI G, 10, .inl md)), (q7, .inl (kI G, 10, .inl mr)), (q8, .inl (kI G, 40, .inl dr)), (q9, .inl (kI G, 504, .inl nw)), (q10, .inl (kI G, 64, .inl tk)), (q11, .inl (kI G, 64, .inl cs)), (q12, .inl (kI G, 12, .inl (upd sa sm x))), (q13, .inl (kI G, 8, .inl go)), (q14, .inl (kI G, 2048, .inl to))] := hD
      refine lv_aload_n hx hb dX10_seen_42 rfl (lv_at hl 0 rfl) ?_
      refine va_get hx hb hts inlX10 hown hE.1 hP 0 rfl rfl 18 (by decide) (fl_X10_103 hts) (fun _ h9 => h9) rfl dX10_seen_43 ?_
      exact ct_iret hx hb hr hlk dX10_seen_46 hP hD hS (by simp [one, c5, c16])
    · have c16 : sm = 12 := (nI_eq (a := sm) (b := 12) (by omega) (by decide)).mp c16
      refine lv_bipush (v := -3) hx hb dX10_seen_19 (by decide) ?_
      exact ct_iret hx hb hr hlk dX10_seen_21 hP hD hS (by simp [one, c5, c16])
  · have c5 := zb_0.mp c5
    refine lv_iconst (v := -1) hx hb dX10_seen_8 (by decide) ?_
    exact ct_iret hx hb hr hlk dX10_seen_9 hP hD hS (by simp [one, c5])

set_option maxHeartbeats 4000000 in
set_option maxRecDepth 100000 in
theorem c_X10_forget (l : Launch) (G : Gv) (q0 : Nat) (q1 : Nat) (q2 : Nat) (q3 : Nat) (q4 : Nat) (q5 : Nat) (q6 : Nat) (q7 : Nat) (q8 : Nat) (q9 : Nat) (q10 : Nat) (q11 : Nat) (q12 : Nat) (q13 : Nat) (q14 : Nat) (tx : Nat → Int32) (ro : Nat → Int32) (co : Nat → Int32) (mp : Nat → Int32) (my : Nat → Int32) (md : Nat → Int32) (mr : Nat → Int32) (dr : Nat → Int32) (nw : Nat → Int32) (tk : Nat → Int32) (cs : Nat → Int32) (sa : Nat → Int32) (go : Nat → Int32) (to : Nat → Int32) (ty : Nat) (dm : Nat) (at_ : Nat) (so : Bool) (de : Nat) (ke : Nat) (sm : Nat)  : Ct l yX10_forget cX10_forget 2 (some .int) (rmz 0 0) G [.ref q0] [(q0, .inr (10, [.ref q1, .int (nI ty), .ref q2, .ref q3, .ref q4, .ref q5, .ref q6, .ref q7, .ref q8, .int (nI dm), .int (nI at_), .int (zb so), .ref q9, .int (nI de), .int (nI ke), .ref q10, .ref q11, .ref q12, .int (nI sm), .ref q13, .ref q14])), (q1, .inl (kB G, 200, .inl tx)), (q2, .inl (kI G, 2, .inl ro)), (q3, .inl (kI G, 2, .inl co)), (q4, .inl (kI G, 2, .inl mp)), (q5, .inl (kI G, 10, .inl my)), (q6, .inl (kI G, 10, .inl md)), (q7, .inl (kI G, 10, .inl mr)), (q8, .inl (kI G, 40, .inl dr)), (q9, .inl (kI G, 504, .inl nw)), (q10, .inl (kI G, 64, .inl tk)), (q11, .inl (kI G, 64, .inl cs)), (q12, .inl (kI G, 12, .inl sa)), (q13, .inl (kI G, 8, .inl go)), (q14, .inl (kI G, 2048, .inl to))] (one (some (.int (nI sm))) [(q0, .inr (10, [.ref q1, .int (nI ty), .ref q2, .ref q3, .ref q4, .ref q5, .ref q6, .ref q7, .ref q8, .int (nI dm), .int (nI at_), .int (zb so), .ref q9, .int (nI de), .int (nI ke), .ref q10, .ref q11, .ref q12, .int 0, .ref q13, .ref q14])), (q1, .inl (kB G, 200, .inl tx)), (q2, .inl (kI G, 2, .inl ro)), (q3, .inl (kI G, 2, .inl co)), (q4, .inl (kI G, 2, .inl mp)), (q5, .inl (kI G, 10, .inl my)), (q6, .inl (kI G, 10, .inl md)), (q7, .inl (kI G, 10, .inl mr)), (q8, .inl (kI G, 40, .inl dr)), (q9, .inl (kI G, 504, .inl nw)), (q10, .inl (kI G, 64, .inl tk)), (q11, .inl (kI G, 64, .inl cs)), (q12, .inl (kI G, 12, .inl sa)), (q13, .inl (kI G, 8, .inl go)), (q14, .inl (kI G, 2048, .inl to))]) := by
  refine Ct.ofW (by decide) (Nat.le_of_ble_eq_true rfl) ?_
  intro p e s m below meth c ls A hx hb hml hr hown hts hlk hnm hP hD hA hE hS hl
  obtain ⟨H, eH⟩ : ∃ H : Heap, H = s.heap := ⟨_, rfl⟩
  obtain ⟨locs, eL⟩ : ∃ ll : List Loc, ll = [] := ⟨_, rfl⟩
  rw [← eH] at hP
  have hS : va_S A s.heap H locs := by rw [eH, eL]; exact hS
  show WC p l e _ s m _ below meth c G A _ s.heap [] 0 0 _
  rw [← eH, ← eL]
  clear eH eL
  have hl : lv_has ls 2 [(0, .ref q0)] := hl
  refine lv_aload_n hx hb dX10_forget_0 rfl (lv_at hl 0 rfl) ?_
  refine va_get hx hb hts inlX10 hown hE.1 hP 0 rfl rfl 18 (by decide) (fl_X10_103 hts) (fun _ h9 => h9) rfl dX10_forget_1 ?_
  refine lv_istore_n (lv' := [(1, .int (nI sm)), (0, .ref q0)]) hx hb dX10_forget_4 rfl hl (by decide) rfl (fun ls hl => ?_)
  refine lv_aload_n hx hb dX10_forget_5 rfl (lv_at hl 1 rfl) ?_
  refine lv_iconst (v := 0) hx hb dX10_forget_6 (by decide) ?_
  refine va_put (v := .int 0) (ty := .int) hx hb hts inlX10 tyX10 tyX10_ok nmX10 hown hE.1 hP hD hS 0 rfl rfl 18 (by decide) (fl_X10_103 hts) (fun _ h9 => h9) rfl (by decide +kernel) rfl rfl (Nat.le_of_ble_eq_true rfl) dX10_forget_7 (fun H locs hP hD hS => ?_)
  have hP : va_P G.1 vwCl [(q0, .inr (10, [.ref q1, .int (nI ty), .ref q2, .ref q3, .ref q4, .ref q5, .ref q6, .ref q7, .ref q8, .int (nI dm), .int (nI at_), .int (zb so), .ref q9, .int (nI de), .int (nI ke), .ref q10, .ref q11, .ref q12, .int 0, .ref q13, .ref q14])), (q1, .inl (kB G, 200, .inl tx)), (q2, .inl (kI G, 2, .inl ro)), (q3, .inl (kI G, 2, .inl co)), (q4, .inl (kI G, 2, .inl mp)), (q5, .inl (kI G, 10, .inl my)), (q6, .inl (kI G, 10, .inl md)), (q7, .inl (kI G, 10, .inl mr)), (q8, .inl (kI G, 40, .inl dr)), (q9, .inl (kI G, 504, .inl nw)), (q10, .inl (kI G, 64, .inl tk)), (q11, .inl (kI G, 64, .inl cs)), (q12, .inl (kI G, 12, .inl sa)), (q13, .inl (kI G, 8, .inl go)), (q14, .inl (kI G, 2048, .inl to))] H := hP
  have hD : va_D A [(q0, .inr (10, [.ref q1, .int (nI ty), .ref q2, .ref q3, .ref q4, .ref q5, .ref q6, .ref q7, .ref q8, .int (nI dm), .int (nI at_), .int (zb so), .ref q9, .int (nI de), .int (nI ke), .ref q10, .ref q11, .ref q12, .int 0, .ref q13, .ref q14])), (q1, .inl (kB G, 200, .inl tx)), (q2, .inl (kI G, 2, .inl ro)), (q3, .inl (kI G, 2, .inl co)), (q4, .inl (kI G, 2, .inl mp)), (q5, .inl (kI G, 10, .inl my)), (q6, .inl (kI G, 10, .inl md)), (q7, .inl (kI G, 10, .inl mr)), (q8, .inl (kI G, 40, .inl dr)), (q9, .inl (kI G, 504, .inl nw)), (q10, .inl (kI G, 64, .inl tk)), (q11, .inl (kI G, 64, .inl cs)), (q12, .inl (kI G, 12, .inl sa)), (q13, .inl (kI G, 8, .inl go)), (q14, .inl (kI G, 2048, .inl to))] := hD
  refine lv_iload_n hx hb dX10_forget_10 rfl (lv_at hl 0 rfl) ?_
  exact ct_iret hx hb hr hlk dX10_forget_11 hP hD hS (by first | exact ⟨rfl, rfl⟩ | (simp [one]; done))

set_option maxHeartbeats 4000000 in
set_option maxRecDepth 100000 in
theorem c_X10_found_y (l : Launch) (G : Gv) (q0 : Nat) (q1 : Nat) (q2 : Nat) (q3 : Nat) (q4 : Nat) (q5 : Nat) (q6 : Nat) (q7 : Nat) (q8 : Nat) (q9 : Nat) (q10 : Nat) (q11 : Nat) (q12 : Nat) (q13 : Nat) (q14 : Nat) (tx : Nat → Int32) (ro : Nat → Int32) (co : Nat → Int32) (mp : Nat → Int32) (my : Nat → Int32) (md : Nat → Int32) (mr : Nat → Int32) (dr : Nat → Int32) (nw : Nat → Int32) (tk : Nat → Int32) (cs : Nat → Int32) (sa : Nat → Int32) (go : Nat → Int32) (to : Nat → Int32) (ty : Nat) (dm : Nat) (at_ : Nat) (so : Bool) (de : Nat) (ke : Nat) (sm : Nat) (nr : Nat) (nc : Nat) (n : Nat) (q : Nat) (yv : Nat) (w : Int32) (hro : ro 0 = nI nr) (hco : co 0 = nI nc) (hg1 : 2 ≤ nr ∧ nr ≤ 8) (hg2 : 2 ≤ nc ∧ nc ≤ 8) (hn1 : nw 1 = nI n) (hn : n ≤ 10) (hmp : mp 0 = nI q) (hq : q ≤ 5) (hw : inn w 0 1 = true) (hsm : sm ≤ 12) (hy0 : nw 0 = nI yv) (hyv : yv ≤ 98) : Rd l yX10_found cX10_found 7 (some .int) (rmz 2 52) G [.ref q0, .int w] [(q0, .inr (10, [.ref q1, .int (nI ty), .ref q2, .ref q3, .ref q4, .ref q5, .ref q6, .ref q7, .ref q8, .int (nI dm), .int (nI at_), .int (zb so), .ref q9, .int (nI de), .int (nI ke), .ref q10, .ref q11, .ref q12, .int (nI sm), .ref q13, .ref q14])), (q1, .inl (kB G, 200, .inl tx)), (q2, .inl (kI G, 2, .inl ro)), (q3, .inl (kI G, 2, .inl co)), (q4, .inl (kI G, 2, .inl mp)), (q5, .inl (kI G, 10, .inl my)), (q6, .inl (kI G, 10, .inl md)), (q7, .inl (kI G, 10, .inl mr)), (q8, .inl (kI G, 40, .inl dr)), (q9, .inl (kI G, 504, .inl nw)), (q10, .inl (kI G, 64, .inl tk)), (q11, .inl (kI G, 64, .inl cs)), (q12, .inl (kI G, 12, .inl sa)), (q13, .inl (kI G, 8, .inl go)), (q14, .inl (kI G, 2048, .inl to))] (.int (if w = 0 then (fdM nr nc nw n (snM sa sm) (25 * yv + 25)).1 else (fdM nr nc nw n (snM sa sm) (25 * yv + 25)).2)) := by
  refine Rd.ofW (by decide) (Nat.le_of_ble_eq_true rfl) ?_
  intro p e s m below meth c ls hx hb hml hr hown hts hlk hP hE hl
  have hl : lv_has ls 7 [(0, .ref q0), (1, .int w)] := hl
  have J_53 : ∀ (n_ : Nat) (k : Nat) (hi : Int32) (fi : Int32) (hk : k ≤ 25 * yv + 25) (hF : (hi, fi) = fdM nr nc nw n (snM sa sm) k) (hm_53 : 25 * yv + 25 - k < n_), ∀ ls : Array Slot, lv_has ls 7 [(0, .ref q0), (1, .int w), (2, .long (snM sa sm)), (4, .int hi), (5, .int fi), (6, .int (nI k))] → WR p l e (rmz 2 52) s m [.ref q0, .int w] below meth c (.int (if w = 0 then (fdM nr nc nw n (snM sa sm) (25 * yv + 25)).1 else (fdM nr nc nw n (snM sa sm) (25 * yv + 25)).2)) (F0 m 53 ls []) := by
    intro n_
    induction n_ with
    | zero =>
      intro k hi fi hk hF hm_53
      exact absurd hm_53 (Nat.not_lt_zero _)
    | succ n_ ih_53 =>
      intro k hi fi hk hF hm_53 ls hl
      refine lv_iload hx hb dX10_found_53 (lv_at hl 5 rfl) ?_
      refine lv_bipush (v := 25) hx hb dX10_found_55 (by decide) ?_
      refine lv_aload_n hx hb dX10_found_57 rfl (lv_at hl 0 rfl) ?_
      refine va_get hx hb hts inlX10 hown hE.1 hP 0 rfl rfl 12 (by decide) (fl_X10_35 hts) (fun _ h9 => h9) rfl dX10_found_58 ?_
      refine lv_iconst (v := 0) hx hb dX10_found_61 (by decide) ?_
      refine va_iald hx hb hE.1 hP 9 0 rfl rfl (inB_iff.mp (by decide)) dX10_found_62 ?_
      rw [show (0 : Int32).toNatClampNeg = 0 from rfl]
      rw [hy0]
      refine lv_imul hx hb dX10_found_63 ?_
      rw [show (25 : Int32) * (nI yv) = nI (25 * yv) from pk_mul 25 yv]
      refine lv_bipush (v := 25) hx hb dX10_found_64 (by decide) ?_
      refine lv_iadd hx hb dX10_found_66 ?_
      rw [show (nI (25 * yv)) + (25 : Int32) = nI (25 * yv + 25) from nI_add (25 * yv) 25]
      refine lv_icmp_ge (tgt := 122) hx hb dX10_found_67 (by decide) (fun c67 => ?_) (fun c67 => ?_)
      · have hkn : 25 * yv + 25 ≤ k := le_of_le (by omega) (by omega) c67
        refine lv_iload_n hx hb dX10_found_122 rfl (lv_at hl 1 rfl) ?_
        refine lv_if_ne (tgt := 131) hx hb dX10_found_123 (by decide) (fun c123 => ?_) (fun c123 => ?_)
        · refine lv_iload hx hb dX10_found_131 (lv_at hl 4 rfl) ?_
          exact rd_iret hx hb hr hlk dX10_found_133 (by rw [show k = 25 * yv + 25 by omega] at hF; first | rw [if_pos c123, ← hF] | rw [if_neg c123, ← hF])
        · refine lv_iload hx hb dX10_found_126 (lv_at hl 3 rfl) ?_
          refine lv_goto (tgt := 133) hx hb dX10_found_128 (by decide) ?_
          exact rd_iret hx hb hr hlk dX10_found_133 (by rw [show k = 25 * yv + 25 by omega] at hF; first | rw [if_pos c123, ← hF] | rw [if_neg c123, ← hF])
      · have hkn : k < 25 * yv + 25 := lt_of_nle (by omega) (by omega) c67
        refine lv_aload_n hx hb dX10_found_70 rfl (lv_at hl 0 rfl) ?_
        refine lv_aload_n hx hb dX10_found_71 rfl (lv_at hl 0 rfl) ?_
        refine lv_iconst (v := 0) hx hb dX10_found_72 (by decide) ?_
        refine lv_iload hx hb dX10_found_73 (lv_at hl 5 rfl) ?_
        refine lv_bipush (v := 25) hx hb dX10_found_75 (by decide) ?_
        refine lv_idiv hx hb dX10_found_77 (by decide) ?_
        refine rd_callV (As := [.int 0, .int ((nI k) / 25)]) (rest := [.ref q0]) hx hb hml hown hts hE hl.1 (c_X10_trueTo l G q0 q1 q2 q3 q4 q5 q6 q7 q8 q9 q10 q11 q12 q13 q14 tx ro co mp my md mr dr nw tk cs sa go to ty dm at_ so de ke sm 0 n nr nc ((nI k) / 25) (by decide) (by first | assumption | omega) (by first | assumption | omega) (by first | assumption | omega) (by first | assumption | omega) (by first | assumption | omega) (by first | assumption | omega)) (cw_X10_126 hts) ⟨(Nat.le_of_ble_eq_true rfl), (Nat.le_of_ble_eq_true rfl)⟩ ⟨Nat.zero_le _, Nat.zero_le _⟩ rfl (sub_P hP [0, 1, 2, 3, 4, 5, 6, 7, 8, 9, 10, 11, 12, 13, 14] rfl) rfl rfl rfl rfl (Nat.le_of_ble_eq_true rfl) dX10_found_78 ?_
        refine lv_iload hx hb dX10_found_81 (lv_at hl 5 rfl) ?_
        refine lv_iconst (v := 5) hx hb dX10_found_83 (by decide) ?_
        refine lv_idiv hx hb dX10_found_84 (by decide) ?_
        refine lv_iconst (v := 5) hx hb dX10_found_85 (by decide) ?_
        refine lv_irem hx hb dX10_found_86 (by decide) ?_
        refine lv_iload hx hb dX10_found_87 (lv_at hl 5 rfl) ?_
        refine lv_iconst (v := 5) hx hb dX10_found_89 (by decide) ?_
        refine lv_irem hx hb dX10_found_90 (by decide) ?_
        refine rd_callV (As := [.long (drM nc (cel nw 0) (fal nw 0) (kin nw 0) ((nI k) / 25) n), .int (((nI k) / 5) - ((nI k) / 5) / 5 * 5), .int ((nI k) - (nI k) / 5 * 5)]) (rest := []) hx hb hml hown hts hE hl.1 (c_X10_byHand l G q0 q1 q2 q3 q4 q5 q6 q7 q8 q9 q10 q11 q12 q13 q14 tx ro co mp my md mr dr nw tk cs sa go to ty dm at_ so de ke sm nr nc (drM nc (cel nw 0) (fal nw 0) (kin nw 0) ((nI k) / 25) n) (((nI k) / 5) - ((nI k) / 5) / 5 * 5) ((nI k) - (nI k) / 5 * 5) (by first | assumption | omega) (by first | assumption | omega) (by first | assumption | omega) (by first | assumption | omega)) (cw_X10_129 hts) ⟨(Nat.le_of_ble_eq_true rfl), (Nat.le_of_ble_eq_true rfl)⟩ ⟨Nat.zero_le _, Nat.zero_le _⟩ rfl (sub_P hP [0, 1, 2, 3, 4, 5, 6, 7, 8, 9, 10, 11, 12, 13, 14] rfl) rfl rfl rfl rfl (Nat.le_of_ble_eq_true rfl) dX10_found_91 ?_
        refine lv_lload_n hx hb dX10_found_94 rfl (lv_at hl 2 rfl) ?_
        refine W.lcmp hx hb dX10_found_95 ?_
        refine lv_if_ne (tgt := 116) hx hb dX10_found_96 (by decide) (fun c96 => ?_) (fun c96 => ?_)
        · have c96 := lgc_ne.mp c96
          have h96 : ¬ fcM nr nc nw n k = snM sa sm := c96
          refine lv_iinc (v := nI (k + 1)) (lv' := [(6, .int (nI (k + 1))), (0, .ref q0), (1, .int w), (2, .long (snM sa sm)), (4, .int hi), (5, .int fi)]) hx hb dX10_found_116 hl (k := 5) rfl (nI_1 k) (by decide) rfl (fun ls hl => ?_)
          refine lv_goto (tgt := 53) hx hb dX10_found_119 (by decide) ?_
          have hF0 := hF
          rw [fdM] at hF0
          exact ih_53 (k + 1) hi fi (by first | assumption | omega | rfl) (by rw [fdM, it_s]; simp only [← hF0]; simp [h96, c67, c96]) (by omega) ls (lv_sub hl [1, 2, 3, 4, 5, 0] rfl)
        · have c96 := lgc_eq.mp c96
          have h96 : fcM nr nc nw n k = snM sa sm := c96
          refine lv_iload hx hb dX10_found_99 (lv_at hl 3 rfl) ?_
          refine lv_if_ne (tgt := 109) hx hb dX10_found_101 (by decide) (fun c101 => ?_) (fun c101 => ?_)
          · refine lv_iload hx hb dX10_found_109 (lv_at hl 4 rfl) ?_
            refine lv_istore (lv' := [(5, .int fi), (0, .ref q0), (1, .int w), (2, .long (snM sa sm)), (4, .int hi), (6, .int (nI k))]) hx hb dX10_found_111 hl (by decide) rfl (fun ls hl => ?_)
            refine lv_iinc (v := hi + 1) (lv' := [(4, .int (hi + 1)), (5, .int fi), (0, .ref q0), (1, .int w), (2, .long (snM sa sm)), (6, .int (nI k))]) hx hb dX10_found_113 hl (k := 4) rfl rfl (by decide) rfl (fun ls hl => ?_)
            refine lv_iinc (v := nI (k + 1)) (lv' := [(6, .int (nI (k + 1))), (4, .int (hi + 1)), (5, .int fi), (0, .ref q0), (1, .int w), (2, .long (snM sa sm))]) hx hb dX10_found_116 hl (k := 5) rfl (nI_1 k) (by decide) rfl (fun ls hl => ?_)
            refine lv_goto (tgt := 53) hx hb dX10_found_119 (by decide) ?_
            have hF0 := hF
            rw [fdM] at hF0
            exact ih_53 (k + 1) (hi + 1) fi (by first | assumption | omega | rfl) (by rw [fdM, it_s]; simp only [← hF0]; simp [h96, c67, c96, c101]) (by omega) ls (lv_sub hl [3, 4, 5, 1, 2, 0] rfl)
          · refine lv_iload hx hb dX10_found_104 (lv_at hl 5 rfl) ?_
            refine lv_goto (tgt := 111) hx hb dX10_found_106 (by decide) ?_
            refine lv_istore (lv' := [(5, .int (nI k)), (0, .ref q0), (1, .int w), (2, .long (snM sa sm)), (4, .int hi), (6, .int (nI k))]) hx hb dX10_found_111 hl (by decide) rfl (fun ls hl => ?_)
            refine lv_iinc (v := hi + 1) (lv' := [(4, .int (hi + 1)), (5, .int (nI k)), (0, .ref q0), (1, .int w), (2, .long (snM sa sm)), (6, .int (nI k))]) hx hb dX10_found_113 hl (k := 4) rfl rfl (by decide) rfl (fun ls hl => ?_)
            refine lv_iinc (v := nI (k + 1)) (lv' := [(6, .int (nI (k + 1))), (4, .int (hi + 1)), (5, .int (nI k)), (0, .ref q0), (1, .int w), (2, .long (snM sa sm))]) hx hb dX10_found_116 hl (k := 5) rfl (nI_1 k) (by decide) rfl (fun ls hl => ?_)
            refine lv_goto (tgt := 53) hx hb dX10_found_119 (by decide) ?_
            have hF0 := hF
            rw [fdM] at hF0
            exact ih_53 (k + 1) (hi + 1) (nI k) (by first | assumption | omega | rfl) (by rw [fdM, it_s]; simp only [← hF0]; simp [h96, c67, c96, c101]) (by omega) ls (lv_sub hl [3, 4, 5, 1, 2, 0] rfl)
  have J_16 : ∀ (n_ : Nat) (k : Nat) (acc : Int64) (hk : k ≤ sm) (ha : acc = snM sa k) (hm_16 : sm - k < n_), ∀ ls : Array Slot, lv_has ls 7 [(0, .ref q0), (1, .int w), (2, .long acc), (4, .int (nI k))] → WR p l e (rmz 2 52) s m [.ref q0, .int w] below meth c (.int (if w = 0 then (fdM nr nc nw n (snM sa sm) (25 * yv + 25)).1 else (fdM nr nc nw n (snM sa sm) (25 * yv + 25)).2)) (F0 m 16 ls []) := by
    intro n_
    induction n_ with
    | zero =>
      intro k acc hk ha hm_16
      exact absurd hm_16 (Nat.not_lt_zero _)
    | succ n_ ih_16 =>
      intro k acc hk ha hm_16 ls hl
      refine lv_iload hx hb dX10_found_16 (lv_at hl 3 rfl) ?_
      refine lv_aload_n hx hb dX10_found_18 rfl (lv_at hl 0 rfl) ?_
      refine va_get hx hb hts inlX10 hown hE.1 hP 0 rfl rfl 18 (by decide) (fl_X10_103 hts) (fun _ h9 => h9) rfl dX10_found_19 ?_
      refine lv_icmp_ge (tgt := 43) hx hb dX10_found_22 (by decide) (fun c22 => ?_) (fun c22 => ?_)
      · have hkn : sm ≤ k := le_of_le (by omega) (by omega) c22
        obtain rfl : acc = snM sa sm := by rw [ha, show k = sm by omega]
        refine lv_iconst (v := 0) hx hb dX10_found_43 (by decide) ?_
        refine lv_istore (lv' := [(4, .int 0), (0, .ref q0), (1, .int w), (2, .long (snM sa sm))]) hx hb dX10_found_44 hl (by decide) rfl (fun ls hl => ?_)
        refine lv_bipush (v := -4) hx hb dX10_found_46 (by decide) ?_
        refine lv_istore (lv' := [(5, .int (-4)), (4, .int 0), (0, .ref q0), (1, .int w), (2, .long (snM sa sm))]) hx hb dX10_found_48 hl (by decide) rfl (fun ls hl => ?_)
        refine lv_iconst (v := 0) hx hb dX10_found_50 (by decide) ?_
        refine lv_istore (lv' := [(6, .int 0), (5, .int (-4)), (4, .int 0), (0, .ref q0), (1, .int w), (2, .long (snM sa sm))]) hx hb dX10_found_51 hl (by decide) rfl (fun ls hl => ?_)
        exact J_53 (25 * yv + 25 - 0 + 1) 0 0 (-4) (by first | assumption | omega | rfl) rfl (Nat.lt_succ_self _) ls (lv_sub hl [3, 4, 5, 2, 1, 0] rfl)
      · have hkn : k < sm := lt_of_nle (by omega) (by omega) c22
        refine lv_lload_n hx hb dX10_found_25 rfl (lv_at hl 2 rfl) ?_
        refine lv_lconst (v := 1) hx hb dX10_found_26 (by decide) ?_
        refine lv_aload_n hx hb dX10_found_27 rfl (lv_at hl 0 rfl) ?_
        refine va_get hx hb hts inlX10 hown hE.1 hP 0 rfl rfl 17 (by decide) (fl_X10_44 hts) (fun _ h9 => h9) rfl dX10_found_28 ?_
        refine lv_iload hx hb dX10_found_31 (lv_at hl 3 rfl) ?_
        refine va_iald hx hb hE.1 hP 12 0 rfl rfl (vp_in_nI (by omega) (by omega)) dX10_found_33 ?_
        rw [nI_clamp (show k < 2 ^ 31 by omega)]
        refine lv_lshl hx hb dX10_found_34 rfl ?_
        refine lv_lor hx hb dX10_found_35 ?_
        refine lv_lstore_n (lv' := [(2, .long (acc ||| (1 <<< ((sa k).toInt64 &&& 63)))), (0, .ref q0), (1, .int w), (4, .int (nI k))]) hx hb dX10_found_36 rfl hl (by decide) rfl (fun ls hl => ?_)
        refine lv_iinc (v := nI (k + 1)) (lv' := [(4, .int (nI (k + 1))), (2, .long (acc ||| (1 <<< ((sa k).toInt64 &&& 63)))), (0, .ref q0), (1, .int w)]) hx hb dX10_found_37 hl (k := 3) rfl (nI_1 k) (by decide) rfl (fun ls hl => ?_)
        refine lv_goto (tgt := 16) hx hb dX10_found_40 (by decide) ?_
        have ha0 := ha
        rw [snM] at ha0
        exact ih_16 (k + 1) (acc ||| (1 <<< ((sa k).toInt64 &&& 63))) (by first | assumption | omega | rfl) (by rw [snM, it_s]; simp only [← ha0]; rfl) (by omega) ls (lv_sub hl [2, 3, 1, 0] rfl)
  refine lv_iload_n hx hb dX10_found_0 rfl (lv_at hl 1 rfl) ?_
  refine lv_iconst (v := 0) hx hb dX10_found_1 (by decide) ?_
  refine lv_iconst (v := 1) hx hb dX10_found_2 (by decide) ?_
  refine rd_callS (As := [.int w, .int 0, .int 1]) (rest := []) hx hb hml hown hts hE hl.1 (c_X10_in l G w 0 1 ) (cs_X10_61 hts) ⟨(Nat.le_of_ble_eq_true rfl), (Nat.le_of_ble_eq_true rfl)⟩ ⟨Nat.zero_le _, Nat.zero_le _⟩ rfl (sub_P hP [] rfl) rfl (Nat.le_of_ble_eq_true rfl) dX10_found_3 ?_
  refine lv_if_ne (tgt := 11) hx hb dX10_found_6 (by decide) (fun c6 => ?_) (fun c6 => ?_)
  · have c6 := zb_n0.mp c6
    refine lv_lconst (v := 0) hx hb dX10_found_11 (by decide) ?_
    refine lv_lstore_n (lv' := [(2, .long 0), (0, .ref q0), (1, .int w)]) hx hb dX10_found_12 rfl hl (by decide) rfl (fun ls hl => ?_)
    refine lv_iconst (v := 0) hx hb dX10_found_13 (by decide) ?_
    refine lv_istore (lv' := [(4, .int 0), (2, .long 0), (0, .ref q0), (1, .int w)]) hx hb dX10_found_14 hl (by decide) rfl (fun ls hl => ?_)
    exact J_16 (sm - 0 + 1) 0 0 (by first | assumption | omega | rfl) rfl (Nat.lt_succ_self _) ls (lv_sub hl [2, 3, 1, 0] rfl)
  · have c6 := zb_0.mp c6
    exact absurd (c6.symm.trans hw) (by decide)

set_option maxHeartbeats 4000000 in
set_option maxRecDepth 100000 in
theorem c_X10_found_n (l : Launch) (G : Gv) (q0 : Nat) (q1 : Nat) (q2 : Nat) (q3 : Nat) (q4 : Nat) (q5 : Nat) (q6 : Nat) (q7 : Nat) (q8 : Nat) (q9 : Nat) (q10 : Nat) (q11 : Nat) (q12 : Nat) (q13 : Nat) (q14 : Nat) (tx : Nat → Int32) (ro : Nat → Int32) (co : Nat → Int32) (mp : Nat → Int32) (my : Nat → Int32) (md : Nat → Int32) (mr : Nat → Int32) (dr : Nat → Int32) (nw : Nat → Int32) (tk : Nat → Int32) (cs : Nat → Int32) (sa : Nat → Int32) (go : Nat → Int32) (to : Nat → Int32) (ty : Nat) (dm : Nat) (at_ : Nat) (so : Bool) (de : Nat) (ke : Nat) (sm : Nat) (w : Int32) (hw : inn w 0 1 = false) : Rd l yX10_found cX10_found 7 (some .int) (rmz 1 22) G [.ref q0, .int w] [(q0, .inr (10, [.ref q1, .int (nI ty), .ref q2, .ref q3, .ref q4, .ref q5, .ref q6, .ref q7, .ref q8, .int (nI dm), .int (nI at_), .int (zb so), .ref q9, .int (nI de), .int (nI ke), .ref q10, .ref q11, .ref q12, .int (nI sm), .ref q13, .ref q14])), (q1, .inl (kB G, 200, .inl tx)), (q2, .inl (kI G, 2, .inl ro)), (q3, .inl (kI G, 2, .inl co)), (q4, .inl (kI G, 2, .inl mp)), (q5, .inl (kI G, 10, .inl my)), (q6, .inl (kI G, 10, .inl md)), (q7, .inl (kI G, 10, .inl mr)), (q8, .inl (kI G, 40, .inl dr)), (q9, .inl (kI G, 504, .inl nw)), (q10, .inl (kI G, 64, .inl tk)), (q11, .inl (kI G, 64, .inl cs)), (q12, .inl (kI G, 12, .inl sa)), (q13, .inl (kI G, 8, .inl go)), (q14, .inl (kI G, 2048, .inl to))] (.int (-1)) := by
  refine Rd.ofW (by decide) (Nat.le_of_ble_eq_true rfl) ?_
  intro p e s m below meth c ls hx hb hml hr hown hts hlk hP hE hl
  have hl : lv_has ls 7 [(0, .ref q0), (1, .int w)] := hl
  refine lv_iload_n hx hb dX10_found_0 rfl (lv_at hl 1 rfl) ?_
  refine lv_iconst (v := 0) hx hb dX10_found_1 (by decide) ?_
  refine lv_iconst (v := 1) hx hb dX10_found_2 (by decide) ?_
  refine rd_callS (As := [.int w, .int 0, .int 1]) (rest := []) hx hb hml hown hts hE hl.1 (c_X10_in l G w 0 1 ) (cs_X10_61 hts) ⟨(Nat.le_of_ble_eq_true rfl), (Nat.le_of_ble_eq_true rfl)⟩ ⟨Nat.zero_le _, Nat.zero_le _⟩ rfl (sub_P hP [] rfl) rfl (Nat.le_of_ble_eq_true rfl) dX10_found_3 ?_
  refine lv_if_ne (tgt := 11) hx hb dX10_found_6 (by decide) (fun c6 => ?_) (fun c6 => ?_)
  · have c6 := zb_n0.mp c6
    exact absurd (c6.symm.trans hw) (by decide)
  · have c6 := zb_0.mp c6
    refine lv_iconst (v := -1) hx hb dX10_found_9 (by decide) ?_
    exact rd_iret hx hb hr hlk dX10_found_10 (by first | rfl | (simp [zb, c6]; done))

set_option maxHeartbeats 4000000 in
set_option maxRecDepth 100000 in
theorem c_X10_count (l : Launch) (G : Gv) (q0 : Nat) (q1 : Nat) (q2 : Nat) (q3 : Nat) (q4 : Nat) (q5 : Nat) (q6 : Nat) (q7 : Nat) (q8 : Nat) (q9 : Nat) (q10 : Nat) (q11 : Nat) (q12 : Nat) (q13 : Nat) (q14 : Nat) (tx : Nat → Int32) (ro : Nat → Int32) (co : Nat → Int32) (mp : Nat → Int32) (my : Nat → Int32) (md : Nat → Int32) (mr : Nat → Int32) (dr : Nat → Int32) (nw : Nat → Int32) (tk : Nat → Int32) (cs : Nat → Int32) (sa : Nat → Int32) (go : Nat → Int32) (to : Nat → Int32) (ty : Nat) (dm : Nat) (at_ : Nat) (so : Bool) (de : Nat) (ke : Nat) (sm : Nat) (nr : Nat) (nc : Nat) (n : Nat) (q : Nat) (w : Int32) (hro : ro 0 = nI nr) (hco : co 0 = nI nc) (hg1 : 2 ≤ nr ∧ nr ≤ 8) (hg2 : 2 ≤ nc ∧ nc ≤ 8) (hn1 : nw 1 = nI n) (hn : n ≤ 10) (hmp : mp 0 = nI q) (hq : q ≤ 5) : Rd l yX10_count cX10_count 2 (some .int) (rmz 2 47) G [.ref q0, .int w] [(q0, .inr (10, [.ref q1, .int (nI ty), .ref q2, .ref q3, .ref q4, .ref q5, .ref q6, .ref q7, .ref q8, .int (nI dm), .int (nI at_), .int (zb so), .ref q9, .int (nI de), .int (nI ke), .ref q10, .ref q11, .ref q12, .int (nI sm), .ref q13, .ref q14])), (q1, .inl (kB G, 200, .inl tx)), (q2, .inl (kI G, 2, .inl ro)), (q3, .inl (kI G, 2, .inl co)), (q4, .inl (kI G, 2, .inl mp)), (q5, .inl (kI G, 10, .inl my)), (q6, .inl (kI G, 10, .inl md)), (q7, .inl (kI G, 10, .inl mr)), (q8, .inl (kI G, 40, .inl dr)), (q9, .inl (kI G, 504, .inl nw)), (q10, .inl (kI G, 64, .inl tk)), (q11, .inl (kI G, 64, .inl cs)), (q12, .inl (kI G, 12, .inl sa)), (q13, .inl (kI G, 8, .inl go)), (q14, .inl (kI G, 2048, .inl to))] (.int (ctM nr nc nw n q sm de ke ty w)) := by
  refine Rd.ofW (by decide) (Nat.le_of_ble_eq_true rfl) ?_
  intro p e s m below meth c ls hx hb hml hr hown hts hlk hP hE hl
  have hl : lv_has ls 2 [(0, .ref q0), (1, .int w)] := hl
  refine lv_iload_n hx hb dX10_count_0 rfl (lv_at hl 1 rfl) ?_
  by_cases e1_0 : w = 0
  · refine lv_tableIn (off := 55) (tgt := 56) hx hb dX10_count_1 (by rw [e1_0]; decide) (by rw [e1_0]; decide) (by rw [e1_0]; rfl) (by decide) ?_
    refine lv_aload_n hx hb dX10_count_56 rfl (lv_at hl 0 rfl) ?_
    refine lv_iconst (v := 0) hx hb dX10_count_57 (by decide) ?_
    refine rd_callV (As := [.int 0]) (rest := []) hx hb hml hown hts hE hl.1 (c_X10_cells l G q0 q1 q2 q3 q4 q5 q6 q7 q8 q9 q10 q11 q12 q13 q14 tx ro co mp my md mr dr nw tk cs sa go to ty dm at_ so de ke sm nr nc (by first | assumption | omega) (by first | assumption | omega) (by first | assumption | omega) (by first | assumption | omega)) (cw_X10_87 hts) ⟨(Nat.le_of_ble_eq_true rfl), (Nat.le_of_ble_eq_true rfl)⟩ ⟨Nat.zero_le _, Nat.zero_le _⟩ rfl (sub_P hP [0, 1, 2, 3, 4, 5, 6, 7, 8, 9, 10, 11, 12, 13, 14] rfl) rfl rfl rfl rfl (Nat.le_of_ble_eq_true rfl) dX10_count_58 ?_
    exact rd_iret hx hb hr hlk dX10_count_61 (by first | rfl | (simp [zb, e1_0, ctM]; done))
  by_cases e1_1 : w = 1
  · refine lv_tableIn (off := 61) (tgt := 62) hx hb dX10_count_1 (by rw [e1_1]; decide) (by rw [e1_1]; decide) (by rw [e1_1]; rfl) (by decide) ?_
    refine lv_aload_n hx hb dX10_count_62 rfl (lv_at hl 0 rfl) ?_
    refine va_get hx hb hts inlX10 hown hE.1 hP 0 rfl rfl 12 (by decide) (fl_X10_35 hts) (fun _ h9 => h9) rfl dX10_count_63 ?_
    refine lv_iconst (v := 1) hx hb dX10_count_66 (by decide) ?_
    refine va_iald hx hb hE.1 hP 9 0 rfl rfl (inB_iff.mp (by decide)) dX10_count_67 ?_
    rw [show (1 : Int32).toNatClampNeg = 1 from rfl]
    rw [hn1]
    exact rd_iret hx hb hr hlk dX10_count_68 (by first | rfl | (simp [zb, e1_0, e1_1, ctM]; done))
  by_cases e1_2 : w = 2
  · refine lv_tableIn (off := 68) (tgt := 69) hx hb dX10_count_1 (by rw [e1_2]; decide) (by rw [e1_2]; decide) (by rw [e1_2]; rfl) (by decide) ?_
    refine lv_aload_n hx hb dX10_count_69 rfl (lv_at hl 0 rfl) ?_
    refine va_get hx hb hts inlX10 hown hE.1 hP 0 rfl rfl 4 (by decide) (fl_X10_20 hts) (fun _ h9 => h9) rfl dX10_count_70 ?_
    refine lv_iconst (v := 0) hx hb dX10_count_73 (by decide) ?_
    refine va_iald hx hb hE.1 hP 4 0 rfl rfl (inB_iff.mp (by decide)) dX10_count_74 ?_
    rw [show (0 : Int32).toNatClampNeg = 0 from rfl]
    rw [hmp]
    exact rd_iret hx hb hr hlk dX10_count_75 (by first | rfl | (simp [zb, e1_0, e1_1, e1_2, ctM]; done))
  by_cases e1_3 : w = 3
  · refine lv_tableIn (off := 75) (tgt := 76) hx hb dX10_count_1 (by rw [e1_3]; decide) (by rw [e1_3]; decide) (by rw [e1_3]; rfl) (by decide) ?_
    refine lv_aload_n hx hb dX10_count_76 rfl (lv_at hl 0 rfl) ?_
    refine va_get hx hb hts inlX10 hown hE.1 hP 0 rfl rfl 12 (by decide) (fl_X10_35 hts) (fun _ h9 => h9) rfl dX10_count_77 ?_
    refine lv_iconst (v := 0) hx hb dX10_count_80 (by decide) ?_
    refine va_iald hx hb hE.1 hP 9 0 rfl rfl (inB_iff.mp (by decide)) dX10_count_81 ?_
    rw [show (0 : Int32).toNatClampNeg = 0 from rfl]
    exact rd_iret hx hb hr hlk dX10_count_82 (by first | rfl | (simp [zb, e1_0, e1_1, e1_2, e1_3, ctM]; done))
  by_cases e1_4 : w = 4
  · refine lv_tableIn (off := 82) (tgt := 83) hx hb dX10_count_1 (by rw [e1_4]; decide) (by rw [e1_4]; decide) (by rw [e1_4]; rfl) (by decide) ?_
    refine lv_aload_n hx hb dX10_count_83 rfl (lv_at hl 0 rfl) ?_
    refine lv_iconst (v := 0) hx hb dX10_count_84 (by decide) ?_
    refine lv_iconst (v := 1) hx hb dX10_count_85 (by decide) ?_
    refine rd_callV (As := [.int 0, .int 1]) (rest := []) hx hb hml hown hts hE hl.1 (c_X10_manyBy l G q0 q1 q2 q3 q4 q5 q6 q7 q8 q9 q10 q11 q12 q13 q14 tx ro co mp my md mr dr nw tk cs sa go to ty dm at_ so de ke sm 0 n true (by decide) (by first | assumption | omega) (by first | assumption | omega)) (cw_X10_196 hts) ⟨(Nat.le_of_ble_eq_true rfl), (Nat.le_of_ble_eq_true rfl)⟩ ⟨Nat.zero_le _, Nat.zero_le _⟩ rfl (sub_P hP [0, 1, 2, 3, 4, 5, 6, 7, 8, 9, 10, 11, 12, 13, 14] rfl) rfl rfl rfl rfl (Nat.le_of_ble_eq_true rfl) dX10_count_86 ?_
    exact rd_iret hx hb hr hlk dX10_count_89 (by first | rfl | (simp [zb, e1_0, e1_1, e1_2, e1_3, e1_4, ctM]; done))
  by_cases e1_5 : w = 5
  · refine lv_tableIn (off := 89) (tgt := 90) hx hb dX10_count_1 (by rw [e1_5]; decide) (by rw [e1_5]; decide) (by rw [e1_5]; rfl) (by decide) ?_
    refine lv_aload_n hx hb dX10_count_90 rfl (lv_at hl 0 rfl) ?_
    refine lv_iconst (v := 0) hx hb dX10_count_91 (by decide) ?_
    refine lv_iconst (v := 0) hx hb dX10_count_92 (by decide) ?_
    refine rd_callV (As := [.int 0, .int 0]) (rest := []) hx hb hml hown hts hE hl.1 (c_X10_manyBy l G q0 q1 q2 q3 q4 q5 q6 q7 q8 q9 q10 q11 q12 q13 q14 tx ro co mp my md mr dr nw tk cs sa go to ty dm at_ so de ke sm 0 n false (by decide) (by first | assumption | omega) (by first | assumption | omega)) (cw_X10_196 hts) ⟨(Nat.le_of_ble_eq_true rfl), (Nat.le_of_ble_eq_true rfl)⟩ ⟨Nat.zero_le _, Nat.zero_le _⟩ rfl (sub_P hP [0, 1, 2, 3, 4, 5, 6, 7, 8, 9, 10, 11, 12, 13, 14] rfl) rfl rfl rfl rfl (Nat.le_of_ble_eq_true rfl) dX10_count_93 ?_
    exact rd_iret hx hb hr hlk dX10_count_96 (by first | rfl | (simp [zb, e1_0, e1_1, e1_2, e1_3, e1_4, e1_5, ctM]; done))
  by_cases e1_6 : w = 6
  · refine lv_tableIn (off := 96) (tgt := 97) hx hb dX10_count_1 (by rw [e1_6]; decide) (by rw [e1_6]; decide) (by rw [e1_6]; rfl) (by decide) ?_
    refine lv_aload_n hx hb dX10_count_97 rfl (lv_at hl 0 rfl) ?_
    refine va_get hx hb hts inlX10 hown hE.1 hP 0 rfl rfl 18 (by decide) (fl_X10_103 hts) (fun _ h9 => h9) rfl dX10_count_98 ?_
    exact rd_iret hx hb hr hlk dX10_count_101 (by first | rfl | (simp [zb, e1_0, e1_1, e1_2, e1_3, e1_4, e1_5, e1_6, ctM]; done))
  by_cases e1_7 : w = 7
  · refine lv_tableIn (off := 101) (tgt := 102) hx hb dX10_count_1 (by rw [e1_7]; decide) (by rw [e1_7]; decide) (by rw [e1_7]; rfl) (by decide) ?_
    refine lv_aload_n hx hb dX10_count_102 rfl (lv_at hl 0 rfl) ?_
    refine va_get hx hb hts inlX10 hown hE.1 hP 0 rfl rfl 13 (by decide) (fl_X10_97 hts) (fun _ h9 => h9) rfl dX10_count_103 ?_
    exact rd_iret hx hb hr hlk dX10_count_106 (by first | rfl | (simp [zb, e1_0, e1_1, e1_2, e1_3, e1_4, e1_5, e1_6, e1_7, ctM]; done))
  by_cases e1_8 : w = 8
  · refine lv_tableIn (off := 106) (tgt := 107) hx hb dX10_count_1 (by rw [e1_8]; decide) (by rw [e1_8]; decide) (by rw [e1_8]; rfl) (by decide) ?_
    refine lv_aload_n hx hb dX10_count_107 rfl (lv_at hl 0 rfl) ?_
    refine va_get hx hb hts inlX10 hown hE.1 hP 0 rfl rfl 14 (by decide) (fl_X10_100 hts) (fun _ h9 => h9) rfl dX10_count_108 ?_
    exact rd_iret hx hb hr hlk dX10_count_111 (by first | rfl | (simp [zb, e1_0, e1_1, e1_2, e1_3, e1_4, e1_5, e1_6, e1_7, e1_8, ctM]; done))
  by_cases e1_9 : w = 9
  · refine lv_tableIn (off := 111) (tgt := 112) hx hb dX10_count_1 (by rw [e1_9]; decide) (by rw [e1_9]; decide) (by rw [e1_9]; rfl) (by decide) ?_
    refine lv_aload_n hx hb dX10_count_112 rfl (lv_at hl 0 rfl) ?_
    refine va_get hx hb hts inlX10 hown hE.1 hP 0 rfl rfl 1 (by decide) (fl_X10_65 hts) (fun _ h9 => h9) rfl dX10_count_113 ?_
    exact rd_iret hx hb hr hlk dX10_count_116 (by first | rfl | (simp [zb, e1_0, e1_1, e1_2, e1_3, e1_4, e1_5, e1_6, e1_7, e1_8, e1_9, ctM]; done))
  refine lv_tableOut (tgt := 117) hx hb dX10_count_1 (sw_out10 e1_0 e1_1 e1_2 e1_3 e1_4 e1_5 e1_6 e1_7 e1_8 e1_9) (by decide) ?_
  refine lv_iconst (v := -1) hx hb dX10_count_117 (by decide) ?_
  exact rd_iret hx hb hr hlk dX10_count_118 (by first | rfl | (simp [zb, e1_0, e1_1, e1_2, e1_3, e1_4, e1_5, e1_6, e1_7, e1_8, e1_9, ctM]; done))
