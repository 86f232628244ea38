/-! the reference: ways, friends -/
theorem p2_le10 {n : Nat} (h : n ≤ 10) : 2 ^ n ≤ 1024 := Nat.pow_le_pow_right (n := 2) (by decide) h
theorem all_p2 : ∀ n, n < 11 → (1 : Int32) <<< (nI n &&& 31) = nI (2 ^ n) := by decide +kernel
theorem cpM_s (nw : Nat → Int32) (a b n : Nat) : cpM nw a b (n + 1) = upd (cpM nw a b n) (b + n) (cpM nw a b n (a + n)) := by
  unfold cpM
  exact it_s _ _ _
theorem cpM_0 (nw : Nat → Int32) (a b : Nat) : cpM nw a b 0 = nw := by
  unfold cpM
  exact it_0 _ _
theorem cpM_out (nw : Nat → Int32) {a b n i : Nat} (h : i < b ∨ b + n ≤ i) : cpM nw a b n i = nw i := by
  induction n with
  | zero => rw [cpM_0]
  | succ n ih =>
    have e := ih (by omega)
    rw [cpM_s, pk_un (by omega), e]
theorem cpM_in (nw : Nat → Int32) {a b n i : Nat} (h : i < n) (hd : a + n ≤ b ∨ b + n ≤ a) : cpM nw a b n (b + i) = nw (a + i) := by
  induction n with
  | zero => omega
  | succ n ih =>
    by_cases e : i = n
    · subst e
      rw [cpM_s, pk_us, cpM_out nw (by omega)]
    · have e1 := ih (by omega) (by omega)
      rw [cpM_s, pk_un (by omega), e1]
def hbi (st t : Nat) : Bool := decide ((nI st >>> (nI t &&& 31)) &&& 1 = 1)
def tmS (st t : Nat) (s : (Nat → Int32) × Bool) : (Nat → Int32) × Bool := if s.2 then (if hbi st t then (upd s.1 (484 + t) (s.1 0), cbB (sta s.1 0) (fal s.1 0) (kin s.1 0) (s.1 0) t) else s) else s
def tmA (st : Nat) (s : (Nat → Int32) × Bool) (n : Nat) : (Nat → Int32) × Bool := it (tmS st) s n
theorem tmA_s (st : Nat) (s : (Nat → Int32) × Bool) (n : Nat) : tmA st s (n + 1) = tmS st n (tmA st s n) := by
  unfold tmA
  exact it_s _ _ _
theorem tmA_stay {st : Nat} {s : (Nat → Int32) × Bool} {k : Nat} (h : (tmA st s k).2 = false) : ∀ d : Nat, tmA st s (k + d) = tmA st s k := by
  intro d
  induction d with
  | zero => rfl
  | succ d ih =>
    rw [← Nat.add_assoc, tmA_s, ih, tmS, h]
    rfl
def may (st : Nat) (fw : Int32) : Bool := decide (fw = -4) || !decide (fw ≤ miM (nI st) 10)
def frT (st n : Nat) (s : (Nat → Int32) × Int32) : (Nat → Int32) × Bool := tmA st (cpM s.1 0 462 42, may st s.2) n
def frS (nr nc n av bv st : Nat) (s : (Nat → Int32) × Int32) : (Nat → Int32) × Int32 :=
  ((frT st n s).1, if (frT st n s).2 && !decide (stX nr nc (drM nc (cel (frT st n s).1 462) (fal (frT st n s).1 462) (kin (frT st n s).1 462) ((frT st n s).1 0) n) av bv = -4) then miM (nI st) 10 else s.2)
def frA (nr nc : Nat) (nw : Nat → Int32) (n av bv k : Nat) : (Nat → Int32) × Int32 := it (frS nr nc n av bv) (nw, -4) k
theorem frA_s (nr nc : Nat) (nw : Nat → Int32) (n av bv k : Nat) : frA nr nc nw n av bv (k + 1) = frS nr nc n av bv k (frA nr nc nw n av bv k) := by
  unfold frA
  exact it_s _ _ _

set_option maxHeartbeats 4000000 in
set_option maxRecDepth 100000 in
theorem c_X10_stepsIn (l : Launch) (G : Gv) (q0 : Nat) (q1 : Nat) (q2 : Nat) (q3 : Nat) (q4 : Nat) (q5 : Nat) (q6 : Nat) (q7 : Nat) (q8 : Nat) (q9 : Nat) (q10 : Nat) (q11 : Nat) (q12 : Nat) (q13 : Nat) (q14 : Nat) (tx : Nat → Int32) (ro : Nat → Int32) (co : Nat → Int32) (mp : Nat → Int32) (my : Nat → Int32) (md : Nat → Int32) (mr : Nat → Int32) (dr : Nat → Int32) (nw : Nat → Int32) (tk : Nat → Int32) (cs : Nat → Int32) (sa : Nat → Int32) (go : Nat → Int32) (to : Nat → Int32) (ty : Nat) (dm : Nat) (at_ : Nat) (so : Bool) (de : Nat) (ke : Nat) (sm : Nat) (nr : Nat) (nc : Nat) (v : Int64) (av : Nat) (bv : Nat) (hro : ro 0 = nI nr) (hco : co 0 = nI nc) (hg1 : 2 ≤ nr ∧ nr ≤ 8) (hg2 : 2 ≤ nc ∧ nc ≤ 8) (hav : av < nr * nc) (hbv : bv < nr * nc) : Ct l yX10_stepsIn cX10_stepsIn 6 (some .int) (rmz 3 71) G [.ref q0, .long v, .int (nI av), .int (nI bv)] [(q0, .inr (10, [.ref q1, .int (nI ty), .ref q2, .ref q3, .ref q4, .ref q5, .ref q6, .ref q7, .ref q8, .int (nI dm), .int (nI at_), .int (zb so), .ref q9, .int (nI de), .int (nI ke), .ref q10, .ref q11, .ref q12, .int (nI sm), .ref q13, .ref q14])), (q1, .inl (kB G, 200, .inl tx)), (q2, .inl (kI G, 2, .inl ro)), (q3, .inl (kI G, 2, .inl co)), (q4, .inl (kI G, 2, .inl mp)), (q5, .inl (kI G, 10, .inl my)), (q6, .inl (kI G, 10, .inl md)), (q7, .inl (kI G, 10, .inl mr)), (q8, .inl (kI G, 40, .inl dr)), (q9, .inl (kI G, 504, .inl nw)), (q10, .inl (kI G, 64, .inl tk)), (q11, .inl (kI G, 64, .inl cs)), (q12, .inl (kI G, 12, .inl sa)), (q13, .inl (kI G, 8, .inl go)), (q14, .inl (kI G, 2048, .inl to))] (fun v9 w9 => v9 = (some (.int (stX nr nc v av bv))) ∧ ∃ (tk9 : Nat → Int32) (cs9 : Nat → Int32), w9 = [(q0, .inr (10, [.ref q1, .int (nI ty), .ref q2, .ref q3, .ref q4, .ref q5, .ref q6, .ref q7, .ref q8, .int (nI dm), .int (nI at_), .int (zb so), .ref q9, .int (nI de), .int (nI ke), .ref q10, .ref q11, .ref q12, .int (nI sm), .ref q13, .ref q14])), (q1, .inl (kB G, 200, .inl tx)), (q2, .inl (kI G, 2, .inl ro)), (q3, .inl (kI G, 2, .inl co)), (q4, .inl (kI G, 2, .inl mp)), (q5, .inl (kI G, 10, .inl my)), (q6, .inl (kI G, 10, .inl md)), (q7, .inl (kI G, 10, .inl mr)), (q8, .inl (kI G, 40, .inl dr)), (q9, .inl (kI G, 504, .inl nw)), (q10, .inl (kI G, 64, .inl tk9)), (q11, .inl (kI G, 64, .inl cs9)), (q12, .inl (kI G, 12, .inl sa)), (q13, .inl (kI G, 8, .inl go)), (q14, .inl (kI G, 2048, .inl to))]) := by
  refine Ct.ofW (by decide) (Nat.le_of_ble_eq_true rfl) ?_
  intro p e s m below meth c ls A hx hb hml hr hown hts hlk hnm hP hD hA hE hS hl
  obtain ⟨H, eH⟩ : ∃ H : Heap, H = s.heap := ⟨_, rfl⟩
  obtain ⟨locs, eL⟩ : ∃ ll : List Loc, ll = [] := ⟨_, rfl⟩
  rw [← eH] at hP
  have hS : va_S A s.heap H locs := by rw [eH, eL]; exact hS
  show WC p l e _ s m _ below meth c G A _ s.heap [] 0 0 _
  rw [← eH, ← eL]
  clear eH eL
  have hl : lv_has ls 6 [(0, .ref q0), (1, .long v), (3, .int (nI av)), (4, .int (nI bv))] := hl
  have hcl := cells_le hg1 hg2
  have J_27 : ∀ (n_ : Nat) (k : Nat) (c1 : Nat → Int32) (h1 : hsM v av = true) (h2 : hsM v bv = true) (hk : k ≤ nr * nc) (ha : c1 = csI v 1 100000 cs k) (hm_27 : nr * nc - k < n_), ∀ (H : Heap) (locs : List Loc), va_P G.1 vwCl [(q0, .inr (10, [.ref q1, .int (nI ty), .ref q2, .ref q3, .ref q4, .ref q5, .ref q6, .ref q7, .ref q8, .int (nI dm), .int (nI at_), .int (zb so), .ref q9, .int (nI de), .int (nI ke), .ref q10, .ref q11, .ref q12, .int (nI sm), .ref q13, .ref q14])), (q1, .inl (kB G, 200, .inl tx)), (q2, .inl (kI G, 2, .inl ro)), (q3, .inl (kI G, 2, .inl co)), (q4, .inl (kI G, 2, .inl mp)), (q5, .inl (kI G, 10, .inl my)), (q6, .inl (kI G, 10, .inl md)), (q7, .inl (kI G, 10, .inl mr)), (q8, .inl (kI G, 40, .inl dr)), (q9, .inl (kI G, 504, .inl nw)), (q10, .inl (kI G, 64, .inl tk)), (q11, .inl (kI G, 64, .inl c1)), (q12, .inl (kI G, 12, .inl sa)), (q13, .inl (kI G, 8, .inl go)), (q14, .inl (kI G, 2048, .inl to))] H → va_D A [(q0, .inr (10, [.ref q1, .int (nI ty), .ref q2, .ref q3, .ref q4, .ref q5, .ref q6, .ref q7, .ref q8, .int (nI dm), .int (nI at_), .int (zb so), .ref q9, .int (nI de), .int (nI ke), .ref q10, .ref q11, .ref q12, .int (nI sm), .ref q13, .ref q14])), (q1, .inl (kB G, 200, .inl tx)), (q2, .inl (kI G, 2, .inl ro)), (q3, .inl (kI G, 2, .inl co)), (q4, .inl (kI G, 2, .inl mp)), (q5, .inl (kI G, 10, .inl my)), (q6, .inl (kI G, 10, .inl md)), (q7, .inl (kI G, 10, .inl mr)), (q8, .inl (kI G, 40, .inl dr)), (q9, .inl (kI G, 504, .inl nw)), (q10, .inl (kI G, 64, .inl tk)), (q11, .inl (kI G, 64, .inl c1)), (q12, .inl (kI G, 12, .inl sa)), (q13, .inl (kI G, 8, .inl go)), (q14, .inl (kI G, 2048, .inl to))] → va_S A s.heap H locs → ∀ ls : Array Slot, lv_has ls 6 [(0, .ref q0), (1, .long v), (3, .int (nI av)), (4, .int (nI bv)), (5, .int (nI k))] → WC p l e (rmz 3 71) s m [.ref q0, .long v, .int (nI av), .int (nI bv)] below meth c G A (fun v9 w9 => v9 = (some (.int (stX nr nc v av bv))) ∧ ∃ (tk9 : Nat → Int32) (cs9 : Nat → Int32), w9 = [(q0, .inr (10, [.ref q1, .int (nI ty), .ref q2, .ref q3, .ref q4, .ref q5, .ref q6, .ref q7, .ref q8, .int (nI dm), .int (nI at_), .int (zb so), .ref q9, .int (nI de), .int (nI ke), .ref q10, .ref q11, .ref q12, .int (nI sm), .ref q13, .ref q14])), (q1, .inl (kB G, 200, .inl tx)), (q2, .inl (kI G, 2, .inl ro)), (q3, .inl (kI G, 2, .inl co)), (q4, .inl (kI G, 2, .inl mp)), (q5, .inl (kI G, 10, .inl my)), (q6, .inl (kI G, 10, .inl md)), (q7, .inl (kI G, 10, .inl mr)), (q8, .inl (kI G, 40, .inl dr)), (q9, .inl (kI G, 504, .inl nw)), (q10, .inl (kI G, 64, .inl tk9)), (q11, .inl (kI G, 64, .inl cs9)), (q12, .inl (kI G, 12, .inl sa)), (q13, .inl (kI G, 8, .inl go)), (q14, .inl (kI G, 2048, .inl to))]) H locs 0 0 (F0 m 27 ls []) := by
    intro n_
    induction n_ with
    | zero =>
      intro k c1 h1 h2 hk ha hm_27
      exact absurd hm_27 (Nat.not_lt_zero _)
    | succ n_ ih_27 =>
      intro k c1 h1 h2 hk ha hm_27 H locs hP hD hS ls hl
      refine lv_iload hx hb dX10_stepsIn_27 (lv_at hl 4 rfl) ?_
      refine lv_aload_n hx hb dX10_stepsIn_29 rfl (lv_at hl 0 rfl) ?_
      refine lv_iconst (v := 0) hx hb dX10_stepsIn_30 (by decide) ?_
      refine rd_callV (As := [.int 0]) (rest := [.int (nI k)]) hx hb hml hown hts (hE.at0 hS) hl.1 (c_X10_cells l G q0 q1 q2 q3 q4 q5 q6 q7 q8 q9 q10 q11 q12 q13 q14 tx ro co mp my md mr dr nw tk c1 sa go to ty dm at_ so de ke sm nr nc (by first | assumption | omega) (by first | assumption | omega) (by first | assumption | omega) (by first | assumption | omega)) (cw_X10_87 hts) ⟨(Nat.le_of_ble_eq_true rfl), (Nat.le_of_ble_eq_true rfl)⟩ ⟨Nat.zero_le _, Nat.zero_le _⟩ rfl (sub_P hP [0, 1, 2, 3, 4, 5, 6, 7, 8, 9, 10, 11, 12, 13, 14] rfl) rfl rfl rfl rfl (Nat.le_of_ble_eq_true rfl) dX10_stepsIn_31 ?_
      refine lv_icmp_ge (tgt := 67) hx hb dX10_stepsIn_34 (by decide) (fun c34 => ?_) (fun c34 => ?_)
      · have hkn : nr * nc ≤ k := le_of_le (by omega) (by omega) c34
        have ha9 : c1 = csI v 1 100000 cs (nr * nc) := by rw [ha, show k = nr * nc by omega]
        refine lv_aload_n hx hb dX10_stepsIn_67 rfl (lv_at hl 0 rfl) ?_
        refine lv_iload hx hb dX10_stepsIn_68 (lv_at hl 3 rfl) ?_
        refine ct_callV (w1 := [(q0, .inr (10, [.ref q1, .int (nI ty), .ref q2, .ref q3, .ref q4, .ref q5, .ref q6, .ref q7, .ref q8, .int (nI dm), .int (nI at_), .int (zb so), .ref q9, .int (nI de), .int (nI ke), .ref q10, .ref q11, .ref q12, .int (nI sm), .ref q13, .ref q14])), (q1, .inl (kB G, 200, .inl tx)), (q2, .inl (kI G, 2, .inl ro)), (q3, .inl (kI G, 2, .inl co)), (q4, .inl (kI G, 2, .inl mp)), (q5, .inl (kI G, 10, .inl my)), (q6, .inl (kI G, 10, .inl md)), (q7, .inl (kI G, 10, .inl mr)), (q8, .inl (kI G, 40, .inl dr)), (q9, .inl (kI G, 504, .inl nw)), (q10, .inl (kI G, 64, .inl (fnL c1 nr nc fuF (fiI tk (nI bv) (nr * nc))))), (q11, .inl (kI G, 64, .inl c1)), (q12, .inl (kI G, 12, .inl sa)), (q13, .inl (kI G, 8, .inl go)), (q14, .inl (kI G, 2048, .inl to))]) (wr := []) (wn := [(q0, .inr (10, [.ref q1, .int (nI ty), .ref q2, .ref q3, .ref q4, .ref q5, .ref q6, .ref q7, .ref q8, .int (nI dm), .int (nI at_), .int (zb so), .ref q9, .int (nI de), .int (nI ke), .ref q10, .ref q11, .ref q12, .int (nI sm), .ref q13, .ref q14])), (q1, .inl (kB G, 200, .inl tx)), (q2, .inl (kI G, 2, .inl ro)), (q3, .inl (kI G, 2, .inl co)), (q4, .inl (kI G, 2, .inl mp)), (q5, .inl (kI G, 10, .inl my)), (q6, .inl (kI G, 10, .inl md)), (q7, .inl (kI G, 10, .inl mr)), (q8, .inl (kI G, 40, .inl dr)), (q9, .inl (kI G, 504, .inl nw)), (q10, .inl (kI G, 64, .inl (fnL c1 nr nc fuF (fiI tk (nI bv) (nr * nc))))), (q11, .inl (kI G, 64, .inl c1)), (q12, .inl (kI G, 12, .inl sa)), (q13, .inl (kI G, 8, .inl go)), (q14, .inl (kI G, 2048, .inl to))]) (As := [.int (nI bv)]) (rest := []) hx hb hml hown hts hE hA hl.1 hP hD hS (c_X10_findTo l G q0 q1 q2 q3 q4 q5 q6 q7 q8 q9 q10 q11 q12 q13 q14 tx ro co mp my md mr dr nw tk c1 sa go to ty dm at_ so de ke sm nr nc (nI bv) (by first | assumption | omega) (by first | assumption | omega) (by first | assumption | omega) (by first | assumption | omega) (by rw [ha9]; exact cst_nn (by decide) (by decide) _ _)) (cw_X10_159 hts) ⟨(Nat.le_of_ble_eq_true rfl), (Nat.le_of_ble_eq_true rfl)⟩ ⟨(Nat.le_of_ble_eq_true rfl), (Nat.le_of_ble_eq_true rfl)⟩ rfl [0, 1, 2, 3, 4, 5, 6, 7, 8, 9, 10, 11, 12, 13, 14] [] [0, 1, 2, 3, 4, 5, 6, 7, 8, 9, 10, 11, 12, 13, 14] rfl rfl ⟨by decide, by decide, by decide, by decide⟩ rfl rfl rfl rfl rfl (Nat.le_of_ble_eq_true rfl) dX10_stepsIn_70 (fun H locs hP hD hS => ?_)
        show WC p l e _ s m _ below meth c G A _ H locs 0 0 (F0 m 73 ls [])
        refine lv_aload_n hx hb dX10_stepsIn_73 rfl (lv_at hl 0 rfl) ?_
        refine va_get hx hb hts inlX10 hown hE.1 hP 0 rfl rfl 15 (by decide) (fl_X10_38 hts) (fun _ h9 => h9) rfl dX10_stepsIn_74 ?_
        refine lv_iload_n hx hb dX10_stepsIn_77 rfl (lv_at hl 2 rfl) ?_
        refine va_iald hx hb hE.1 hP 10 0 rfl rfl (vp_in_nI (by omega) (by omega)) dX10_stepsIn_78 ?_
        rw [show ((fnL c1 nr nc fuF (fiI tk (nI bv) (nr * nc))) (nI av).toNatClampNeg) = fnX nr nc (cst v 1 100000) bv av from by rw [nI_clamp (by omega)]; exact fnL_of hg1 hg2 (fun i hi => by rw [ha9]; exact csI_in _ _ _ _ _ i hi) tk bv hav]
        refine lv_ldc hx hb hown (cn_X10_57 hts) dX10_stepsIn_79 ?_
        refine lv_icmp_lt (tgt := 89) hx hb dX10_stepsIn_81 (by decide) (fun c81 => ?_) (fun c81 => ?_)
        · refine lv_aload_n hx hb dX10_stepsIn_89 rfl (lv_at hl 0 rfl) ?_
          refine va_get hx hb hts inlX10 hown hE.1 hP 0 rfl rfl 15 (by decide) (fl_X10_38 hts) (fun _ h9 => h9) rfl dX10_stepsIn_90 ?_
          refine lv_iload_n hx hb dX10_stepsIn_93 rfl (lv_at hl 2 rfl) ?_
          refine va_iald hx hb hE.1 hP 10 0 rfl rfl (vp_in_nI (by omega) (by omega)) dX10_stepsIn_94 ?_
          rw [show ((fnL c1 nr nc fuF (fiI tk (nI bv) (nr * nc))) (nI av).toNatClampNeg) = fnX nr nc (cst v 1 100000) bv av from by rw [nI_clamp (by omega)]; exact fnL_of hg1 hg2 (fun i hi => by rw [ha9]; exact csI_in _ _ _ _ _ i hi) tk bv hav]
          exact ct_iret hx hb hr hlk dX10_stepsIn_95 hP hD hS (by refine ⟨?_, _, _, rfl⟩; rw [stX, h1, h2]; simp [c81])
        · refine lv_bipush (v := -4) hx hb dX10_stepsIn_84 (by decide) ?_
          refine lv_goto (tgt := 95) hx hb dX10_stepsIn_86 (by decide) ?_
          exact ct_iret hx hb hr hlk dX10_stepsIn_95 hP hD hS (by refine ⟨?_, _, _, rfl⟩; rw [stX, h1, h2]; simp [c81])
      · have hkn : k < nr * nc := lt_of_nle (by omega) (by omega) c34
        refine lv_aload_n hx hb dX10_stepsIn_37 rfl (lv_at hl 0 rfl) ?_
        refine va_get hx hb hts inlX10 hown hE.1 hP 0 rfl rfl 16 (by decide) (fl_X10_41 hts) (fun _ h9 => h9) rfl dX10_stepsIn_38 ?_
        refine lv_iload hx hb dX10_stepsIn_41 (lv_at hl 4 rfl) ?_
        refine lv_lload_n hx hb dX10_stepsIn_43 rfl (lv_at hl 1 rfl) ?_
        refine lv_iload hx hb dX10_stepsIn_44 (lv_at hl 4 rfl) ?_
        refine lv_lshr hx hb dX10_stepsIn_46 rfl ?_
        refine lv_lconst (v := 1) hx hb dX10_stepsIn_47 (by decide) ?_
        refine lv_land hx hb dX10_stepsIn_48 ?_
        refine lv_lconst (v := 1) hx hb dX10_stepsIn_49 (by decide) ?_
        refine W.lcmp hx hb dX10_stepsIn_50 ?_
        refine lv_if_ne (tgt := 58) hx hb dX10_stepsIn_51 (by decide) (fun c51 => ?_) (fun c51 => ?_)
        · have c51 := lgc_ne.mp c51
          have c51 : hsM (v) k = false := by simp [hsM, c51]
          refine lv_ldc hx hb hown (cn_X10_57 hts) dX10_stepsIn_58 ?_
          refine va_iast hx hb hE.1 hP hD hS 11 0 rfl rfl (vp_in_nI (by omega) (by omega)) dX10_stepsIn_60 (fun H locs hP hD hS => ?_)
          rw [nI_clamp (show k < 2 ^ 31 by omega)] at hP hD
          have hP : va_P G.1 vwCl [(q0, .inr (10, [.ref q1, .int (nI ty), .ref q2, .ref q3, .ref q4, .ref q5, .ref q6, .ref q7, .ref q8, .int (nI dm), .int (nI at_), .int (zb so), .ref q9, .int (nI de), .int (nI ke), .ref q10, .ref q11, .ref q12, .int (nI sm), .ref q13, .ref q14])), (q1, .inl (kB G, 200, .inl tx)), (q2, .inl (kI G, 2, .inl ro)), (q3, .inl (kI G, 2, .inl co)), (q4, .inl (kI G, 2, .inl mp)), (q5, .inl (kI G, 10, .inl my)), (q6, .inl (kI G, 10, .inl md)), (q7, .inl (kI G, 10, .inl mr)), (q8, .inl (kI G, 40, .inl dr)), (q9, .inl (kI G, 504, .inl nw)), (q10, .inl (kI G, 64, .inl tk)), (q11, .inl (kI G, 64, .inl (upd c1 k 100000))), (q12, .inl (kI G, 12, .inl sa)), (q13, .inl (kI G, 8, .inl go)), (q14, .inl (kI G, 2048, .inl to))] H := hP
          have hD : va_D A [(q0, .inr (10, [.ref q1, .int (nI ty), .ref q2, .ref q3, .ref q4, .ref q5, .ref q6, .ref q7, .ref q8, .int (nI dm), .int (nI at_), .int (zb so), .ref q9, .int (nI de), .int (nI ke), .ref q10, .ref q11, .ref q12, .int (nI sm), .ref q13, .ref q14])), (q1, .inl (kB G, 200, .inl tx)), (q2, .inl (kI G, 2, .inl ro)), (q3, .inl (kI G, 2, .inl co)), (q4, .inl (kI G, 2, .inl mp)), (q5, .inl (kI G, 10, .inl my)), (q6, .inl (kI G, 10, .inl md)), (q7, .inl (kI G, 10, .inl mr)), (q8, .inl (kI G, 40, .inl dr)), (q9, .inl (kI G, 504, .inl nw)), (q10, .inl (kI G, 64, .inl tk)), (q11, .inl (kI G, 64, .inl (upd c1 k 100000))), (q12, .inl (kI G, 12, .inl sa)), (q13, .inl (kI G, 8, .inl go)), (q14, .inl (kI G, 2048, .inl to))] := hD
          refine lv_iinc (v := nI (k + 1)) (lv' := [(5, .int (nI (k + 1))), (0, .ref q0), (1, .long v), (3, .int (nI av)), (4, .int (nI bv))]) hx hb dX10_stepsIn_61 hl (k := 4) rfl (nI_1 k) (by decide) rfl (fun ls hl => ?_)
          refine lv_goto (tgt := 27) hx hb dX10_stepsIn_64 (by decide) ?_
          have ha0 := ha
          rw [csI] at ha0
          exact ih_27 (k + 1) (upd c1 k 100000) h1 h2 (by first | assumption | omega | rfl) (by rw [csI, it_s]; simp only [← ha0]; simp [cst, c34, c51]) (by omega) _ _ hP hD hS ls (lv_sub hl [1, 2, 3, 4, 0] rfl)
        · have c51 := lgc_eq.mp c51
          have c51 : hsM (v) k = true := by simp [hsM, c51]
          refine lv_iconst (v := 1) hx hb dX10_stepsIn_54 (by decide) ?_
          refine lv_goto (tgt := 60) hx hb dX10_stepsIn_55 (by decide) ?_
          refine va_iast hx hb hE.1 hP hD hS 11 0 rfl rfl (vp_in_nI (by omega) (by omega)) dX10_stepsIn_60 (fun H locs hP hD hS => ?_)
          rw [nI_clamp (show k < 2 ^ 31 by omega)] at hP hD
          have hP : va_P G.1 vwCl [(q0, .inr (10, [.ref q1, .int (nI ty), .ref q2, .ref q3, .ref q4, .ref q5, .ref q6, .ref q7, .ref q8, .int (nI dm), .int (nI at_), .int (zb so), .ref q9, .int (nI de), .int (nI ke), .ref q10, .ref q11, .ref q12, .int (nI sm), .ref q13, .ref q14])), (q1, .inl (kB G, 200, .inl tx)), (q2, .inl (kI G, 2, .inl ro)), (q3, .inl (kI G, 2, .inl co)), (q4, .inl (kI G, 2, .inl mp)), (q5, .inl (kI G, 10, .inl my)), (q6, .inl (kI G, 10, .inl md)), (q7, .inl (kI G, 10, .inl mr)), (q8, .inl (kI G, 40, .inl dr)), (q9, .inl (kI G, 504, .inl nw)), (q10, .inl (kI G, 64, .inl tk)), (q11, .inl (kI G, 64, .inl (upd c1 k 1))), (q12, .inl (kI G, 12, .inl sa)), (q13, .inl (kI G, 8, .inl go)), (q14, .inl (kI G, 2048, .inl to))] H := hP
          have hD : va_D A [(q0, .inr (10, [.ref q1, .int (nI ty), .ref q2, .ref q3, .ref q4, .ref q5, .ref q6, .ref q7, .ref q8, .int (nI dm), .int (nI at_), .int (zb so), .ref q9, .int (nI de), .int (nI ke), .ref q10, .ref q11, .ref q12, .int (nI sm), .ref q13, .ref q14])), (q1, .inl (kB G, 200, .inl tx)), (q2, .inl (kI G, 2, .inl ro)), (q3, .inl (kI G, 2, .inl co)), (q4, .inl (kI G, 2, .inl mp)), (q5, .inl (kI G, 10, .inl my)), (q6, .inl (kI G, 10, .inl md)), (q7, .inl (kI G, 10, .inl mr)), (q8, .inl (kI G, 40, .inl dr)), (q9, .inl (kI G, 504, .inl nw)), (q10, .inl (kI G, 64, .inl tk)), (q11, .inl (kI G, 64, .inl (upd c1 k 1))), (q12, .inl (kI G, 12, .inl sa)), (q13, .inl (kI G, 8, .inl go)), (q14, .inl (kI G, 2048, .inl to))] := hD
          refine lv_iinc (v := nI (k + 1)) (lv' := [(5, .int (nI (k + 1))), (0, .ref q0), (1, .long v), (3, .int (nI av)), (4, .int (nI bv))]) hx hb dX10_stepsIn_61 hl (k := 4) rfl (nI_1 k) (by decide) rfl (fun ls hl => ?_)
          refine lv_goto (tgt := 27) hx hb dX10_stepsIn_64 (by decide) ?_
          have ha0 := ha
          rw [csI] at ha0
          exact ih_27 (k + 1) (upd c1 k 1) h1 h2 (by first | assumption | omega | rfl) (by rw [csI, it_s]; simp only [← ha0]; simp [cst, c34, c51]) (by omega) _ _ hP hD hS ls (lv_sub hl [1, 2, 3, 4, 0] rfl)
  refine lv_lload_n hx hb dX10_stepsIn_0 rfl (lv_at hl 1 rfl) ?_
  refine lv_iload_n hx hb dX10_stepsIn_1 rfl (lv_at hl 2 rfl) ?_
  refine lv_lshr hx hb dX10_stepsIn_2 rfl ?_
  refine lv_lconst (v := 1) hx hb dX10_stepsIn_3 (by decide) ?_
  refine lv_land hx hb dX10_stepsIn_4 ?_
  refine lv_lconst (v := 0) hx hb dX10_stepsIn_5 (by decide) ?_
  refine W.lcmp hx hb dX10_stepsIn_6 ?_
  refine lv_if_eq (tgt := 21) hx hb dX10_stepsIn_7 (by decide) (fun c7 => ?_) (fun c7 => ?_)
  · have c7 := lgc_eq.mp c7
    have c7 := hsM_0 c7
    refine lv_bipush (v := -4) hx hb dX10_stepsIn_21 (by decide) ?_
    exact ct_iret hx hb hr hlk dX10_stepsIn_23 hP hD hS (by exact ⟨by simp [stX, c7], _, _, rfl⟩)
  · have c7 := lgc_ne.mp c7
    have c7 := hsM_n c7
    refine lv_lload_n hx hb dX10_stepsIn_10 rfl (lv_at hl 1 rfl) ?_
    refine lv_iload hx hb dX10_stepsIn_11 (lv_at hl 3 rfl) ?_
    refine lv_lshr hx hb dX10_stepsIn_13 rfl ?_
    refine lv_lconst (v := 1) hx hb dX10_stepsIn_14 (by decide) ?_
    refine lv_land hx hb dX10_stepsIn_15 ?_
    refine lv_lconst (v := 0) hx hb dX10_stepsIn_16 (by decide) ?_
    refine W.lcmp hx hb dX10_stepsIn_17 ?_
    refine lv_if_ne (tgt := 24) hx hb dX10_stepsIn_18 (by decide) (fun c18 => ?_) (fun c18 => ?_)
    · have c18 := lgc_ne.mp c18
      have c18 := hsM_n c18
      refine lv_iconst (v := 0) hx hb dX10_stepsIn_24 (by decide) ?_
      refine lv_istore (lv' := [(5, .int 0), (0, .ref q0), (1, .long v), (3, .int (nI av)), (4, .int (nI bv))]) hx hb dX10_stepsIn_25 hl (by decide) rfl (fun ls hl => ?_)
      exact J_27 (nr * nc - 0 + 1) 0 cs c7 c18 (by first | assumption | omega | rfl) rfl (Nat.lt_succ_self _) _ _ hP hD hS ls (lv_sub hl [1, 2, 3, 4, 0] rfl)
    · have c18 := lgc_eq.mp c18
      have c18 := hsM_0 c18
      refine lv_bipush (v := -4) hx hb dX10_stepsIn_21 (by decide) ?_
      exact ct_iret hx hb hr hlk dX10_stepsIn_23 hP hD hS (by exact ⟨by simp [stX, c7, c18], _, _, rfl⟩)

set_option maxHeartbeats 4000000 in
set_option maxRecDepth 100000 in
theorem c_X10_way_y (l : Launch) (G : Gv) (q0 : Nat) (q1 : Nat) (q2 : Nat) (q3 : Nat) (q4 : Nat) (q5 : Nat) (q6 : Nat) (q7 : Nat) (q8 : Nat) (q9 : Nat) (q10 : Nat) (q11 : Nat) (q12 : Nat) (q13 : Nat) (q14 : Nat) (tx : Nat → Int32) (ro : Nat → Int32) (co : Nat → Int32) (mp : Nat → Int32) (my : Nat → Int32) (md : Nat → Int32) (mr : Nat → Int32) (dr : Nat → Int32) (nw : Nat → Int32) (tk : Nat → Int32) (cs : Nat → Int32) (sa : Nat → Int32) (go : Nat → Int32) (to : Nat → Int32) (ty : Nat) (dm : Nat) (at_ : Nat) (so : Bool) (de : Nat) (ke : Nat) (sm : Nat) (nr : Nat) (nc : Nat) (n : Nat) (av : Nat) (bv : Nat) (hro : ro 0 = nI nr) (hco : co 0 = nI nc) (hg1 : 2 ≤ nr ∧ nr ≤ 8) (hg2 : 2 ≤ nc ∧ nc ≤ 8) (hn1 : nw 1 = nI n) (hn : n ≤ 10) (hav : av < nr * nc) (hbv : bv < nr * nc) : Ct l yX10_way cX10_way 3 (some .int) (rmz 4 96) G [.ref q0, .int (nI av), .int (nI bv)] [(q0, .inr (10, [.ref q1, .int (nI ty), .ref q2, .ref q3, .ref q4, .ref q5, .ref q6, .ref q7, .ref q8, .int (nI dm), .int (nI at_), .int (zb so), .ref q9, .int (nI de), .int (nI ke), .ref q10, .ref q11, .ref q12, .int (nI sm), .ref q13, .ref q14])), (q1, .inl (kB G, 200, .inl tx)), (q2, .inl (kI G, 2, .inl ro)), (q3, .inl (kI G, 2, .inl co)), (q4, .inl (kI G, 2, .inl mp)), (q5, .inl (kI G, 10, .inl my)), (q6, .inl (kI G, 10, .inl md)), (q7, .inl (kI G, 10, .inl mr)), (q8, .inl (kI G, 40, .inl dr)), (q9, .inl (kI G, 504, .inl nw)), (q10, .inl (kI G, 64, .inl tk)), (q11, .inl (kI G, 64, .inl cs)), (q12, .inl (kI G, 12, .inl sa)), (q13, .inl (kI G, 8, .inl go)), (q14, .inl (kI G, 2048, .inl to))] (fun v9 w9 => v9 = (some (.int (stX nr nc (stC (cel nw 0) (sta nw 0) (fal nw 0) (nw 0) n ^^^ (-1)) av bv))) ∧ ∃ (tk9 : Nat → Int32) (cs9 : Nat → Int32), w9 = [(q0, .inr (10, [.ref q1, .int (nI ty), .ref q2, .ref q3, .ref q4, .ref q5, .ref q6, .ref q7, .ref q8, .int (nI dm), .int (nI at_), .int (zb so), .ref q9, .int (nI de), .int (nI ke), .ref q10, .ref q11, .ref q12, .int (nI sm), .ref q13, .ref q14])), (q1, .inl (kB G, 200, .inl tx)), (q2, .inl (kI G, 2, .inl ro)), (q3, .inl (kI G, 2, .inl co)), (q4, .inl (kI G, 2, .inl mp)), (q5, .inl (kI G, 10, .inl my)), (q6, .inl (kI G, 10, .inl md)), (q7, .inl (kI G, 10, .inl mr)), (q8, .inl (kI G, 40, .inl dr)), (q9, .inl (kI G, 504, .inl nw)), (q10, .inl (kI G, 64, .inl tk9)), (q11, .inl (kI G, 64, .inl cs9)), (q12, .inl (kI G, 12, .inl sa)), (q13, .inl (kI G, 8, .inl go)), (q14, .inl (kI G, 2048, .inl to))]) := by
  refine Ct.ofW (by decide) (Nat.le_of_ble_eq_true rfl) ?_
  intro p e s m below meth c ls A hx hb hml hr hown hts hlk hnm hP hD hA hE hS hl
  obtain ⟨H, eH⟩ : ∃ H : Heap, H = s.heap := ⟨_, rfl⟩
  obtain ⟨locs, eL⟩ : ∃ ll : List Loc, ll = [] := ⟨_, rfl⟩
  rw [← eH] at hP
  have hS : va_S A s.heap H locs := by rw [eH, eL]; exact hS
  show WC p l e _ s m _ below meth c G A _ s.heap [] 0 0 _
  rw [← eH, ← eL]
  clear eH eL
  have hl : lv_has ls 3 [(0, .ref q0), (1, .int (nI av)), (2, .int (nI bv))] := hl
  have hcl := cells_le hg1 hg2
  refine lv_aload_n hx hb dX10_way_0 rfl (lv_at hl 0 rfl) ?_
  refine lv_iload_n hx hb dX10_way_1 rfl (lv_at hl 1 rfl) ?_
  refine rd_callV (As := [.int (nI av)]) (rest := []) hx hb hml hown hts (hE.at0 hS) hl.1 (c_X10_isCell l G q0 q1 q2 q3 q4 q5 q6 q7 q8 q9 q10 q11 q12 q13 q14 tx ro co mp my md mr dr nw tk cs sa go to ty dm at_ so de ke sm nr nc (nI av) (by first | assumption | omega) (by first | assumption | omega) (by first | assumption | omega) (by first | assumption | omega)) (cw_X10_116 hts) ⟨(Nat.le_of_ble_eq_true rfl), (Nat.le_of_ble_eq_true rfl)⟩ ⟨Nat.zero_le _, Nat.zero_le _⟩ rfl (sub_P hP [0, 1, 2, 3, 4, 5, 6, 7, 8, 9, 10, 11, 12, 13, 14] rfl) rfl rfl rfl rfl (Nat.le_of_ble_eq_true rfl) dX10_way_2 ?_
  refine lv_if_eq (tgt := 40) hx hb dX10_way_5 (by decide) (fun c5 => ?_) (fun c5 => ?_)
  · have c5 := zb_0.mp c5
    exact absurd c5 (by rw [inG, inB_nI (by omega)]; simp [hav])
  · have c5 := zb_n0.mp c5
    refine lv_aload_n hx hb dX10_way_8 rfl (lv_at hl 0 rfl) ?_
    refine lv_iload_n hx hb dX10_way_9 rfl (lv_at hl 2 rfl) ?_
    refine rd_callV (As := [.int (nI bv)]) (rest := []) hx hb hml hown hts (hE.at0 hS) hl.1 (c_X10_isCell l G q0 q1 q2 q3 q4 q5 q6 q7 q8 q9 q10 q11 q12 q13 q14 tx ro co mp my md mr dr nw tk cs sa go to ty dm at_ so de ke sm nr nc (nI bv) (by first | assumption | omega) (by first | assumption | omega) (by first | assumption | omega) (by first | assumption | omega)) (cw_X10_116 hts) ⟨(Nat.le_of_ble_eq_true rfl), (Nat.le_of_ble_eq_true rfl)⟩ ⟨Nat.zero_le _, Nat.zero_le _⟩ rfl (sub_P hP [0, 1, 2, 3, 4, 5, 6, 7, 8, 9, 10, 11, 12, 13, 14] rfl) rfl rfl rfl rfl (Nat.le_of_ble_eq_true rfl) dX10_way_10 ?_
    refine lv_if_eq (tgt := 40) hx hb dX10_way_13 (by decide) (fun c13 => ?_) (fun c13 => ?_)
    · have c13 := zb_0.mp c13
      exact absurd c13 (by rw [inG, inB_nI (by omega)]; simp [hbv])
    · have c13 := zb_n0.mp c13
      refine lv_aload_n hx hb dX10_way_16 rfl (lv_at hl 0 rfl) ?_
      refine lv_aload_n hx hb dX10_way_17 rfl (lv_at hl 0 rfl) ?_
      refine lv_iconst (v := 0) hx hb dX10_way_18 (by decide) ?_
      refine lv_aload_n hx hb dX10_way_19 rfl (lv_at hl 0 rfl) ?_
      refine va_get hx hb hts inlX10 hown hE.1 hP 0 rfl rfl 12 (by decide) (fl_X10_35 hts) (fun _ h9 => h9) rfl dX10_way_20 ?_
      refine lv_iconst (v := 0) hx hb dX10_way_23 (by decide) ?_
      refine va_iald hx hb hE.1 hP 9 0 rfl rfl (inB_iff.mp (by decide)) dX10_way_24 ?_
      rw [show (0 : Int32).toNatClampNeg = 0 from rfl]
      refine rd_callV (As := [.int 0, .int (nw 0)]) (rest := [.ref q0]) hx hb hml hown hts (hE.at0 hS) hl.1 (c_X10_taken l G q0 q1 q2 q3 q4 q5 q6 q7 q8 q9 q10 q11 q12 q13 q14 tx ro co mp my md mr dr nw tk cs sa go to ty dm at_ so de ke sm 0 n (nw 0) (by decide) (by first | assumption | omega) (by first | assumption | omega)) (cw_X10_122 hts) ⟨(Nat.le_of_ble_eq_true rfl), (Nat.le_of_ble_eq_true rfl)⟩ ⟨Nat.zero_le _, Nat.zero_le _⟩ rfl (sub_P hP [0, 1, 2, 3, 4, 5, 6, 7, 8, 9, 10, 11, 12, 13, 14] rfl) rfl rfl rfl rfl (Nat.le_of_ble_eq_true rfl) dX10_way_25 ?_
      refine lv_ldc2 hx hb hown (cL_X10_163 hts) dX10_way_28 ?_
      refine lv_lxor hx hb dX10_way_31 ?_
      refine lv_iload_n hx hb dX10_way_32 rfl (lv_at hl 1 rfl) ?_
      refine lv_iload_n hx hb dX10_way_33 rfl (lv_at hl 2 rfl) ?_
      refine ct_callVx (wr := []) (As := [.long ((stC (cel nw 0) (sta nw 0) (fal nw 0) (nw 0) n) ^^^ (-1)), .int (nI av), .int (nI bv)]) (rest := []) hx hb hml hown hts hE hA hl.1 hP hD hS (c_X10_stepsIn l G q0 q1 q2 q3 q4 q5 q6 q7 q8 q9 q10 q11 q12 q13 q14 tx ro co mp my md mr dr nw tk cs sa go to ty dm at_ so de ke sm nr nc ((stC (cel nw 0) (sta nw 0) (fal nw 0) (nw 0) n) ^^^ (-1)) av bv (by first | assumption | omega) (by first | assumption | omega) (by first | assumption | omega) (by first | assumption | omega) (by first | assumption | omega) (by first | assumption | omega)) (cw_X10_165 hts) ⟨(Nat.le_of_ble_eq_true rfl), (Nat.le_of_ble_eq_true rfl)⟩ ⟨(Nat.le_of_ble_eq_true rfl), (Nat.le_of_ble_eq_true rfl)⟩ rfl [0, 1, 2, 3, 4, 5, 6, 7, 8, 9, 10, 11, 12, 13, 14] [] rfl rfl ⟨by decide, by decide, by decide⟩ rfl rfl rfl rfl (Nat.le_of_ble_eq_true rfl) dX10_way_34 (fun v9 w9 H locs hpo hP hD hS => ?_)
      obtain ⟨rfl, tk9_34, cs9_34, rfl⟩ := hpo
      have hP := sub_P (wc := [(q0, .inr (10, [.ref q1, .int (nI ty), .ref q2, .ref q3, .ref q4, .ref q5, .ref q6, .ref q7, .ref q8, .int (nI dm), .int (nI at_), .int (zb so), .ref q9, .int (nI de), .int (nI ke), .ref q10, .ref q11, .ref q12, .int (nI sm), .ref q13, .ref q14])), (q1, .inl (kB G, 200, .inl tx)), (q2, .inl (kI G, 2, .inl ro)), (q3, .inl (kI G, 2, .inl co)), (q4, .inl (kI G, 2, .inl mp)), (q5, .inl (kI G, 10, .inl my)), (q6, .inl (kI G, 10, .inl md)), (q7, .inl (kI G, 10, .inl mr)), (q8, .inl (kI G, 40, .inl dr)), (q9, .inl (kI G, 504, .inl nw)), (q10, .inl (kI G, 64, .inl tk9_34)), (q11, .inl (kI G, 64, .inl cs9_34)), (q12, .inl (kI G, 12, .inl sa)), (q13, .inl (kI G, 8, .inl go)), (q14, .inl (kI G, 2048, .inl to))]) hP [0, 1, 2, 3, 4, 5, 6, 7, 8, 9, 10, 11, 12, 13, 14] rfl
      have hD := hD.sub (ws' := [(q0, .inr (10, [.ref q1, .int (nI ty), .ref q2, .ref q3, .ref q4, .ref q5, .ref q6, .ref q7, .ref q8, .int (nI dm), .int (nI at_), .int (zb so), .ref q9, .int (nI de), .int (nI ke), .ref q10, .ref q11, .ref q12, .int (nI sm), .ref q13, .ref q14])), (q1, .inl (kB G, 200, .inl tx)), (q2, .inl (kI G, 2, .inl ro)), (q3, .inl (kI G, 2, .inl co)), (q4, .inl (kI G, 2, .inl mp)), (q5, .inl (kI G, 10, .inl my)), (q6, .inl (kI G, 10, .inl md)), (q7, .inl (kI G, 10, .inl mr)), (q8, .inl (kI G, 40, .inl dr)), (q9, .inl (kI G, 504, .inl nw)), (q10, .inl (kI G, 64, .inl tk9_34)), (q11, .inl (kI G, 64, .inl cs9_34)), (q12, .inl (kI G, 12, .inl sa)), (q13, .inl (kI G, 8, .inl go)), (q14, .inl (kI G, 2048, .inl to))]) [0, 1, 2, 3, 4, 5, 6, 7, 8, 9, 10, 11, 12, 13, 14] (by decide) rfl
      show WC p l e _ s m _ below meth c G A _ H locs 0 0 (F0 m 37 ls [.int (stX nr nc ((stC (cel nw 0) (sta nw 0) (fal nw 0) (nw 0) n) ^^^ (-1)) av bv)])
      refine lv_goto (tgt := 41) hx hb dX10_way_37 (by decide) ?_
      exact ct_iret hx hb hr hlk dX10_way_41 hP hD hS (by exact ⟨rfl, _, _, rfl⟩)

set_option maxHeartbeats 4000000 in
set_option maxRecDepth 100000 in
theorem c_X10_way_n (l : Launch) (G : Gv) (q0 : Nat) (q1 : Nat) (q2 : Nat) (q3 : Nat) (q4 : Nat) (q5 : Nat) (q6 : Nat) (q7 : Nat) (q8 : Nat) (q9 : Nat) (q10 : Nat) (q11 : Nat) (q12 : Nat) (q13 : Nat) (q14 : Nat) (tx : Nat → Int32) (ro : Nat → Int32) (co : Nat → Int32) (mp : Nat → Int32) (my : Nat → Int32) (md : Nat → Int32) (mr : Nat → Int32) (dr : Nat → Int32) (nw : Nat → Int32) (tk : Nat → Int32) (cs : Nat → Int32) (sa : Nat → Int32) (go : Nat → Int32) (to : Nat → Int32) (ty : Nat) (dm : Nat) (at_ : Nat) (so : Bool) (de : Nat) (ke : Nat) (sm : Nat) (nr : Nat) (nc : Nat) (n : Nat) (a : Int32) (b : Int32) (hro : ro 0 = nI nr) (hco : co 0 = nI nc) (hg1 : 2 ≤ nr ∧ nr ≤ 8) (hg2 : 2 ≤ nc ∧ nc ≤ 8) (hn1 : nw 1 = nI n) (hn : n ≤ 10) (hno : ¬ (inG nr nc a = true ∧ inG nr nc b = true)) : Rd l yX10_way cX10_way 3 (some .int) (rmz 2 43) G [.ref q0, .int a, .int b] [(q0, .inr (10, [.ref q1, .int (nI ty), .ref q2, .ref q3, .ref q4, .ref q5, .ref q6, .ref q7, .ref q8, .int (nI dm), .int (nI at_), .int (zb so), .ref q9, .int (nI de), .int (nI ke), .ref q10, .ref q11, .ref q12, .int (nI sm), .ref q13, .ref q14])), (q1, .inl (kB G, 200, .inl tx)), (q2, .inl (kI G, 2, .inl ro)), (q3, .inl (kI G, 2, .inl co)), (q4, .inl (kI G, 2, .inl mp)), (q5, .inl (kI G, 10, .inl my)), (q6, .inl (kI G, 10, .inl md)), (q7, .inl (kI G, 10, .inl mr)), (q8, .inl (kI G, 40, .inl dr)), (q9, .inl (kI G, 504, .inl nw)), (q10, .inl (kI G, 64, .inl tk)), (q11, .inl (kI G, 64, .inl cs)), (q12, .inl (kI G, 12, .inl sa)), (q13, .inl (kI G, 8, .inl go)), (q14, .inl (kI G, 2048, .inl to))] (.int (-1)) := by
  refine Rd.ofW (by decide) (Nat.le_of_ble_eq_true rfl) ?_
  intro p e s m below meth c ls hx hb hml hr hown hts hlk hP hE hl
  have hl : lv_has ls 3 [(0, .ref q0), (1, .int a), (2, .int b)] := hl
  refine lv_aload_n hx hb dX10_way_0 rfl (lv_at hl 0 rfl) ?_
  refine lv_iload_n hx hb dX10_way_1 rfl (lv_at hl 1 rfl) ?_
  refine rd_callV (As := [.int a]) (rest := []) hx hb hml hown hts hE hl.1 (c_X10_isCell l G q0 q1 q2 q3 q4 q5 q6 q7 q8 q9 q10 q11 q12 q13 q14 tx ro co mp my md mr dr nw tk cs sa go to ty dm at_ so de ke sm nr nc a (by first | assumption | omega) (by first | assumption | omega) (by first | assumption | omega) (by first | assumption | omega)) (cw_X10_116 hts) ⟨(Nat.le_of_ble_eq_true rfl), (Nat.le_of_ble_eq_true rfl)⟩ ⟨Nat.zero_le _, Nat.zero_le _⟩ rfl (sub_P hP [0, 1, 2, 3, 4, 5, 6, 7, 8, 9, 10, 11, 12, 13, 14] rfl) rfl rfl rfl rfl (Nat.le_of_ble_eq_true rfl) dX10_way_2 ?_
  refine lv_if_eq (tgt := 40) hx hb dX10_way_5 (by decide) (fun c5 => ?_) (fun c5 => ?_)
  · have c5 := zb_0.mp c5
    refine lv_iconst (v := -1) hx hb dX10_way_40 (by decide) ?_
    exact rd_iret hx hb hr hlk dX10_way_41 (by first | rfl | (simp [zb, c5]; done))
  · have c5 := zb_n0.mp c5
    refine lv_aload_n hx hb dX10_way_8 rfl (lv_at hl 0 rfl) ?_
    refine lv_iload_n hx hb dX10_way_9 rfl (lv_at hl 2 rfl) ?_
    refine rd_callV (As := [.int b]) (rest := []) hx hb hml hown hts hE hl.1 (c_X10_isCell l G q0 q1 q2 q3 q4 q5 q6 q7 q8 q9 q10 q11 q12 q13 q14 tx ro co mp my md mr dr nw tk cs sa go to ty dm at_ so de ke sm nr nc b (by first | assumption | omega) (by first | assumption | omega) (by first | assumption | omega) (by first | assumption | omega)) (cw_X10_116 hts) ⟨(Nat.le_of_ble_eq_true rfl), (Nat.le_of_ble_eq_true rfl)⟩ ⟨Nat.zero_le _, Nat.zero_le _⟩ rfl (sub_P hP [0, 1, 2, 3, 4, 5, 6, 7, 8, 9, 10, 11, 12, 13, 14] rfl) rfl rfl rfl rfl (Nat.le_of_ble_eq_true rfl) dX10_way_10 ?_
    refine lv_if_eq (tgt := 40) hx hb dX10_way_13 (by decide) (fun c13 => ?_) (fun c13 => ?_)
    · have c13 := zb_0.mp c13
      refine lv_iconst (v := -1) hx hb dX10_way_40 (by decide) ?_
      exact rd_iret hx hb hr hlk dX10_way_41 (by first | rfl | (simp [zb, c5, c13]; done))
    · have c13 := zb_n0.mp c13
      exact absurd ⟨c5, c13⟩ hno

set_option maxHeartbeats 4000000 in
set_option maxRecDepth 100000 in
theorem c_X10_sure_y (l : Launch) (G : Gv) (q0 : Nat) (q1 : Nat) (q2 : Nat) (q3 : Nat) (q4 : Nat) (q5 : Nat) (q6 : Nat) (q7 : Nat) (q8 : Nat) (q9 : Nat) (q10 : Nat) (q11 : Nat) (q12 : Nat) (q13 : Nat) (q14 : Nat) (tx : Nat → Int32) (ro : Nat → Int32) (co : Nat → Int32) (mp : Nat → Int32) (my : Nat → Int32) (md : Nat → Int32) (mr : Nat → Int32) (dr : Nat → Int32) (nw : Nat → Int32) (tk : Nat → Int32) (cs : Nat → Int32) (sa : Nat → Int32) (go : Nat → Int32) (to : Nat → Int32) (ty : Nat) (dm : Nat) (at_ : Nat) (so : Bool) (de : Nat) (ke : Nat) (sm : Nat) (nr : Nat) (nc : Nat) (n : Nat) (q : Nat) (j : Nat) (av : Nat) (bv : Nat) (hro : ro 0 = nI nr) (hco : co 0 = nI nc) (hg1 : 2 ≤ nr ∧ nr ≤ 8) (hg2 : 2 ≤ nc ∧ nc ≤ 8) (hn1 : nw 1 = nI n) (hn : n ≤ 10) (hmp : mp 0 = nI q) (hq : q ≤ 5) (hj : j < q) (hav : av < nr * nc) (hbv : bv < nr * nc) : Ct l yX10_sure cX10_sure 4 (some .int) (rmz 4 96) G [.ref q0, .int (nI j), .int (nI av), .int (nI bv)] [(q0, .inr (10, [.ref q1, .int (nI ty), .ref q2, .ref q3, .ref q4, .ref q5, .ref q6, .ref q7, .ref q8, .int (nI dm), .int (nI at_), .int (zb so), .ref q9, .int (nI de), .int (nI ke), .ref q10, .ref q11, .ref q12, .int (nI sm), .ref q13, .ref q14])), (q1, .inl (kB G, 200, .inl tx)), (q2, .inl (kI G, 2, .inl ro)), (q3, .inl (kI G, 2, .inl co)), (q4, .inl (kI G, 2, .inl mp)), (q5, .inl (kI G, 10, .inl my)), (q6, .inl (kI G, 10, .inl md)), (q7, .inl (kI G, 10, .inl mr)), (q8, .inl (kI G, 40, .inl dr)), (q9, .inl (kI G, 504, .inl nw)), (q10, .inl (kI G, 64, .inl tk)), (q11, .inl (kI G, 64, .inl cs)), (q12, .inl (kI G, 12, .inl sa)), (q13, .inl (kI G, 8, .inl go)), (q14, .inl (kI G, 2048, .inl to))] (fun v9 w9 => v9 = (some (.int (stX nr nc (swM nr nc nw my md mr n j) av bv))) ∧ ∃ (tk9 : Nat → Int32) (cs9 : Nat → Int32), w9 = [(q0, .inr (10, [.ref q1, .int (nI ty), .ref q2, .ref q3, .ref q4, .ref q5, .ref q6, .ref q7, .ref q8, .int (nI dm), .int (nI at_), .int (zb so), .ref q9, .int (nI de), .int (nI ke), .ref q10, .ref q11, .ref q12, .int (nI sm), .ref q13, .ref q14])), (q1, .inl (kB G, 200, .inl tx)), (q2, .inl (kI G, 2, .inl ro)), (q3, .inl (kI G, 2, .inl co)), (q4, .inl (kI G, 2, .inl mp)), (q5, .inl (kI G, 10, .inl my)), (q6, .inl (kI G, 10, .inl md)), (q7, .inl (kI G, 10, .inl mr)), (q8, .inl (kI G, 40, .inl dr)), (q9, .inl (kI G, 504, .inl nw)), (q10, .inl (kI G, 64, .inl tk9)), (q11, .inl (kI G, 64, .inl cs9)), (q12, .inl (kI G, 12, .inl sa)), (q13, .inl (kI G, 8, .inl go)), (q14, .inl (kI G, 2048, .inl to))]) := by
  refine Ct.ofW (by decide) (Nat.le_of_ble_eq_true rfl) ?_
  intro p e s m below meth c ls A hx hb hml hr hown hts hlk hnm hP hD hA hE hS hl
  obtain ⟨H, eH⟩ : ∃ H : Heap, H = s.heap := ⟨_, rfl⟩
  obtain ⟨locs, eL⟩ : ∃ ll : List Loc, ll = [] := ⟨_, rfl⟩
  rw [← eH] at hP
  have hS : va_S A s.heap H locs := by rw [eH, eL]; exact hS
  show WC p l e _ s m _ below meth c G A _ s.heap [] 0 0 _
  rw [← eH, ← eL]
  clear eH eL
  have hl : lv_has ls 4 [(0, .ref q0), (1, .int (nI j)), (2, .int (nI av)), (3, .int (nI bv))] := hl
  have hcl := cells_le hg1 hg2
  refine lv_aload_n hx hb dX10_sure_0 rfl (lv_at hl 0 rfl) ?_
  refine lv_iload_n hx hb dX10_sure_1 rfl (lv_at hl 1 rfl) ?_
  refine rd_callV (As := [.int (nI j)]) (rest := []) hx hb hml hown hts (hE.at0 hS) hl.1 (c_X10_isMap l G q0 q1 q2 q3 q4 q5 q6 q7 q8 q9 q10 q11 q12 q13 q14 tx ro co mp my md mr dr nw tk cs sa go to ty dm at_ so de ke sm q (nI j) (by first | assumption | omega) (by first | assumption | omega)) (cw_X10_133 hts) ⟨(Nat.le_of_ble_eq_true rfl), (Nat.le_of_ble_eq_true rfl)⟩ ⟨Nat.zero_le _, Nat.zero_le _⟩ rfl (sub_P hP [0, 1, 2, 3, 4, 5, 6, 7, 8, 9, 10, 11, 12, 13, 14] rfl) rfl rfl rfl rfl (Nat.le_of_ble_eq_true rfl) dX10_sure_2 ?_
  refine lv_if_eq (tgt := 38) hx hb dX10_sure_5 (by decide) (fun c5 => ?_) (fun c5 => ?_)
  · have c5 := zb_0.mp c5
    exact absurd c5 (by rw [inB_nI (by omega)]; simp [hj])
  · have c5 := zb_n0.mp c5
    refine lv_aload_n hx hb dX10_sure_8 rfl (lv_at hl 0 rfl) ?_
    refine lv_iload_n hx hb dX10_sure_9 rfl (lv_at hl 2 rfl) ?_
    refine rd_callV (As := [.int (nI av)]) (rest := []) hx hb hml hown hts (hE.at0 hS) hl.1 (c_X10_isCell l G q0 q1 q2 q3 q4 q5 q6 q7 q8 q9 q10 q11 q12 q13 q14 tx ro co mp my md mr dr nw tk cs sa go to ty dm at_ so de ke sm nr nc (nI av) (by first | assumption | omega) (by first | assumption | omega) (by first | assumption | omega) (by first | assumption | omega)) (cw_X10_116 hts) ⟨(Nat.le_of_ble_eq_true rfl), (Nat.le_of_ble_eq_true rfl)⟩ ⟨Nat.zero_le _, Nat.zero_le _⟩ rfl (sub_P hP [0, 1, 2, 3, 4, 5, 6, 7, 8, 9, 10, 11, 12, 13, 14] rfl) rfl rfl rfl rfl (Nat.le_of_ble_eq_true rfl) dX10_sure_10 ?_
    refine lv_if_eq (tgt := 38) hx hb dX10_sure_13 (by decide) (fun c13 => ?_) (fun c13 => ?_)
    · have c13 := zb_0.mp c13
      exact absurd c13 (by rw [inG, inB_nI (by omega)]; simp [hav])
    · have c13 := zb_n0.mp c13
      refine lv_aload_n hx hb dX10_sure_16 rfl (lv_at hl 0 rfl) ?_
      refine lv_iload_n hx hb dX10_sure_17 rfl (lv_at hl 3 rfl) ?_
      refine rd_callV (As := [.int (nI bv)]) (rest := []) hx hb hml hown hts (hE.at0 hS) hl.1 (c_X10_isCell l G q0 q1 q2 q3 q4 q5 q6 q7 q8 q9 q10 q11 q12 q13 q14 tx ro co mp my md mr dr nw tk cs sa go to ty dm at_ so de ke sm nr nc (nI bv) (by first | assumption | omega) (by first | assumption | omega) (by first | assumption | omega) (by first | assumption | omega)) (cw_X10_116 hts) ⟨(Nat.le_of_ble_eq_true rfl), (Nat.le_of_ble_eq_true rfl)⟩ ⟨Nat.zero_le _, Nat.zero_le _⟩ rfl (sub_P hP [0, 1, 2, 3, 4, 5, 6, 7, 8, 9, 10, 11, 12, 13, 14] rfl) rfl rfl rfl rfl (Nat.le_of_ble_eq_true rfl) dX10_sure_18 ?_
      refine lv_if_eq (tgt := 38) hx hb dX10_sure_21 (by decide) (fun c21 => ?_) (fun c21 => ?_)
      · have c21 := zb_0.mp c21
        exact absurd c21 (by rw [inG, inB_nI (by omega)]; simp [hbv])
      · have c21 := zb_n0.mp c21
        refine lv_aload_n hx hb dX10_sure_24 rfl (lv_at hl 0 rfl) ?_
        refine lv_aload_n hx hb dX10_sure_25 rfl (lv_at hl 0 rfl) ?_
        refine lv_iload_n hx hb dX10_sure_26 rfl (lv_at hl 1 rfl) ?_
        refine rd_callV (As := [.int (nI j)]) (rest := [.ref q0]) hx hb hml hown hts (hE.at0 hS) hl.1 (c_X10_shown l G q0 q1 q2 q3 q4 q5 q6 q7 q8 q9 q10 q11 q12 q13 q14 tx ro co mp my md mr dr nw tk cs sa go to ty dm at_ so de ke sm nr nc n j (by first | assumption | omega) (by first | assumption | omega) (by first | assumption | omega) (by first | assumption | omega) (by first | assumption | omega) (by first | assumption | omega) (by first | assumption | omega)) (cw_X10_136 hts) ⟨(Nat.le_of_ble_eq_true rfl), (Nat.le_of_ble_eq_true rfl)⟩ ⟨Nat.zero_le _, Nat.zero_le _⟩ rfl (sub_P hP [0, 1, 2, 3, 4, 5, 6, 7, 8, 9, 10, 11, 12, 13, 14] rfl) rfl rfl rfl rfl (Nat.le_of_ble_eq_true rfl) dX10_sure_27 ?_
        refine lv_iload_n hx hb dX10_sure_30 rfl (lv_at hl 2 rfl) ?_
        refine lv_iload_n hx hb dX10_sure_31 rfl (lv_at hl 3 rfl) ?_
        refine ct_callVx (wr := []) (As := [.long (swM nr nc nw my md mr n j), .int (nI av), .int (nI bv)]) (rest := []) hx hb hml hown hts hE hA hl.1 hP hD hS (c_X10_stepsIn l G q0 q1 q2 q3 q4 q5 q6 q7 q8 q9 q10 q11 q12 q13 q14 tx ro co mp my md mr dr nw tk cs sa go to ty dm at_ so de ke sm nr nc (swM nr nc nw my md mr n j) av bv (by first | assumption | omega) (by first | assumption | omega) (by first | assumption | omega) (by first | assumption | omega) (by first | assumption | omega) (by first | assumption | omega)) (cw_X10_165 hts) ⟨(Nat.le_of_ble_eq_true rfl), (Nat.le_of_ble_eq_true rfl)⟩ ⟨(Nat.le_of_ble_eq_true rfl), (Nat.le_of_ble_eq_true rfl)⟩ rfl [0, 1, 2, 3, 4, 5, 6, 7, 8, 9, 10, 11, 12, 13, 14] [] rfl rfl ⟨by decide, by decide, by decide⟩ rfl rfl rfl rfl (Nat.le_of_ble_eq_true rfl) dX10_sure_32 (fun v9 w9 H locs hpo hP hD hS => ?_)
        obtain ⟨rfl, tk9_32, cs9_32, rfl⟩ := hpo
        have hP := sub_P (wc := [(q0, .inr (10, [.ref q1, .int (nI ty), .ref q2, .ref q3, .ref q4, .ref q5, .ref q6, .ref q7, .ref q8, .int (nI dm), .int (nI at_), .int (zb so), .ref q9, .int (nI de), .int (nI ke), .ref q10, .ref q11, .ref q12, .int (nI sm), .ref q13, .ref q14])), (q1, .inl (kB G, 200, .inl tx)), (q2, .inl (kI G, 2, .inl ro)), (q3, .inl (kI G, 2, .inl co)), (q4, .inl (kI G, 2, .inl mp)), (q5, .inl (kI G, 10, .inl my)), (q6, .inl (kI G, 10, .inl md)), (q7, .inl (kI G, 10, .inl mr)), (q8, .inl (kI G, 40, .inl dr)), (q9, .inl (kI G, 504, .inl nw)), (q10, .inl (kI G, 64, .inl tk9_32)), (q11, .inl (kI G, 64, .inl cs9_32)), (q12, .inl (kI G, 12, .inl sa)), (q13, .inl (kI G, 8, .inl go)), (q14, .inl (kI G, 2048, .inl to))]) hP [0, 1, 2, 3, 4, 5, 6, 7, 8, 9, 10, 11, 12, 13, 14] rfl
        have hD := hD.sub (ws' := [(q0, .inr (10, [.ref q1, .int (nI ty), .ref q2, .ref q3, .ref q4, .ref q5, .ref q6, .ref q7, .ref q8, .int (nI dm), .int (nI at_), .int (zb so), .ref q9, .int (nI de), .int (nI ke), .ref q10, .ref q11, .ref q12, .int (nI sm), .ref q13, .ref q14])), (q1, .inl (kB G, 200, .inl tx)), (q2, .inl (kI G, 2, .inl ro)), (q3, .inl (kI G, 2, .inl co)), (q4, .inl (kI G, 2, .inl mp)), (q5, .inl (kI G, 10, .inl my)), (q6, .inl (kI G, 10, .inl md)), (q7, .inl (kI G, 10, .inl mr)), (q8, .inl (kI G, 40, .inl dr)), (q9, .inl (kI G, 504, .inl nw)), (q10, .inl (kI G, 64, .inl tk9_32)), (q11, .inl (kI G, 64, .inl cs9_32)), (q12, .inl (kI G, 12, .inl sa)), (q13, .inl (kI G, 8, .inl go)), (q14, .inl (kI G, 2048, .inl to))]) [0, 1, 2, 3, 4, 5, 6, 7, 8, 9, 10, 11, 12, 13, 14] (by decide) rfl
        show WC p l e _ s m _ below meth c G A _ H locs 0 0 (F0 m 35 ls [.int (stX nr nc (swM nr nc nw my md mr n j) av bv)])
        refine lv_goto (tgt := 39) hx hb dX10_sure_35 (by decide) ?_
        exact ct_iret hx hb hr hlk dX10_sure_39 hP hD hS (by exact ⟨rfl, _, _, rfl⟩)

set_option maxHeartbeats 4000000 in
set_option maxRecDepth 100000 in
theorem c_X10_sure_n (l : Launch) (G : Gv) (q0 : Nat) (q1 : Nat) (q2 : Nat) (q3 : Nat) (q4 : Nat) (q5 : Nat) (q6 : Nat) (q7 : Nat) (q8 : Nat) (q9 : Nat) (q10 : Nat) (q11 : Nat) (q12 : Nat) (q13 : Nat) (q14 : Nat) (tx : Nat → Int32) (ro : Nat → Int32) (co : Nat → Int32) (mp : Nat → Int32) (my : Nat → Int32) (md : Nat → Int32) (mr : Nat → Int32) (dr : Nat → Int32) (nw : Nat → Int32) (tk : Nat → Int32) (cs : Nat → Int32) (sa : Nat → Int32) (go : Nat → Int32) (to : Nat → Int32) (ty : Nat) (dm : Nat) (at_ : Nat) (so : Bool) (de : Nat) (ke : Nat) (sm : Nat) (nr : Nat) (nc : Nat) (n : Nat) (q : Nat) (t : Int32) (a : Int32) (b : Int32) (hro : ro 0 = nI nr) (hco : co 0 = nI nc) (hg1 : 2 ≤ nr ∧ nr ≤ 8) (hg2 : 2 ≤ nc ∧ nc ≤ 8) (hn1 : nw 1 = nI n) (hn : n ≤ 10) (hmp : mp 0 = nI q) (hq : q ≤ 5) (hno : ¬ (inB t q = true ∧ inG nr nc a = true ∧ inG nr nc b = true)) : Rd l yX10_sure cX10_sure 4 (some .int) (rmz 2 43) G [.ref q0, .int t, .int a, .int b] [(q0, .inr (10, [.ref q1, .int (nI ty), .ref q2, .ref q3, .ref q4, .ref q5, .ref q6, .ref q7, .ref q8, .int (nI dm), .int (nI at_), .int (zb so), .ref q9, .int (nI de), .int (nI ke), .ref q10, .ref q11, .ref q12, .int (nI sm), .ref q13, .ref q14])), (q1, .inl (kB G, 200, .inl tx)), (q2, .inl (kI G, 2, .inl ro)), (q3, .inl (kI G, 2, .inl co)), (q4, .inl (kI G, 2, .inl mp)), (q5, .inl (kI G, 10, .inl my)), (q6, .inl (kI G, 10, .inl md)), (q7, .inl (kI G, 10, .inl mr)), (q8, .inl (kI G, 40, .inl dr)), (q9, .inl (kI G, 504, .inl nw)), (q10, .inl (kI G, 64, .inl tk)), (q11, .inl (kI G, 64, .inl cs)), (q12, .inl (kI G, 12, .inl sa)), (q13, .inl (kI G, 8, .inl go)), (q14, .inl (kI G, 2048, .inl to))] (.int (-1)) := by
  refine Rd.ofW (by decide) (Nat.le_of_ble_eq_true rfl) ?_
  intro p e s m below meth c ls hx hb hml hr hown hts hlk hP hE hl
  have hl : lv_has ls 4 [(0, .ref q0), (1, .int t), (2, .int a), (3, .int b)] := hl
  refine lv_aload_n hx hb dX10_sure_0 rfl (lv_at hl 0 rfl) ?_
  refine lv_iload_n hx hb dX10_sure_1 rfl (lv_at hl 1 rfl) ?_
  refine rd_callV (As := [.int t]) (rest := []) hx hb hml hown hts hE hl.1 (c_X10_isMap l G q0 q1 q2 q3 q4 q5 q6 q7 q8 q9 q10 q11 q12 q13 q14 tx ro co mp my md mr dr nw tk cs sa go to ty dm at_ so de ke sm q t (by first | assumption | omega) (by first | assumption | omega)) (cw_X10_133 hts) ⟨(Nat.le_of_ble_eq_true rfl), (Nat.le_of_ble_eq_true rfl)⟩ ⟨Nat.zero_le _, Nat.zero_le _⟩ rfl (sub_P hP [0, 1, 2, 3, 4, 5, 6, 7, 8, 9, 10, 11, 12, 13, 14] rfl) rfl rfl rfl rfl (Nat.le_of_ble_eq_true rfl) dX10_sure_2 ?_
  refine lv_if_eq (tgt := 38) hx hb dX10_sure_5 (by decide) (fun c5 => ?_) (fun c5 => ?_)
  · have c5 := zb_0.mp c5
    refine lv_iconst (v := -1) hx hb dX10_sure_38 (by decide) ?_
    exact rd_iret hx hb hr hlk dX10_sure_39 (by first | rfl | (simp [zb, c5]; done))
  · have c5 := zb_n0.mp c5
    refine lv_aload_n hx hb dX10_sure_8 rfl (lv_at hl 0 rfl) ?_
    refine lv_iload_n hx hb dX10_sure_9 rfl (lv_at hl 2 rfl) ?_
    refine rd_callV (As := [.int a]) (rest := []) hx hb hml hown hts hE hl.1 (c_X10_isCell l G q0 q1 q2 q3 q4 q5 q6 q7 q8 q9 q10 q11 q12 q13 q14 tx ro co mp my md mr dr nw tk cs sa go to ty dm at_ so de ke sm nr nc a (by first | assumption | omega) (by first | assumption | omega) (by first | assumption | omega) (by first | assumption | omega)) (cw_X10_116 hts) ⟨(Nat.le_of_ble_eq_true rfl), (Nat.le_of_ble_eq_true rfl)⟩ ⟨Nat.zero_le _, Nat.zero_le _⟩ rfl (sub_P hP [0, 1, 2, 3, 4, 5, 6, 7, 8, 9, 10, 11, 12, 13, 14] rfl) rfl rfl rfl rfl (Nat.le_of_ble_eq_true rfl) dX10_sure_10 ?_
    refine lv_if_eq (tgt := 38) hx hb dX10_sure_13 (by decide) (fun c13 => ?_) (fun c13 => ?_)
    · have c13 := zb_0.mp c13
      refine lv_iconst (v := -1) hx hb dX10_sure_38 (by decide) ?_
      exact rd_iret hx hb hr hlk dX10_sure_39 (by first | rfl | (simp [zb, c5, c13]; done))
    · have c13 := zb_n0.mp c13
      refine lv_aload_n hx hb dX10_sure_16 rfl (lv_at hl 0 rfl) ?_
      refine lv_iload_n hx hb dX10_sure_17 rfl (lv_at hl 3 rfl) ?_
      refine rd_callV (As := [.int b]) (rest := []) hx hb hml hown hts hE hl.1 (c_X10_isCell l G q0 q1 q2 q3 q4 q5 q6 q7 q8 q9 q10 q11 q12 q13 q14 tx ro co mp my md mr dr nw tk cs sa go to ty dm at_ so de ke sm nr nc b (by first | assumption | omega) (by first | assumption | omega) (by first | assumption | omega) (by first | assumption | omega)) (cw_X10_116 hts) ⟨(Nat.le_of_ble_eq_true rfl), (Nat.le_of_ble_eq_true rfl)⟩ ⟨Nat.zero_le _, Nat.zero_le _⟩ rfl (sub_P hP [0, 1, 2, 3, 4, 5, 6, 7, 8, 9, 10, 11, 12, 13, 14] rfl) rfl rfl rfl rfl (Nat.le_of_ble_eq_true rfl) dX10_sure_18 ?_
      refine lv_if_eq (tgt := 38) hx hb dX10_sure_21 (by decide) (fun c21 => ?_) (fun c21 => ?_)
      · have c21 := zb_0.mp c21
        refine lv_iconst (v := -1) hx hb dX10_sure_38 (by decide) ?_
        exact rd_iret hx hb hr hlk dX10_sure_39 (by first | rfl | (simp [zb, c5, c13, c21]; done))
      · have c21 := zb_n0.mp c21
        exact absurd ⟨c5, c13, c21⟩ hno

set_option maxHeartbeats 4000000 in
set_option maxRecDepth 100000 in
theorem c_X10_pulled (l : Launch) (G : Gv) (q0 : Nat) (q1 : Nat) (q2 : Nat) (q3 : Nat) (q4 : Nat) (q5 : Nat) (q6 : Nat) (q7 : Nat) (q8 : Nat) (q9 : Nat) (q10 : Nat) (q11 : Nat) (q12 : Nat) (q13 : Nat) (q14 : Nat) (tx : Nat → Int32) (ro : Nat → Int32) (co : Nat → Int32) (mp : Nat → Int32) (my : Nat → Int32) (md : Nat → Int32) (mr : Nat → Int32) (dr : Nat → Int32) (nw : Nat → Int32) (tk : Nat → Int32) (cs : Nat → Int32) (sa : Nat → Int32) (go : Nat → Int32) (to : Nat → Int32) (ty : Nat) (dm : Nat) (at_ : Nat) (so : Bool) (de : Nat) (ke : Nat) (sm : Nat) (nr : Nat) (nc : Nat) (n : Nat) (av : Nat) (bv : Nat) (hro : ro 0 = nI nr) (hco : co 0 = nI nc) (hg1 : 2 ≤ nr ∧ nr ≤ 8) (hg2 : 2 ≤ nc ∧ nc ≤ 8) (hn1 : nw 1 = nI n) (hn : n ≤ 10) (hav : av < nr * nc) (hbv : bv < nr * nc) : Ct l yX10_pulled cX10_pulled 6 (some .int) (rmz 3 71) G [.ref q0, .int (nI av), .int (nI bv)] [(q0, .inr (10, [.ref q1, .int (nI ty), .ref q2, .ref q3, .ref q4, .ref q5, .ref q6, .ref q7, .ref q8, .int (nI dm), .int (nI at_), .int (zb so), .ref q9, .int (nI de), .int (nI ke), .ref q10, .ref q11, .ref q12, .int (nI sm), .ref q13, .ref q14])), (q1, .inl (kB G, 200, .inl tx)), (q2, .inl (kI G, 2, .inl ro)), (q3, .inl (kI G, 2, .inl co)), (q4, .inl (kI G, 2, .inl mp)), (q5, .inl (kI G, 10, .inl my)), (q6, .inl (kI G, 10, .inl md)), (q7, .inl (kI G, 10, .inl mr)), (q8, .inl (kI G, 40, .inl dr)), (q9, .inl (kI G, 504, .inl nw)), (q10, .inl (kI G, 64, .inl tk)), (q11, .inl (kI G, 64, .inl cs)), (q12, .inl (kI G, 12, .inl sa)), (q13, .inl (kI G, 8, .inl go)), (q14, .inl (kI G, 2048, .inl to))] (fun v9 w9 => v9 = (some (.int (fnX nr nc (bi1 (stC (cel nw 0) (sta nw 0) (fal nw 0) (nw 0) n)) bv av + bi1 (stC (cel nw 0) (sta nw 0) (fal nw 0) (nw 0) n) av))) ∧ ∃ (tk9 : Nat → Int32) (cs9 : Nat → Int32), w9 = [(q0, .inr (10, [.ref q1, .int (nI ty), .ref q2, .ref q3, .ref q4, .ref q5, .ref q6, .ref q7, .ref q8, .int (nI dm), .int (nI at_), .int (zb so), .ref q9, .int (nI de), .int (nI ke), .ref q10, .ref q11, .ref q12, .int (nI sm), .ref q13, .ref q14])), (q1, .inl (kB G, 200, .inl tx)), (q2, .inl (kI G, 2, .inl ro)), (q3, .inl (kI G, 2, .inl co)), (q4, .inl (kI G, 2, .inl mp)), (q5, .inl (kI G, 10, .inl my)), (q6, .inl (kI G, 10, .inl md)), (q7, .inl (kI G, 10, .inl mr)), (q8, .inl (kI G, 40, .inl dr)), (q9, .inl (kI G, 504, .inl nw)), (q10, .inl (kI G, 64, .inl tk9)), (q11, .inl (kI G, 64, .inl cs9)), (q12, .inl (kI G, 12, .inl sa)), (q13, .inl (kI G, 8, .inl go)), (q14, .inl (kI G, 2048, .inl to))]) := by
  refine Ct.ofW (by decide) (Nat.le_of_ble_eq_true rfl) ?_
  intro p e s m below meth c ls A hx hb hml hr hown hts hlk hnm hP hD hA hE hS hl
  obtain ⟨H, eH⟩ : ∃ H : Heap, H = s.heap := ⟨_, rfl⟩
  obtain ⟨locs, eL⟩ : ∃ ll : List Loc, ll = [] := ⟨_, rfl⟩
  rw [← eH] at hP
  have hS : va_S A s.heap H locs := by rw [eH, eL]; exact hS
  show WC p l e _ s m _ below meth c G A _ s.heap [] 0 0 _
  rw [← eH, ← eL]
  clear eH eL
  have hl : lv_has ls 6 [(0, .ref q0), (1, .int (nI av)), (2, .int (nI bv))] := hl
  have hcl := cells_le hg1 hg2
  have J_15 : ∀ (n_ : Nat) (k : Nat) (c1 : Nat → Int32) (hk : k ≤ nr * nc) (ha : c1 = csB (stC (cel nw 0) (sta nw 0) (fal nw 0) (nw 0) n) cs k) (hm_15 : nr * nc - k < n_), ∀ (H : Heap) (locs : List Loc), va_P G.1 vwCl [(q0, .inr (10, [.ref q1, .int (nI ty), .ref q2, .ref q3, .ref q4, .ref q5, .ref q6, .ref q7, .ref q8, .int (nI dm), .int (nI at_), .int (zb so), .ref q9, .int (nI de), .int (nI ke), .ref q10, .ref q11, .ref q12, .int (nI sm), .ref q13, .ref q14])), (q1, .inl (kB G, 200, .inl tx)), (q2, .inl (kI G, 2, .inl ro)), (q3, .inl (kI G, 2, .inl co)), (q4, .inl (kI G, 2, .inl mp)), (q5, .inl (kI G, 10, .inl my)), (q6, .inl (kI G, 10, .inl md)), (q7, .inl (kI G, 10, .inl mr)), (q8, .inl (kI G, 40, .inl dr)), (q9, .inl (kI G, 504, .inl nw)), (q10, .inl (kI G, 64, .inl tk)), (q11, .inl (kI G, 64, .inl c1)), (q12, .inl (kI G, 12, .inl sa)), (q13, .inl (kI G, 8, .inl go)), (q14, .inl (kI G, 2048, .inl to))] H → va_D A [(q0, .inr (10, [.ref q1, .int (nI ty), .ref q2, .ref q3, .ref q4, .ref q5, .ref q6, .ref q7, .ref q8, .int (nI dm), .int (nI at_), .int (zb so), .ref q9, .int (nI de), .int (nI ke), .ref q10, .ref q11, .ref q12, .int (nI sm), .ref q13, .ref q14])), (q1, .inl (kB G, 200, .inl tx)), (q2, .inl (kI G, 2, .inl ro)), (q3, .inl (kI G, 2, .inl co)), (q4, .inl (kI G, 2, .inl mp)), (q5, .inl (kI G, 10, .inl my)), (q6, .inl (kI G, 10, .inl md)), (q7, .inl (kI G, 10, .inl mr)), (q8, .inl (kI G, 40, .inl dr)), (q9, .inl (kI G, 504, .inl nw)), (q10, .inl (kI G, 64, .inl tk)), (q11, .inl (kI G, 64, .inl c1)), (q12, .inl (kI G, 12, .inl sa)), (q13, .inl (kI G, 8, .inl go)), (q14, .inl (kI G, 2048, .inl to))] → va_S A s.heap H locs → ∀ ls : Array Slot, lv_has ls 6 [(0, .ref q0), (1, .int (nI av)), (2, .int (nI bv)), (3, .long (stC (cel nw 0) (sta nw 0) (fal nw 0) (nw 0) n)), (5, .int (nI k))] → WC p l e (rmz 3 71) s m [.ref q0, .int (nI av), .int (nI bv)] below meth c G A (fun v9 w9 => v9 = (some (.int (fnX nr nc (bi1 (stC (cel nw 0) (sta nw 0) (fal nw 0) (nw 0) n)) bv av + bi1 (stC (cel nw 0) (sta nw 0) (fal nw 0) (nw 0) n) av))) ∧ ∃ (tk9 : Nat → Int32) (cs9 : Nat → Int32), w9 = [(q0, .inr (10, [.ref q1, .int (nI ty), .ref q2, .ref q3, .ref q4, .ref q5, .ref q6, .ref q7, .ref q8, .int (nI dm), .int (nI at_), .int (zb so), .ref q9, .int (nI de), .int (nI ke), .ref q10, .ref q11, .ref q12, .int (nI sm), .ref q13, .ref q14])), (q1, .inl (kB G, 200, .inl tx)), (q2, .inl (kI G, 2, .inl ro)), (q3, .inl (kI G, 2, .inl co)), (q4, .inl (kI G, 2, .inl mp)), (q5, .inl (kI G, 10, .inl my)), (q6, .inl (kI G, 10, .inl md)), (q7, .inl (kI G, 10, .inl mr)), (q8, .inl (kI G, 40, .inl dr)), (q9, .inl (kI G, 504, .inl nw)), (q10, .inl (kI G, 64, .inl tk9)), (q11, .inl (kI G, 64, .inl cs9)), (q12, .inl (kI G, 12, .inl sa)), (q13, .inl (kI G, 8, .inl go)), (q14, .inl (kI G, 2048, .inl to))]) H locs 0 0 (F0 m 15 ls []) := by
    intro n_
    induction n_ with
    | zero =>
      intro k c1 hk ha hm_15
      exact absurd hm_15 (Nat.not_lt_zero _)
    | succ n_ ih_15 =>
      intro k c1 hk ha hm_15 H locs hP hD hS ls hl
      refine lv_iload hx hb dX10_pulled_15 (lv_at hl 4 rfl) ?_
      refine lv_aload_n hx hb dX10_pulled_17 rfl (lv_at hl 0 rfl) ?_
      refine lv_iconst (v := 0) hx hb dX10_pulled_18 (by decide) ?_
      refine rd_callV (As := [.int 0]) (rest := [.int (nI k)]) hx hb hml hown hts (hE.at0 hS) hl.1 (c_X10_cells l G q0 q1 q2 q3 q4 q5 q6 q7 q8 q9 q10 q11 q12 q13 q14 tx ro co mp my md mr dr nw tk c1 sa go to ty dm at_ so de ke sm nr nc (by first | assumption | omega) (by first | assumption | omega) (by first | assumption | omega) (by first | assumption | omega)) (cw_X10_87 hts) ⟨(Nat.le_of_ble_eq_true rfl), (Nat.le_of_ble_eq_true rfl)⟩ ⟨Nat.zero_le _, Nat.zero_le _⟩ rfl (sub_P hP [0, 1, 2, 3, 4, 5, 6, 7, 8, 9, 10, 11, 12, 13, 14] rfl) rfl rfl rfl rfl (Nat.le_of_ble_eq_true rfl) dX10_pulled_19 ?_
      refine lv_icmp_ge (tgt := 45) hx hb dX10_pulled_22 (by decide) (fun c22 => ?_) (fun c22 => ?_)
      · have hkn : nr * nc ≤ k := le_of_le (by omega) (by omega) c22
        have ha9 : c1 = csB (stC (cel nw 0) (sta nw 0) (fal nw 0) (nw 0) n) cs (nr * nc) := by rw [ha, show k = nr * nc by omega]
        refine lv_aload_n hx hb dX10_pulled_45 rfl (lv_at hl 0 rfl) ?_
        refine lv_iload_n hx hb dX10_pulled_46 rfl (lv_at hl 2 rfl) ?_
        refine ct_callV (w1 := [(q0, .inr (10, [.ref q1, .int (nI ty), .ref q2, .ref q3, .ref q4, .ref q5, .ref q6, .ref q7, .ref q8, .int (nI dm), .int (nI at_), .int (zb so), .ref q9, .int (nI de), .int (nI ke), .ref q10, .ref q11, .ref q12, .int (nI sm), .ref q13, .ref q14])), (q1, .inl (kB G, 200, .inl tx)), (q2, .inl (kI G, 2, .inl ro)), (q3, .inl (kI G, 2, .inl co)), (q4, .inl (kI G, 2, .inl mp)), (q5, .inl (kI G, 10, .inl my)), (q6, .inl (kI G, 10, .inl md)), (q7, .inl (kI G, 10, .inl mr)), (q8, .inl (kI G, 40, .inl dr)), (q9, .inl (kI G, 504, .inl nw)), (q10, .inl (kI G, 64, .inl (fnL c1 nr nc fuF (fiI tk (nI bv) (nr * nc))))), (q11, .inl (kI G, 64, .inl c1)), (q12, .inl (kI G, 12, .inl sa)), (q13, .inl (kI G, 8, .inl go)), (q14, .inl (kI G, 2048, .inl to))]) (wr := []) (wn := [(q0, .inr (10, [.ref q1, .int (nI ty), .ref q2, .ref q3, .ref q4, .ref q5, .ref q6, .ref q7, .ref q8, .int (nI dm), .int (nI at_), .int (zb so), .ref q9, .int (nI de), .int (nI ke), .ref q10, .ref q11, .ref q12, .int (nI sm), .ref q13, .ref q14])), (q1, .inl (kB G, 200, .inl tx)), (q2, .inl (kI G, 2, .inl ro)), (q3, .inl (kI G, 2, .inl co)), (q4, .inl (kI G, 2, .inl mp)), (q5, .inl (kI G, 10, .inl my)), (q6, .inl (kI G, 10, .inl md)), (q7, .inl (kI G, 10, .inl mr)), (q8, .inl (kI G, 40, .inl dr)), (q9, .inl (kI G, 504, .inl nw)), (q10, .inl (kI G, 64, .inl (fnL c1 nr nc fuF (fiI tk (nI bv) (nr * nc))))), (q11, .inl (kI G, 64, .inl c1)), (q12, .inl (kI G, 12, .inl sa)), (q13, .inl (kI G, 8, .inl go)), (q14, .inl (kI G, 2048, .inl to))]) (As := [.int (nI bv)]) (rest := []) hx hb hml hown hts hE hA hl.1 hP hD hS (c_X10_findTo l G q0 q1 q2 q3 q4 q5 q6 q7 q8 q9 q10 q11 q12 q13 q14 tx ro co mp my md mr dr nw tk c1 sa go to ty dm at_ so de ke sm nr nc (nI bv) (by first | assumption | omega) (by first | assumption | omega) (by first | assumption | omega) (by first | assumption | omega) (by rw [ha9]; exact csB_nn _ _ _)) (cw_X10_159 hts) ⟨(Nat.le_of_ble_eq_true rfl), (Nat.le_of_ble_eq_true rfl)⟩ ⟨(Nat.le_of_ble_eq_true rfl), (Nat.le_of_ble_eq_true rfl)⟩ rfl [0, 1, 2, 3, 4, 5, 6, 7, 8, 9, 10, 11, 12, 13, 14] [] [0, 1, 2, 3, 4, 5, 6, 7, 8, 9, 10, 11, 12, 13, 14] rfl rfl ⟨by decide, by decide, by decide, by decide⟩ rfl rfl rfl rfl rfl (Nat.le_of_ble_eq_true rfl) dX10_pulled_47 (fun H locs hP hD hS => ?_)
        show WC p l e _ s m _ below meth c G A _ H locs 0 0 (F0 m 50 ls [])
        refine lv_aload_n hx hb dX10_pulled_50 rfl (lv_at hl 0 rfl) ?_
        refine va_get hx hb hts inlX10 hown hE.1 hP 0 rfl rfl 15 (by decide) (fl_X10_38 hts) (fun _ h9 => h9) rfl dX10_pulled_51 ?_
        refine lv_iload_n hx hb dX10_pulled_54 rfl (lv_at hl 1 rfl) ?_
        refine va_iald hx hb hE.1 hP 10 0 rfl rfl (vp_in_nI (by omega) (by omega)) dX10_pulled_55 ?_
        rw [show ((fnL c1 nr nc fuF (fiI tk (nI bv) (nr * nc))) (nI av).toNatClampNeg) = fnX nr nc (bi1 (stC (cel nw 0) (sta nw 0) (fal nw 0) (nw 0) n)) bv av from by rw [nI_clamp (by omega)]; exact fnL_of hg1 hg2 (fun i hi => by rw [ha9]; exact csB_in _ _ _ i hi) tk bv hav]
        refine lv_aload_n hx hb dX10_pulled_56 rfl (lv_at hl 0 rfl) ?_
        refine va_get hx hb hts inlX10 hown hE.1 hP 0 rfl rfl 16 (by decide) (fl_X10_41 hts) (fun _ h9 => h9) rfl dX10_pulled_57 ?_
        refine lv_iload_n hx hb dX10_pulled_60 rfl (lv_at hl 1 rfl) ?_
        refine va_iald hx hb hE.1 hP 11 0 rfl rfl (vp_in_nI (by omega) (by omega)) dX10_pulled_61 ?_
        rw [show (c1 (nI av).toNatClampNeg) = bi1 (stC (cel nw 0) (sta nw 0) (fal nw 0) (nw 0) n) av from by rw [nI_clamp (by omega), ha9]; exact csB_in _ _ _ av hav]
        refine lv_iadd hx hb dX10_pulled_62 ?_
        exact ct_iret hx hb hr hlk dX10_pulled_63 hP hD hS (by exact ⟨rfl, _, _, rfl⟩)
      · have hkn : k < nr * nc := lt_of_nle (by omega) (by omega) c22
        refine lv_aload_n hx hb dX10_pulled_25 rfl (lv_at hl 0 rfl) ?_
        refine va_get hx hb hts inlX10 hown hE.1 hP 0 rfl rfl 16 (by decide) (fl_X10_41 hts) (fun _ h9 => h9) rfl dX10_pulled_26 ?_
        refine lv_iload hx hb dX10_pulled_29 (lv_at hl 4 rfl) ?_
        refine lv_lload_n hx hb dX10_pulled_31 rfl (lv_at hl 3 rfl) ?_
        refine lv_iload hx hb dX10_pulled_32 (lv_at hl 4 rfl) ?_
        refine lv_lshr hx hb dX10_pulled_34 rfl ?_
        refine lv_lconst (v := 1) hx hb dX10_pulled_35 (by decide) ?_
        refine lv_land hx hb dX10_pulled_36 ?_
        refine lv_l2i hx hb dX10_pulled_37 rfl ?_
        refine va_iast hx hb hE.1 hP hD hS 11 0 rfl rfl (vp_in_nI (by omega) (by omega)) dX10_pulled_38 (fun H locs hP hD hS => ?_)
        rw [nI_clamp (show k < 2 ^ 31 by omega)] at hP hD
        have hP : va_P G.1 vwCl [(q0, .inr (10, [.ref q1, .int (nI ty), .ref q2, .ref q3, .ref q4, .ref q5, .ref q6, .ref q7, .ref q8, .int (nI dm), .int (nI at_), .int (zb so), .ref q9, .int (nI de), .int (nI ke), .ref q10, .ref q11, .ref q12, .int (nI sm), .ref q13, .ref q14])), (q1, .inl (kB G, 200, .inl tx)), (q2, .inl (kI G, 2, .inl ro)), (q3, .inl (kI G, 2, .inl co)), (q4, .inl (kI G, 2, .inl mp)), (q5, .inl (kI G, 10, .inl my)), (q6, .inl (kI G, 10, .inl md)), (q7, .inl (kI G, 10, .inl mr)), (q8, .inl (kI G, 40, .inl dr)), (q9, .inl (kI G, 504, .inl nw)), (q10, .inl (kI G, 64, .inl tk)), (q11, .inl (kI G, 64, .inl (upd c1 k ((((stC (cel nw 0) (sta nw 0) (fal nw 0) (nw 0) n) >>> ((nI k).toInt64 &&& 63)) &&& 1).toInt32)))), (q12, .inl (kI G, 12, .inl sa)), (q13, .inl (kI G, 8, .inl go)), (q14, .inl (kI G, 2048, .inl to))] H := hP
        have hD : va_D A [(q0, .inr (10, [.ref q1, .int (nI ty), .ref q2, .ref q3, .ref q4, .ref q5, .ref q6, .ref q7, .ref q8, .int (nI dm), .int (nI at_), .int (zb so), .ref q9, .int (nI de), .int (nI ke), .ref q10, .ref q11, .ref q12, .int (nI sm), .ref q13, .ref q14])), (q1, .inl (kB G, 200, .inl tx)), (q2, .inl (kI G, 2, .inl ro)), (q3, .inl (kI G, 2, .inl co)), (q4, .inl (kI G, 2, .inl mp)), (q5, .inl (kI G, 10, .inl my)), (q6, .inl (kI G, 10, .inl md)), (q7, .inl (kI G, 10, .inl mr)), (q8, .inl (kI G, 40, .inl dr)), (q9, .inl (kI G, 504, .inl nw)), (q10, .inl (kI G, 64, .inl tk)), (q11, .inl (kI G, 64, .inl (upd c1 k ((((stC (cel nw 0) (sta nw 0) (fal nw 0) (nw 0) n) >>> ((nI k).toInt64 &&& 63)) &&& 1).toInt32)))), (q12, .inl (kI G, 12, .inl sa)), (q13, .inl (kI G, 8, .inl go)), (q14, .inl (kI G, 2048, .inl to))] := hD
        refine lv_iinc (v := nI (k + 1)) (lv' := [(5, .int (nI (k + 1))), (0, .ref q0), (1, .int (nI av)), (2, .int (nI bv)), (3, .long (stC (cel nw 0) (sta nw 0) (fal nw 0) (nw 0) n))]) hx hb dX10_pulled_39 hl (k := 4) rfl (nI_1 k) (by decide) rfl (fun ls hl => ?_)
        refine lv_goto (tgt := 15) hx hb dX10_pulled_42 (by decide) ?_
        have ha0 := ha
        rw [csB] at ha0
        exact ih_15 (k + 1) (upd c1 k ((((stC (cel nw 0) (sta nw 0) (fal nw 0) (nw 0) n) >>> ((nI k).toInt64 &&& 63)) &&& 1).toInt32)) (by first | assumption | omega | rfl) (by rw [csB, it_s]; simp only [← ha0]; rfl) (by omega) _ _ hP hD hS ls (lv_sub hl [1, 2, 3, 4, 0] rfl)
  refine lv_aload_n hx hb dX10_pulled_0 rfl (lv_at hl 0 rfl) ?_
  refine lv_iconst (v := 0) hx hb dX10_pulled_1 (by decide) ?_
  refine lv_aload_n hx hb dX10_pulled_2 rfl (lv_at hl 0 rfl) ?_
  refine va_get hx hb hts inlX10 hown hE.1 hP 0 rfl rfl 12 (by decide) (fl_X10_35 hts) (fun _ h9 => h9) rfl dX10_pulled_3 ?_
  refine lv_iconst (v := 0) hx hb dX10_pulled_6 (by decide) ?_
  refine va_iald hx hb hE.1 hP 9 0 rfl rfl (inB_iff.mp (by decide)) dX10_pulled_7 ?_
  rw [show (0 : Int32).toNatClampNeg = 0 from rfl]
  refine rd_callV (As := [.int 0, .int (nw 0)]) (rest := []) hx hb hml hown hts (hE.at0 hS) hl.1 (c_X10_taken l G q0 q1 q2 q3 q4 q5 q6 q7 q8 q9 q10 q11 q12 q13 q14 tx ro co mp my md mr dr nw tk cs sa go to ty dm at_ so de ke sm 0 n (nw 0) (by decide) (by first | assumption | omega) (by first | assumption | omega)) (cw_X10_122 hts) ⟨(Nat.le_of_ble_eq_true rfl), (Nat.le_of_ble_eq_true rfl)⟩ ⟨Nat.zero_le _, Nat.zero_le _⟩ rfl (sub_P hP [0, 1, 2, 3, 4, 5, 6, 7, 8, 9, 10, 11, 12, 13, 14] rfl) rfl rfl rfl rfl (Nat.le_of_ble_eq_true rfl) dX10_pulled_8 ?_
  refine lv_lstore_n (lv' := [(3, .long (stC (cel nw 0) (sta nw 0) (fal nw 0) (nw 0) n)), (0, .ref q0), (1, .int (nI av)), (2, .int (nI bv))]) hx hb dX10_pulled_11 rfl hl (by decide) rfl (fun ls hl => ?_)
  refine lv_iconst (v := 0) hx hb dX10_pulled_12 (by decide) ?_
  refine lv_istore (lv' := [(5, .int 0), (3, .long (stC (cel nw 0) (sta nw 0) (fal nw 0) (nw 0) n)), (0, .ref q0), (1, .int (nI av)), (2, .int (nI bv))]) hx hb dX10_pulled_13 hl (by decide) rfl (fun ls hl => ?_)
  exact J_15 (nr * nc - 0 + 1) 0 cs (by first | assumption | omega | rfl) rfl (Nat.lt_succ_self _) _ _ hP hD hS ls (lv_sub hl [2, 3, 4, 1, 0] rfl)

set_option maxHeartbeats 4000000 in
set_option maxRecDepth 100000 in
theorem c_X10_friends (l : Launch) (G : Gv) (q0 : Nat) (q1 : Nat) (q2 : Nat) (q3 : Nat) (q4 : Nat) (q5 : Nat) (q6 : Nat) (q7 : Nat) (q8 : Nat) (q9 : Nat) (q10 : Nat) (q11 : Nat) (q12 : Nat) (q13 : Nat) (q14 : Nat) (tx : Nat → Int32) (ro : Nat → Int32) (co : Nat → Int32) (mp : Nat → Int32) (my : Nat → Int32) (md : Nat → Int32) (mr : Nat → Int32) (dr : Nat → Int32) (nw : Nat → Int32) (tk : Nat → Int32) (cs : Nat → Int32) (sa : Nat → Int32) (go : Nat → Int32) (to : Nat → Int32) (ty : Nat) (dm : Nat) (at_ : Nat) (so : Bool) (de : Nat) (ke : Nat) (sm : Nat) (nr : Nat) (nc : Nat) (n : Nat) (av : Nat) (bv : Nat) (hro : ro 0 = nI nr) (hco : co 0 = nI nc) (hg1 : 2 ≤ nr ∧ nr ≤ 8) (hg2 : 2 ≤ nc ∧ nc ≤ 8) (hn1 : nw 1 = nI n) (hn : n ≤ 10) (hav : av < nr * nc) (hbv : bv < nr * nc) : Ct l yX10_friends cX10_friends 7 (some .int) (rmz 4 96) G [.ref q0, .int (nI av), .int (nI bv)] [(q0, .inr (10, [.ref q1, .int (nI ty), .ref q2, .ref q3, .ref q4, .ref q5, .ref q6, .ref q7, .ref q8, .int (nI dm), .int (nI at_), .int (zb so), .ref q9, .int (nI de), .int (nI ke), .ref q10, .ref q11, .ref q12, .int (nI sm), .ref q13, .ref q14])), (q1, .inl (kB G, 200, .inl tx)), (q2, .inl (kI G, 2, .inl ro)), (q3, .inl (kI G, 2, .inl co)), (q4, .inl (kI G, 2, .inl mp)), (q5, .inl (kI G, 10, .inl my)), (q6, .inl (kI G, 10, .inl md)), (q7, .inl (kI G, 10, .inl mr)), (q8, .inl (kI G, 40, .inl dr)), (q9, .inl (kI G, 504, .inl nw)), (q10, .inl (kI G, 64, .inl tk)), (q11, .inl (kI G, 64, .inl cs)), (q12, .inl (kI G, 12, .inl sa)), (q13, .inl (kI G, 8, .inl go)), (q14, .inl (kI G, 2048, .inl to))] (fun v9 w9 => v9 = (some (.int ((frA nr nc nw n av bv (2 ^ n)).2))) ∧ ∃ (tk9 : Nat → Int32) (cs9 : Nat → Int32), w9 = [(q0, .inr (10, [.ref q1, .int (nI ty), .ref q2, .ref q3, .ref q4, .ref q5, .ref q6, .ref q7, .ref q8, .int (nI dm), .int (nI at_), .int (zb so), .ref q9, .int (nI de), .int (nI ke), .ref q10, .ref q11, .ref q12, .int (nI sm), .ref q13, .ref q14])), (q1, .inl (kB G, 200, .inl tx)), (q2, .inl (kI G, 2, .inl ro)), (q3, .inl (kI G, 2, .inl co)), (q4, .inl (kI G, 2, .inl mp)), (q5, .inl (kI G, 10, .inl my)), (q6, .inl (kI G, 10, .inl md)), (q7, .inl (kI G, 10, .inl mr)), (q8, .inl (kI G, 40, .inl dr)), (q9, .inl (kI G, 504, .inl ((frA nr nc nw n av bv (2 ^ n)).1))), (q10, .inl (kI G, 64, .inl tk9)), (q11, .inl (kI G, 64, .inl cs9)), (q12, .inl (kI G, 12, .inl sa)), (q13, .inl (kI G, 8, .inl go)), (q14, .inl (kI G, 2048, .inl to))]) := by
  refine Ct.ofW (by decide) (Nat.le_of_ble_eq_true rfl) ?_
  intro p e s m below meth c ls A hx hb hml hr hown hts hlk hnm hP hD hA hE hS hl
  obtain ⟨H, eH⟩ : ∃ H : Heap, H = s.heap := ⟨_, rfl⟩
  obtain ⟨locs, eL⟩ : ∃ ll : List Loc, ll = [] := ⟨_, rfl⟩
  rw [← eH] at hP
  have hS : va_S A s.heap H locs := by rw [eH, eL]; exact hS
  show WC p l e _ s m _ below meth c G A _ s.heap [] 0 0 _
  rw [← eH, ← eL]
  clear eH eL
  have hl : lv_has ls 7 [(0, .ref q0), (1, .int (nI av)), (2, .int (nI bv))] := hl
  have hcl := cells_le hg1 hg2
  have hp2 := p2_le10 hn
  have J_6 : ∀ (n_ : Nat) (st : Nat) (N1 : Nat → Int32) (fw : Int32) (t1 : Nat → Int32) (c1 : Nat → Int32) (hst : st ≤ 2 ^ n) (hN : N1 1 = nI n) (hF : (N1, fw) = frA nr nc nw n av bv st) (hm_6 : 2 ^ n - st < n_), ∀ (H : Heap) (locs : List Loc), va_P G.1 vwCl [(q0, .inr (10, [.ref q1, .int (nI ty), .ref q2, .ref q3, .ref q4, .ref q5, .ref q6, .ref q7, .ref q8, .int (nI dm), .int (nI at_), .int (zb so), .ref q9, .int (nI de), .int (nI ke), .ref q10, .ref q11, .ref q12, .int (nI sm), .ref q13, .ref q14])), (q1, .inl (kB G, 200, .inl tx)), (q2, .inl (kI G, 2, .inl ro)), (q3, .inl (kI G, 2, .inl co)), (q4, .inl (kI G, 2, .inl mp)), (q5, .inl (kI G, 10, .inl my)), (q6, .inl (kI G, 10, .inl md)), (q7, .inl (kI G, 10, .inl mr)), (q8, .inl (kI G, 40, .inl dr)), (q9, .inl (kI G, 504, .inl N1)), (q10, .inl (kI G, 64, .inl t1)), (q11, .inl (kI G, 64, .inl c1)), (q12, .inl (kI G, 12, .inl sa)), (q13, .inl (kI G, 8, .inl go)), (q14, .inl (kI G, 2048, .inl to))] H → va_D A [(q0, .inr (10, [.ref q1, .int (nI ty), .ref q2, .ref q3, .ref q4, .ref q5, .ref q6, .ref q7, .ref q8, .int (nI dm), .int (nI at_), .int (zb so), .ref q9, .int (nI de), .int (nI ke), .ref q10, .ref q11, .ref q12, .int (nI sm), .ref q13, .ref q14])), (q1, .inl (kB G, 200, .inl tx)), (q2, .inl (kI G, 2, .inl ro)), (q3, .inl (kI G, 2, .inl co)), (q4, .inl (kI G, 2, .inl mp)), (q5, .inl (kI G, 10, .inl my)), (q6, .inl (kI G, 10, .inl md)), (q7, .inl (kI G, 10, .inl mr)), (q8, .inl (kI G, 40, .inl dr)), (q9, .inl (kI G, 504, .inl N1)), (q10, .inl (kI G, 64, .inl t1)), (q11, .inl (kI G, 64, .inl c1)), (q12, .inl (kI G, 12, .inl sa)), (q13, .inl (kI G, 8, .inl go)), (q14, .inl (kI G, 2048, .inl to))] → va_S A s.heap H locs → ∀ ls : Array Slot, lv_has ls 7 [(0, .ref q0), (1, .int (nI av)), (2, .int (nI bv)), (3, .int fw), (4, .int (nI st))] → WC p l e (rmz 4 96) s m [.ref q0, .int (nI av), .int (nI bv)] below meth c G A (fun v9 w9 => v9 = (some (.int ((frA nr nc nw n av bv (2 ^ n)).2))) ∧ ∃ (tk9 : Nat → Int32) (cs9 : Nat → Int32), w9 = [(q0, .inr (10, [.ref q1, .int (nI ty), .ref q2, .ref q3, .ref q4, .ref q5, .ref q6, .ref q7, .ref q8, .int (nI dm), .int (nI at_), .int (zb so), .ref q9, .int (nI de), .int (nI ke), .ref q10, .ref q11, .ref q12, .int (nI sm), .ref q13, .ref q14])), (q1, .inl (kB G, 200, .inl tx)), (q2, .inl (kI G, 2, .inl ro)), (q3, .inl (kI G, 2, .inl co)), (q4, .inl (kI G, 2, .inl mp)), (q5, .inl (kI G, 10, .inl my)), (q6, .inl (kI G, 10, .inl md)), (q7, .inl (kI G, 10, .inl mr)), (q8, .inl (kI G, 40, .inl dr)), (q9, .inl (kI G, 504, .inl ((frA nr nc nw n av bv (2 ^ n)).1))), (q10, .inl (kI G, 64, .inl tk9)), (q11, .inl (kI G, 64, .inl cs9)), (q12, .inl (kI G, 12, .inl sa)), (q13, .inl (kI G, 8, .inl go)), (q14, .inl (kI G, 2048, .inl to))]) H locs 0 0 (F0 m 6 ls []) := by
    intro n_
    induction n_ with
    | zero =>
      intro st N1 fw t1 c1 hst hN hF hm_6
      exact absurd hm_6 (Nat.not_lt_zero _)
    | succ n_ ih_6 =>
      intro st N1 fw t1 c1 hst hN hF hm_6 H locs hP hD hS ls hl
      have J_111 : ∀ (N3 : Nat → Int32) (g3 : Bool) (hsn : st < 2 ^ n) (hN3 : N3 1 = nI n) (h463 : N3 463 = nI n) (h3 : (N3, g3) = tmA st (cpM N1 0 462 42, may st fw) n), ∀ (H : Heap) (locs : List Loc), va_P G.1 vwCl [(q0, .inr (10, [.ref q1, .int (nI ty), .ref q2, .ref q3, .ref q4, .ref q5, .ref q6, .ref q7, .ref q8, .int (nI dm), .int (nI at_), .int (zb so), .ref q9, .int (nI de), .int (nI ke), .ref q10, .ref q11, .ref q12, .int (nI sm), .ref q13, .ref q14])), (q1, .inl (kB G, 200, .inl tx)), (q2, .inl (kI G, 2, .inl ro)), (q3, .inl (kI G, 2, .inl co)), (q4, .inl (kI G, 2, .inl mp)), (q5, .inl (kI G, 10, .inl my)), (q6, .inl (kI G, 10, .inl md)), (q7, .inl (kI G, 10, .inl mr)), (q8, .inl (kI G, 40, .inl dr)), (q9, .inl (kI G, 504, .inl N3)), (q10, .inl (kI G, 64, .inl t1)), (q11, .inl (kI G, 64, .inl c1)), (q12, .inl (kI G, 12, .inl sa)), (q13, .inl (kI G, 8, .inl go)), (q14, .inl (kI G, 2048, .inl to))] H → va_D A [(q0, .inr (10, [.ref q1, .int (nI ty), .ref q2, .ref q3, .ref q4, .ref q5, .ref q6, .ref q7, .ref q8, .int (nI dm), .int (nI at_), .int (zb so), .ref q9, .int (nI de), .int (nI ke), .ref q10, .ref q11, .ref q12, .int (nI sm), .ref q13, .ref q14])), (q1, .inl (kB G, 200, .inl tx)), (q2, .inl (kI G, 2, .inl ro)), (q3, .inl (kI G, 2, .inl co)), (q4, .inl (kI G, 2, .inl mp)), (q5, .inl (kI G, 10, .inl my)), (q6, .inl (kI G, 10, .inl md)), (q7, .inl (kI G, 10, .inl mr)), (q8, .inl (kI G, 40, .inl dr)), (q9, .inl (kI G, 504, .inl N3)), (q10, .inl (kI G, 64, .inl t1)), (q11, .inl (kI G, 64, .inl c1)), (q12, .inl (kI G, 12, .inl sa)), (q13, .inl (kI G, 8, .inl go)), (q14, .inl (kI G, 2048, .inl to))] → va_S A s.heap H locs → ∀ ls : Array Slot, lv_has ls 7 [(0, .ref q0), (1, .int (nI av)), (2, .int (nI bv)), (3, .int fw), (4, .int (nI st)), (5, .int (zb g3))] → WC p l e (rmz 4 96) s m [.ref q0, .int (nI av), .int (nI bv)] below meth c G A (fun v9 w9 => v9 = (some (.int ((frA nr nc nw n av bv (2 ^ n)).2))) ∧ ∃ (tk9 : Nat → Int32) (cs9 : Nat → Int32), w9 = [(q0, .inr (10, [.ref q1, .int (nI ty), .ref q2, .ref q3, .ref q4, .ref q5, .ref q6, .ref q7, .ref q8, .int (nI dm), .int (nI at_), .int (zb so), .ref q9, .int (nI de), .int (nI ke), .ref q10, .ref q11, .ref q12, .int (nI sm), .ref q13, .ref q14])), (q1, .inl (kB G, 200, .inl tx)), (q2, .inl (kI G, 2, .inl ro)), (q3, .inl (kI G, 2, .inl co)), (q4, .inl (kI G, 2, .inl mp)), (q5, .inl (kI G, 10, .inl my)), (q6, .inl (kI G, 10, .inl md)), (q7, .inl (kI G, 10, .inl mr)), (q8, .inl (kI G, 40, .inl dr)), (q9, .inl (kI G, 504, .inl ((frA nr nc nw n av bv (2 ^ n)).1))), (q10, .inl (kI G, 64, .inl tk9)), (q11, .inl (kI G, 64, .inl cs9)), (q12, .inl (kI G, 12, .inl sa)), (q13, .inl (kI G, 8, .inl go)), (q14, .inl (kI G, 2048, .inl to))]) H locs 0 0 (F0 m 111 ls []) := by
        intro N3 g3 hsn hN3 h463 h3 H locs hP hD hS ls hl
        refine lv_iload hx hb dX10_friends_111 (lv_at hl 5 rfl) ?_
        refine lv_if_eq (tgt := 146) hx hb dX10_friends_113 (by decide) (fun c113 => ?_) (fun c113 => ?_)
        · have c113 := zb_0.mp c113
          refine lv_iinc (v := nI (st + 1)) (lv' := [(4, .int (nI (st + 1))), (0, .ref q0), (1, .int (nI av)), (2, .int (nI bv)), (3, .int fw), (5, .int (zb g3))]) hx hb dX10_friends_146 hl (k := 4) rfl (nI_1 st) (by decide) rfl (fun ls hl => ?_)
          refine lv_goto (tgt := 6) hx hb dX10_friends_149 (by decide) ?_
          exact ih_6 (st + 1) N3 fw t1 c1 (by first | assumption | omega | rfl) hN3 (by rw [frA_s, ← hF, frS, frT, ← h3]; simp [c113]) (by omega) _ _ hP hD hS ls (lv_sub hl [1, 2, 3, 4, 0] rfl)
        · have c113 := zb_n0.mp c113
          refine lv_aload_n hx hb dX10_friends_116 rfl (lv_at hl 0 rfl) ?_
          refine lv_aload_n hx hb dX10_friends_117 rfl (lv_at hl 0 rfl) ?_
          refine lv_sipush (v := 462) hx hb dX10_friends_118 (by decide) ?_
          refine lv_aload_n hx hb dX10_friends_121 rfl (lv_at hl 0 rfl) ?_
          refine va_get hx hb hts inlX10 hown hE.1 hP 0 rfl rfl 12 (by decide) (fl_X10_35 hts) (fun _ h9 => h9) rfl dX10_friends_122 ?_
          refine lv_iconst (v := 0) hx hb dX10_friends_125 (by decide) ?_
          refine va_iald hx hb hE.1 hP 9 0 rfl rfl (inB_iff.mp (by decide)) dX10_friends_126 ?_
          rw [show (0 : Int32).toNatClampNeg = 0 from rfl]
          refine rd_callV (As := [.int 462, .int (N3 0)]) (rest := [.ref q0]) hx hb hml hown hts (hE.at0 hS) hl.1 (c_X10_trueTo l G q0 q1 q2 q3 q4 q5 q6 q7 q8 q9 q10 q11 q12 q13 q14 tx ro co mp my md mr dr N3 t1 c1 sa go to ty dm at_ so de ke sm 462 n nr nc (N3 0) (by decide) h463 (by first | assumption | omega) (by first | assumption | omega) (by first | assumption | omega) (by first | assumption | omega) (by first | assumption | omega)) (cw_X10_126 hts) ⟨(Nat.le_of_ble_eq_true rfl), (Nat.le_of_ble_eq_true rfl)⟩ ⟨Nat.zero_le _, Nat.zero_le _⟩ rfl (sub_P hP [0, 1, 2, 3, 4, 5, 6, 7, 8, 9, 10, 11, 12, 13, 14] rfl) rfl rfl rfl rfl (Nat.le_of_ble_eq_true rfl) dX10_friends_127 ?_
          refine lv_iload_n hx hb dX10_friends_130 rfl (lv_at hl 1 rfl) ?_
          refine lv_iload_n hx hb dX10_friends_131 rfl (lv_at hl 2 rfl) ?_
          refine ct_callVx (wr := []) (As := [.long (drM nc (cel N3 462) (fal N3 462) (kin N3 462) (N3 0) n), .int (nI av), .int (nI bv)]) (rest := []) hx hb hml hown hts hE hA hl.1 hP hD hS (c_X10_stepsIn l G q0 q1 q2 q3 q4 q5 q6 q7 q8 q9 q10 q11 q12 q13 q14 tx ro co mp my md mr dr N3 t1 c1 sa go to ty dm at_ so de ke sm nr nc (drM nc (cel N3 462) (fal N3 462) (kin N3 462) (N3 0) n) av bv (by first | assumption | omega) (by first | assumption | omega) (by first | assumption | omega) (by first | assumption | omega) (by first | assumption | omega) (by first | assumption | omega)) (cw_X10_165 hts) ⟨(Nat.le_of_ble_eq_true rfl), (Nat.le_of_ble_eq_true rfl)⟩ ⟨(Nat.le_of_ble_eq_true rfl), (Nat.le_of_ble_eq_true rfl)⟩ rfl [0, 1, 2, 3, 4, 5, 6, 7, 8, 9, 10, 11, 12, 13, 14] [] rfl rfl ⟨by decide, by decide, by decide⟩ rfl rfl rfl rfl (Nat.le_of_ble_eq_true rfl) dX10_friends_132 (fun v9 w9 H locs hpo hP hD hS => ?_)
          obtain ⟨rfl, tk9_132, cs9_132, rfl⟩ := hpo
          have hP := sub_P (wc := [(q0, .inr (10, [.ref q1, .int (nI ty), .ref q2, .ref q3, .ref q4, .ref q5, .ref q6, .ref q7, .ref q8, .int (nI dm), .int (nI at_), .int (zb so), .ref q9, .int (nI de), .int (nI ke), .ref q10, .ref q11, .ref q12, .int (nI sm), .ref q13, .ref q14])), (q1, .inl (kB G, 200, .inl tx)), (q2, .inl (kI G, 2, .inl ro)), (q3, .inl (kI G, 2, .inl co)), (q4, .inl (kI G, 2, .inl mp)), (q5, .inl (kI G, 10, .inl my)), (q6, .inl (kI G, 10, .inl md)), (q7, .inl (kI G, 10, .inl mr)), (q8, .inl (kI G, 40, .inl dr)), (q9, .inl (kI G, 504, .inl N3)), (q10, .inl (kI G, 64, .inl tk9_132)), (q11, .inl (kI G, 64, .inl cs9_132)), (q12, .inl (kI G, 12, .inl sa)), (q13, .inl (kI G, 8, .inl go)), (q14, .inl (kI G, 2048, .inl to))]) hP [0, 1, 2, 3, 4, 5, 6, 7, 8, 9, 10, 11, 12, 13, 14] rfl
          have hD := hD.sub (ws' := [(q0, .inr (10, [.ref q1, .int (nI ty), .ref q2, .ref q3, .ref q4, .ref q5, .ref q6, .ref q7, .ref q8, .int (nI dm), .int (nI at_), .int (zb so), .ref q9, .int (nI de), .int (nI ke), .ref q10, .ref q11, .ref q12, .int (nI sm), .ref q13, .ref q14])), (q1, .inl (kB G, 200, .inl tx)), (q2, .inl (kI G, 2, .inl ro)), (q3, .inl (kI G, 2, .inl co)), (q4, .inl (kI G, 2, .inl mp)), (q5, .inl (kI G, 10, .inl my)), (q6, .inl (kI G, 10, .inl md)), (q7, .inl (kI G, 10, .inl mr)), (q8, .inl (kI G, 40, .inl dr)), (q9, .inl (kI G, 504, .inl N3)), (q10, .inl (kI G, 64, .inl tk9_132)), (q11, .inl (kI G, 64, .inl cs9_132)), (q12, .inl (kI G, 12, .inl sa)), (q13, .inl (kI G, 8, .inl go)), (q14, .inl (kI G, 2048, .inl to))]) [0, 1, 2, 3, 4, 5, 6, 7, 8, 9, 10, 11, 12, 13, 14] (by decide) rfl
          show WC p l e _ s m _ below meth c G A _ H locs 0 0 (F0 m 135 ls [.int (stX nr nc (drM nc (cel N3 462) (fal N3 462) (kin N3 462) (N3 0) n) av bv)])
          refine lv_bipush (v := -4) hx hb dX10_friends_135 (by decide) ?_
          refine lv_icmp_eq (tgt := 146) hx hb dX10_friends_137 (by decide) (fun c137 => ?_) (fun c137 => ?_)
          · refine lv_iinc (v := nI (st + 1)) (lv' := [(4, .int (nI (st + 1))), (0, .ref q0), (1, .int (nI av)), (2, .int (nI bv)), (3, .int fw), (5, .int (zb g3))]) hx hb dX10_friends_146 hl (k := 4) rfl (nI_1 st) (by decide) rfl (fun ls hl => ?_)
            refine lv_goto (tgt := 6) hx hb dX10_friends_149 (by decide) ?_
            exact ih_6 (st + 1) N3 fw tk9_132 cs9_132 (by first | assumption | omega | rfl) hN3 (by rw [frA_s, ← hF, frS, frT, ← h3]; simp [c113, c137]) (by omega) _ _ hP hD hS ls (lv_sub hl [1, 2, 3, 4, 0] rfl)
          · refine lv_iload hx hb dX10_friends_140 (lv_at hl 4 rfl) ?_
            refine rd_callS (As := [.int (nI st)]) (rest := []) hx hb hml hown hts (hE.at0 hS) hl.1 (c_X10_manyIn l G (nI st) ) (cs_X10_169 hts) ⟨(Nat.le_of_ble_eq_true rfl), (Nat.le_of_ble_eq_true rfl)⟩ ⟨Nat.zero_le _, Nat.zero_le _⟩ rfl (sub_P hP [] rfl) rfl (Nat.le_of_ble_eq_true rfl) dX10_friends_142 ?_
            refine lv_istore_n (lv' := [(3, .int (miM (nI st) 10)), (0, .ref q0), (1, .int (nI av)), (2, .int (nI bv)), (4, .int (nI st)), (5, .int (zb g3))]) hx hb dX10_friends_145 rfl hl (by decide) rfl (fun ls hl => ?_)
            refine lv_iinc (v := nI (st + 1)) (lv' := [(4, .int (nI (st + 1))), (3, .int (miM (nI st) 10)), (0, .ref q0), (1, .int (nI av)), (2, .int (nI bv)), (5, .int (zb g3))]) hx hb dX10_friends_146 hl (k := 4) rfl (nI_1 st) (by decide) rfl (fun ls hl => ?_)
            refine lv_goto (tgt := 6) hx hb dX10_friends_149 (by decide) ?_
            exact ih_6 (st + 1) N3 (miM (nI st) 10) tk9_132 cs9_132 (by first | assumption | omega | rfl) hN3 (by rw [frA_s, ← hF, frS, frT, ← h3]; simp [c113, c137]) (by omega) _ _ hP hD hS ls (lv_sub hl [2, 3, 4, 1, 0] rfl)
      have J_52 : ∀ (n_ : Nat) (k : Nat) (N2 : Nat → Int32) (g2 : Bool) (hsn : st < 2 ^ n) (hk : k ≤ n) (hN2 : N2 1 = nI n) (h463 : N2 463 = nI n) (hT : (N2, g2) = tmA st (cpM N1 0 462 42, may st fw) k) (hm_52 : n - k < n_), ∀ (H : Heap) (locs : List Loc), va_P G.1 vwCl [(q0, .inr (10, [.ref q1, .int (nI ty), .ref q2, .ref q3, .ref q4, .ref q5, .ref q6, .ref q7, .ref q8, .int (nI dm), .int (nI at_), .int (zb so), .ref q9, .int (nI de), .int (nI ke), .ref q10, .ref q11, .ref q12, .int (nI sm), .ref q13, .ref q14])), (q1, .inl (kB G, 200, .inl tx)), (q2, .inl (kI G, 2, .inl ro)), (q3, .inl (kI G, 2, .inl co)), (q4, .inl (kI G, 2, .inl mp)), (q5, .inl (kI G, 10, .inl my)), (q6, .inl (kI G, 10, .inl md)), (q7, .inl (kI G, 10, .inl mr)), (q8, .inl (kI G, 40, .inl dr)), (q9, .inl (kI G, 504, .inl N2)), (q10, .inl (kI G, 64, .inl t1)), (q11, .inl (kI G, 64, .inl c1)), (q12, .inl (kI G, 12, .inl sa)), (q13, .inl (kI G, 8, .inl go)), (q14, .inl (kI G, 2048, .inl to))] H → va_D A [(q0, .inr (10, [.ref q1, .int (nI ty), .ref q2, .ref q3, .ref q4, .ref q5, .ref q6, .ref q7, .ref q8, .int (nI dm), .int (nI at_), .int (zb so), .ref q9, .int (nI de), .int (nI ke), .ref q10, .ref q11, .ref q12, .int (nI sm), .ref q13, .ref q14])), (q1, .inl (kB G, 200, .inl tx)), (q2, .inl (kI G, 2, .inl ro)), (q3, .inl (kI G, 2, .inl co)), (q4, .inl (kI G, 2, .inl mp)), (q5, .inl (kI G, 10, .inl my)), (q6, .inl (kI G, 10, .inl md)), (q7, .inl (kI G, 10, .inl mr)), (q8, .inl (kI G, 40, .inl dr)), (q9, .inl (kI G, 504, .inl N2)), (q10, .inl (kI G, 64, .inl t1)), (q11, .inl (kI G, 64, .inl c1)), (q12, .inl (kI G, 12, .inl sa)), (q13, .inl (kI G, 8, .inl go)), (q14, .inl (kI G, 2048, .inl to))] → va_S A s.heap H locs → ∀ ls : Array Slot, lv_has ls 7 [(0, .ref q0), (1, .int (nI av)), (2, .int (nI bv)), (3, .int fw), (4, .int (nI st)), (5, .int (zb g2)), (6, .int (nI k))] → WC p l e (rmz 4 96) s m [.ref q0, .int (nI av), .int (nI bv)] below meth c G A (fun v9 w9 => v9 = (some (.int ((frA nr nc nw n av bv (2 ^ n)).2))) ∧ ∃ (tk9 : Nat → Int32) (cs9 : Nat → Int32), w9 = [(q0, .inr (10, [.ref q1, .int (nI ty), .ref q2, .ref q3, .ref q4, .ref q5, .ref q6, .ref q7, .ref q8, .int (nI dm), .int (nI at_), .int (zb so), .ref q9, .int (nI de), .int (nI ke), .ref q10, .ref q11, .ref q12, .int (nI sm), .ref q13, .ref q14])), (q1, .inl (kB G, 200, .inl tx)), (q2, .inl (kI G, 2, .inl ro)), (q3, .inl (kI G, 2, .inl co)), (q4, .inl (kI G, 2, .inl mp)), (q5, .inl (kI G, 10, .inl my)), (q6, .inl (kI G, 10, .inl md)), (q7, .inl (kI G, 10, .inl mr)), (q8, .inl (kI G, 40, .inl dr)), (q9, .inl (kI G, 504, .inl ((frA nr nc nw n av bv (2 ^ n)).1))), (q10, .inl (kI G, 64, .inl tk9)), (q11, .inl (kI G, 64, .inl cs9)), (q12, .inl (kI G, 12, .inl sa)), (q13, .inl (kI G, 8, .inl go)), (q14, .inl (kI G, 2048, .inl to))]) H locs 0 0 (F0 m 52 ls []) := by
        intro n_
        induction n_ with
        | zero =>
          intro k N2 g2 hsn hk hN2 h463 hT hm_52
          exact absurd hm_52 (Nat.not_lt_zero _)
        | succ n_ ih_52 =>
          intro k N2 g2 hsn hk hN2 h463 hT hm_52 H locs hP hD hS ls hl
          refine lv_iload hx hb dX10_friends_52 (lv_at hl 6 rfl) ?_
          refine lv_aload_n hx hb dX10_friends_54 rfl (lv_at hl 0 rfl) ?_
          refine va_get hx hb hts inlX10 hown hE.1 hP 0 rfl rfl 12 (by decide) (fl_X10_35 hts) (fun _ h9 => h9) rfl dX10_friends_55 ?_
          refine lv_iconst (v := 1) hx hb dX10_friends_58 (by decide) ?_
          refine va_iald hx hb hE.1 hP 9 0 rfl rfl (inB_iff.mp (by decide)) dX10_friends_59 ?_
          rw [show (1 : Int32).toNatClampNeg = 1 from rfl]
          rw [hN2]
          refine lv_icmp_ge (tgt := 111) hx hb dX10_friends_60 (by decide) (fun c60 => ?_) (fun c60 => ?_)
          · have hkn : n ≤ k := le_of_le (by omega) (by omega) c60
            exact J_111 N2 g2 (by first | assumption | omega | rfl) hN2 (by first | assumption | omega | rfl) (by rw [hT, show k = n by omega]) _ _ hP hD hS ls (lv_sub hl [0, 1, 2, 3, 4, 5] rfl)
          · have hkn : k < n := lt_of_nle (by omega) (by omega) c60
            refine lv_iload hx hb dX10_friends_63 (lv_at hl 5 rfl) ?_
            refine lv_if_eq (tgt := 111) hx hb dX10_friends_65 (by decide) (fun c65 => ?_) (fun c65 => ?_)
            · have c65 := zb_0.mp c65
              exact J_111 N2 g2 (by first | assumption | omega | rfl) hN2 (by first | assumption | omega | rfl) (by have h9 := tmA_stay (show (tmA st (cpM N1 0 462 42, may st fw) k).2 = false by rw [← hT]; exact c65) (n - k); rw [show k + (n - k) = n by omega] at h9; rw [h9, hT]) _ _ hP hD hS ls (lv_sub hl [0, 1, 2, 3, 4, 5] rfl)
            · have c65 := zb_n0.mp c65
              refine lv_iload hx hb dX10_friends_68 (lv_at hl 4 rfl) ?_
              refine lv_iload hx hb dX10_friends_70 (lv_at hl 6 rfl) ?_
              refine lv_ishr hx hb dX10_friends_72 ?_
              refine lv_iconst (v := 1) hx hb dX10_friends_73 (by decide) ?_
              refine lv_iand hx hb dX10_friends_74 ?_
              refine lv_iconst (v := 1) hx hb dX10_friends_75 (by decide) ?_
              refine lv_icmp_ne (tgt := 105) hx hb dX10_friends_76 (by decide) (fun c76 => ?_) (fun c76 => ?_)
              · have c76 : hbi st k = false := by simp [hbi, c76]
                refine lv_iinc (v := nI (k + 1)) (lv' := [(6, .int (nI (k + 1))), (0, .ref q0), (1, .int (nI av)), (2, .int (nI bv)), (3, .int fw), (4, .int (nI st)), (5, .int (zb g2))]) hx hb dX10_friends_105 hl (k := 6) rfl (nI_1 k) (by decide) rfl (fun ls hl => ?_)
                refine lv_goto (tgt := 52) hx hb dX10_friends_108 (by decide) ?_
                exact ih_52 (k + 1) N2 g2 (by first | assumption | omega | rfl) (by first | assumption | omega | rfl) (by first | exact hN2 | (rw [pk_un (by omega)]; exact hN2)) (by first | exact h463 | (rw [pk_un (by omega)]; exact h463)) (by rw [tmA_s, ← hT, tmS]; simp [c60, c65, c76]) (by omega) _ _ hP hD hS ls (lv_sub hl [1, 2, 3, 4, 5, 6, 0] rfl)
              · have c76 : hbi st k = true := by simp [hbi, c76]
                refine lv_aload_n hx hb dX10_friends_79 rfl (lv_at hl 0 rfl) ?_
                refine lv_iconst (v := 0) hx hb dX10_friends_80 (by decide) ?_
                refine lv_iload hx hb dX10_friends_81 (lv_at hl 6 rfl) ?_
                refine rd_callV (As := [.int 0, .int (nI k)]) (rest := []) hx hb hml hown hts (hE.at0 hS) hl.1 (c_X10_canBurn l G q0 q1 q2 q3 q4 q5 q6 q7 q8 q9 q10 q11 q12 q13 q14 tx ro co mp my md mr dr N2 t1 c1 sa go to ty dm at_ so de ke sm 0 k (by decide) (by first | assumption | omega)) (cw_X10_151 hts) ⟨(Nat.le_of_ble_eq_true rfl), (Nat.le_of_ble_eq_true rfl)⟩ ⟨Nat.zero_le _, Nat.zero_le _⟩ rfl (sub_P hP [0, 1, 2, 3, 4, 5, 6, 7, 8, 9, 10, 11, 12, 13, 14] rfl) rfl rfl rfl rfl (Nat.le_of_ble_eq_true rfl) dX10_friends_83 ?_
                refine lv_istore (lv' := [(5, .int (zb (cbB (sta N2 0) (fal N2 0) (kin N2 0) (N2 0) k))), (0, .ref q0), (1, .int (nI av)), (2, .int (nI bv)), (3, .int fw), (4, .int (nI st)), (6, .int (nI k))]) hx hb dX10_friends_86 hl (by decide) rfl (fun ls hl => ?_)
                refine lv_aload_n hx hb dX10_friends_88 rfl (lv_at hl 1 rfl) ?_
                refine va_get hx hb hts inlX10 hown hE.1 hP 0 rfl rfl 12 (by decide) (fl_X10_35 hts) (fun _ h9 => h9) rfl dX10_friends_89 ?_
                refine lv_sipush (v := 484) hx hb dX10_friends_92 (by decide) ?_
                refine lv_iload hx hb dX10_friends_95 (lv_at hl 6 rfl) ?_
                refine lv_iadd hx hb dX10_friends_97 ?_
                rw [show (484 : Int32) + (nI k) = nI (484 + k) from nI_add 484 k]
                refine lv_aload_n hx hb dX10_friends_98 rfl (lv_at hl 1 rfl) ?_
                refine va_get hx hb hts inlX10 hown hE.1 hP 0 rfl rfl 12 (by decide) (fl_X10_35 hts) (fun _ h9 => h9) rfl dX10_friends_99 ?_
                refine lv_iconst (v := 0) hx hb dX10_friends_102 (by decide) ?_
                refine va_iald hx hb hE.1 hP 9 0 rfl rfl (inB_iff.mp (by decide)) dX10_friends_103 ?_
                rw [show (0 : Int32).toNatClampNeg = 0 from rfl]
                refine va_iast hx hb hE.1 hP hD hS 9 0 rfl rfl (vp_in_nI (by omega) (by omega)) dX10_friends_104 (fun H locs hP hD hS => ?_)
                rw [nI_clamp (show 484 + k < 2 ^ 31 by omega)] at hP hD
                have hP : va_P G.1 vwCl [(q0, .inr (10, [.ref q1, .int (nI ty), .ref q2, .ref q3, .ref q4, .ref q5, .ref q6, .ref q7, .ref q8, .int (nI dm), .int (nI at_), .int (zb so), .ref q9, .int (nI de), .int (nI ke), .ref q10, .ref q11, .ref q12, .int (nI sm), .ref q13, .ref q14])), (q1, .inl (kB G, 200, .inl tx)), (q2, .inl (kI G, 2, .inl ro)), (q3, .inl (kI G, 2, .inl co)), (q4, .inl (kI G, 2, .inl mp)), (q5, .inl (kI G, 10, .inl my)), (q6, .inl (kI G, 10, .inl md)), (q7, .inl (kI G, 10, .inl mr)), (q8, .inl (kI G, 40, .inl dr)), (q9, .inl (kI G, 504, .inl (upd N2 (484 + k) (N2 0)))), (q10, .inl (kI G, 64, .inl t1)), (q11, .inl (kI G, 64, .inl c1)), (q12, .inl (kI G, 12, .inl sa)), (q13, .inl (kI G, 8, .inl go)), (q14, .inl (kI G, 2048, .inl to))] H := hP
                have hD : va_D A [(q0, .inr (10, [.ref q1, .int (nI ty), .ref q2, .ref q3, .ref q4, .ref q5, .ref q6, .ref q7, .ref q8, .int (nI dm), .int (nI at_), .int (zb so), .ref q9, .int (nI de), .int (nI ke), .ref q10, .ref q11, .ref q12, .int (nI sm), .ref q13, .ref q14])), (q1, .inl (kB G, 200, .inl tx)), (q2, .inl (kI G, 2, .inl ro)), (q3, .inl (kI G, 2, .inl co)), (q4, .inl (kI G, 2, .inl mp)), (q5, .inl (kI G, 10, .inl my)), (q6, .inl (kI G, 10, .inl md)), (q7, .inl (kI G, 10, .inl mr)), (q8, .inl (kI G, 40, .inl dr)), (q9, .inl (kI G, 504, .inl (upd N2 (484 + k) (N2 0)))), (q10, .inl (kI G, 64, .inl t1)), (q11, .inl (kI G, 64, .inl c1)), (q12, .inl (kI G, 12, .inl sa)), (q13, .inl (kI G, 8, .inl go)), (q14, .inl (kI G, 2048, .inl to))] := hD
                refine lv_iinc (v := nI (k + 1)) (lv' := [(6, .int (nI (k + 1))), (5, .int (zb (cbB (sta N2 0) (fal N2 0) (kin N2 0) (N2 0) k))), (0, .ref q0), (1, .int (nI av)), (2, .int (nI bv)), (3, .int fw), (4, .int (nI st))]) hx hb dX10_friends_105 hl (k := 6) rfl (nI_1 k) (by decide) rfl (fun ls hl => ?_)
                refine lv_goto (tgt := 52) hx hb dX10_friends_108 (by decide) ?_
                exact ih_52 (k + 1) (upd N2 (484 + k) (N2 0)) (cbB (sta N2 0) (fal N2 0) (kin N2 0) (N2 0) k) (by first | assumption | omega | rfl) (by first | assumption | omega | rfl) (by first | exact hN2 | (rw [pk_un (by omega)]; exact hN2)) (by first | exact h463 | (rw [pk_un (by omega)]; exact h463)) (by rw [tmA_s, ← hT, tmS]; simp [c60, c65, c76]) (by omega) _ _ hP hD hS ls (lv_sub hl [2, 3, 4, 5, 6, 1, 0] rfl)
      have J_39 : ∀ (g : Bool) (hsn : st < 2 ^ n) (hg : may st fw = g), ∀ (H : Heap) (locs : List Loc), va_P G.1 vwCl [(q0, .inr (10, [.ref q1, .int (nI ty), .ref q2, .ref q3, .ref q4, .ref q5, .ref q6, .ref q7, .ref q8, .int (nI dm), .int (nI at_), .int (zb so), .ref q9, .int (nI de), .int (nI ke), .ref q10, .ref q11, .ref q12, .int (nI sm), .ref q13, .ref q14])), (q1, .inl (kB G, 200, .inl tx)), (q2, .inl (kI G, 2, .inl ro)), (q3, .inl (kI G, 2, .inl co)), (q4, .inl (kI G, 2, .inl mp)), (q5, .inl (kI G, 10, .inl my)), (q6, .inl (kI G, 10, .inl md)), (q7, .inl (kI G, 10, .inl mr)), (q8, .inl (kI G, 40, .inl dr)), (q9, .inl (kI G, 504, .inl N1)), (q10, .inl (kI G, 64, .inl t1)), (q11, .inl (kI G, 64, .inl c1)), (q12, .inl (kI G, 12, .inl sa)), (q13, .inl (kI G, 8, .inl go)), (q14, .inl (kI G, 2048, .inl to))] H → va_D A [(q0, .inr (10, [.ref q1, .int (nI ty), .ref q2, .ref q3, .ref q4, .ref q5, .ref q6, .ref q7, .ref q8, .int (nI dm), .int (nI at_), .int (zb so), .ref q9, .int (nI de), .int (nI ke), .ref q10, .ref q11, .ref q12, .int (nI sm), .ref q13, .ref q14])), (q1, .inl (kB G, 200, .inl tx)), (q2, .inl (kI G, 2, .inl ro)), (q3, .inl (kI G, 2, .inl co)), (q4, .inl (kI G, 2, .inl mp)), (q5, .inl (kI G, 10, .inl my)), (q6, .inl (kI G, 10, .inl md)), (q7, .inl (kI G, 10, .inl mr)), (q8, .inl (kI G, 40, .inl dr)), (q9, .inl (kI G, 504, .inl N1)), (q10, .inl (kI G, 64, .inl t1)), (q11, .inl (kI G, 64, .inl c1)), (q12, .inl (kI G, 12, .inl sa)), (q13, .inl (kI G, 8, .inl go)), (q14, .inl (kI G, 2048, .inl to))] → va_S A s.heap H locs → ∀ ls : Array Slot, lv_has ls 7 [(0, .ref q0), (1, .int (nI av)), (2, .int (nI bv)), (3, .int fw), (4, .int (nI st))] → WC p l e (rmz 4 96) s m [.ref q0, .int (nI av), .int (nI bv)] below meth c G A (fun v9 w9 => v9 = (some (.int ((frA nr nc nw n av bv (2 ^ n)).2))) ∧ ∃ (tk9 : Nat → Int32) (cs9 : Nat → Int32), w9 = [(q0, .inr (10, [.ref q1, .int (nI ty), .ref q2, .ref q3, .ref q4, .ref q5, .ref q6, .ref q7, .ref q8, .int (nI dm), .int (nI at_), .int (zb so), .ref q9, .int (nI de), .int (nI ke), .ref q10, .ref q11, .ref q12, .int (nI sm), .ref q13, .ref q14])), (q1, .inl (kB G, 200, .inl tx)), (q2, .inl (kI G, 2, .inl ro)), (q3, .inl (kI G, 2, .inl co)), (q4, .inl (kI G, 2, .inl mp)), (q5, .inl (kI G, 10, .inl my)), (q6, .inl (kI G, 10, .inl md)), (q7, .inl (kI G, 10, .inl mr)), (q8, .inl (kI G, 40, .inl dr)), (q9, .inl (kI G, 504, .inl ((frA nr nc nw n av bv (2 ^ n)).1))), (q10, .inl (kI G, 64, .inl tk9)), (q11, .inl (kI G, 64, .inl cs9)), (q12, .inl (kI G, 12, .inl sa)), (q13, .inl (kI G, 8, .inl go)), (q14, .inl (kI G, 2048, .inl to))]) H locs 0 0 (F0 m 39 ls [.int (zb g)]) := by
        intro g hsn hg H locs hP hD hS ls hl
        refine lv_istore (lv' := [(5, .int (zb g)), (0, .ref q0), (1, .int (nI av)), (2, .int (nI bv)), (3, .int fw), (4, .int (nI st))]) hx hb dX10_friends_39 hl (by decide) rfl (fun ls hl => ?_)
        refine lv_aload_n hx hb dX10_friends_41 rfl (lv_at hl 1 rfl) ?_
        refine lv_iconst (v := 0) hx hb dX10_friends_42 (by decide) ?_
        refine lv_sipush (v := 462) hx hb dX10_friends_43 (by decide) ?_
        refine ct_callV (w1 := [(q0, .inr (10, [.ref q1, .int (nI ty), .ref q2, .ref q3, .ref q4, .ref q5, .ref q6, .ref q7, .ref q8, .int (nI dm), .int (nI at_), .int (zb so), .ref q9, .int (nI de), .int (nI ke), .ref q10, .ref q11, .ref q12, .int (nI sm), .ref q13, .ref q14])), (q1, .inl (kB G, 200, .inl tx)), (q2, .inl (kI G, 2, .inl ro)), (q3, .inl (kI G, 2, .inl co)), (q4, .inl (kI G, 2, .inl mp)), (q5, .inl (kI G, 10, .inl my)), (q6, .inl (kI G, 10, .inl md)), (q7, .inl (kI G, 10, .inl mr)), (q8, .inl (kI G, 40, .inl dr)), (q9, .inl (kI G, 504, .inl (cpM N1 0 462 42))), (q10, .inl (kI G, 64, .inl t1)), (q11, .inl (kI G, 64, .inl c1)), (q12, .inl (kI G, 12, .inl sa)), (q13, .inl (kI G, 8, .inl go)), (q14, .inl (kI G, 2048, .inl to))]) (wr := []) (wn := [(q0, .inr (10, [.ref q1, .int (nI ty), .ref q2, .ref q3, .ref q4, .ref q5, .ref q6, .ref q7, .ref q8, .int (nI dm), .int (nI at_), .int (zb so), .ref q9, .int (nI de), .int (nI ke), .ref q10, .ref q11, .ref q12, .int (nI sm), .ref q13, .ref q14])), (q1, .inl (kB G, 200, .inl tx)), (q2, .inl (kI G, 2, .inl ro)), (q3, .inl (kI G, 2, .inl co)), (q4, .inl (kI G, 2, .inl mp)), (q5, .inl (kI G, 10, .inl my)), (q6, .inl (kI G, 10, .inl md)), (q7, .inl (kI G, 10, .inl mr)), (q8, .inl (kI G, 40, .inl dr)), (q9, .inl (kI G, 504, .inl (cpM N1 0 462 42))), (q10, .inl (kI G, 64, .inl t1)), (q11, .inl (kI G, 64, .inl c1)), (q12, .inl (kI G, 12, .inl sa)), (q13, .inl (kI G, 8, .inl go)), (q14, .inl (kI G, 2048, .inl to))]) (As := [.int 0, .int 462]) (rest := []) hx hb hml hown hts hE hA hl.1 hP hD hS (c_X10_copy l G q0 q1 q2 q3 q4 q5 q6 q7 q8 q9 q10 q11 q12 q13 q14 tx ro co mp my md mr dr N1 t1 c1 sa go to ty dm at_ so de ke sm 0 462 (by first | assumption | omega) (by first | assumption | omega)) (cw_X10_144 hts) ⟨(Nat.le_of_ble_eq_true rfl), (Nat.le_of_ble_eq_true rfl)⟩ ⟨(Nat.le_of_ble_eq_true rfl), (Nat.le_of_ble_eq_true rfl)⟩ rfl [0, 1, 2, 3, 4, 5, 6, 7, 8, 9, 10, 11, 12, 13, 14] [] [0, 1, 2, 3, 4, 5, 6, 7, 8, 9, 10, 11, 12, 13, 14] rfl rfl ⟨by decide, by decide, by decide, by decide⟩ rfl rfl rfl rfl rfl (Nat.le_of_ble_eq_true rfl) dX10_friends_46 (fun H locs hP hD hS => ?_)
        show WC p l e _ s m _ below meth c G A _ H locs 0 0 (F0 m 49 ls [])
        refine lv_iconst (v := 0) hx hb dX10_friends_49 (by decide) ?_
        refine lv_istore (lv' := [(6, .int 0), (5, .int (zb g)), (0, .ref q0), (1, .int (nI av)), (2, .int (nI bv)), (3, .int fw), (4, .int (nI st))]) hx hb dX10_friends_50 hl (by decide) rfl (fun ls hl => ?_)
        exact J_52 (n - 0 + 1) 0 (cpM N1 0 462 42) g (by first | assumption | omega | rfl) (by first | assumption | omega | rfl) (by rw [cpM_out _ (by omega)]; exact hN) (by rw [cpM_in N1 (a := 0) (b := 462) (n := 42) (i := 1) (by omega) (by omega)]; exact hN) (by rw [hg]; rfl) (Nat.lt_succ_self _) _ _ hP hD hS ls (lv_sub hl [2, 3, 4, 5, 6, 1, 0] rfl)
      refine lv_iload hx hb dX10_friends_6 (lv_at hl 4 rfl) ?_
      refine lv_iconst (v := 1) hx hb dX10_friends_8 (by decide) ?_
      refine lv_aload_n hx hb dX10_friends_9 rfl (lv_at hl 0 rfl) ?_
      refine va_get hx hb hts inlX10 hown hE.1 hP 0 rfl rfl 12 (by decide) (fl_X10_35 hts) (fun _ h9 => h9) rfl dX10_friends_10 ?_
      refine lv_iconst (v := 1) hx hb dX10_friends_13 (by decide) ?_
      refine va_iald hx hb hE.1 hP 9 0 rfl rfl (inB_iff.mp (by decide)) dX10_friends_14 ?_
      rw [show (1 : Int32).toNatClampNeg = 1 from rfl]
      rw [hN]
      refine lv_ishl hx hb dX10_friends_15 ?_
      rw [show (1 <<< ((nI n) &&& 31)) = nI (2 ^ n) from all_p2 n (by omega)]
      refine lv_icmp_ge (tgt := 152) hx hb dX10_friends_16 (by decide) (fun c16 => ?_) (fun c16 => ?_)
      · have hsx : st = 2 ^ n := by have := le_of_le (n := 2 ^ n) (k := st) (by omega) (by omega) c16; omega
        refine lv_iload_n hx hb dX10_friends_152 rfl (lv_at hl 3 rfl) ?_
        exact ct_iret hx hb hr hlk dX10_friends_153 hP hD hS (by rw [hsx] at hF; rw [← hF]; exact ⟨rfl, _, _, rfl⟩)
      · have hsn : st < 2 ^ n := lt_of_nle (by omega) (by omega) c16
        refine lv_iload_n hx hb dX10_friends_19 rfl (lv_at hl 3 rfl) ?_
        refine lv_bipush (v := -4) hx hb dX10_friends_20 (by decide) ?_
        refine lv_icmp_eq (tgt := 34) hx hb dX10_friends_22 (by decide) (fun c22 => ?_) (fun c22 => ?_)
        · refine lv_iconst (v := 1) hx hb dX10_friends_34 (by decide) ?_
          refine lv_goto (tgt := 39) hx hb dX10_friends_35 (by decide) ?_
          exact J_39 true hsn (by simp [may, c16, c22]) _ _ hP hD hS ls (lv_sub hl [0, 1, 2, 3, 4] rfl)
        · refine lv_iload hx hb dX10_friends_25 (lv_at hl 4 rfl) ?_
          refine rd_callS (As := [.int (nI st)]) (rest := []) hx hb hml hown hts (hE.at0 hS) hl.1 (c_X10_manyIn l G (nI st) ) (cs_X10_169 hts) ⟨(Nat.le_of_ble_eq_true rfl), (Nat.le_of_ble_eq_true rfl)⟩ ⟨Nat.zero_le _, Nat.zero_le _⟩ rfl (sub_P hP [] rfl) rfl (Nat.le_of_ble_eq_true rfl) dX10_friends_27 ?_
          refine lv_iload_n hx hb dX10_friends_30 rfl (lv_at hl 3 rfl) ?_
          refine lv_icmp_ge (tgt := 38) hx hb dX10_friends_31 (by decide) (fun c31 => ?_) (fun c31 => ?_)
          · refine lv_iconst (v := 0) hx hb dX10_friends_38 (by decide) ?_
            exact J_39 false hsn (by simp [may, c16, c22, c31]) _ _ hP hD hS ls (lv_sub hl [0, 1, 2, 3, 4] rfl)
          · refine lv_iconst (v := 1) hx hb dX10_friends_34 (by decide) ?_
            refine lv_goto (tgt := 39) hx hb dX10_friends_35 (by decide) ?_
            exact J_39 true hsn (by simp [may, c16, c22, c31]) _ _ hP hD hS ls (lv_sub hl [0, 1, 2, 3, 4] rfl)
  refine lv_bipush (v := -4) hx hb dX10_friends_0 (by decide) ?_
  refine lv_istore_n (lv' := [(3, .int (-4)), (0, .ref q0), (1, .int (nI av)), (2, .int (nI bv))]) hx hb dX10_friends_2 rfl hl (by decide) rfl (fun ls hl => ?_)
  refine lv_iconst (v := 0) hx hb dX10_friends_3 (by decide) ?_
  refine lv_istore (lv' := [(4, .int 0), (3, .int (-4)), (0, .ref q0), (1, .int (nI av)), (2, .int (nI bv))]) hx hb dX10_friends_4 hl (by decide) rfl (fun ls hl => ?_)
  exact J_6 (2 ^ n - 0 + 1) 0 nw (-4) tk cs (Nat.zero_le _) hn1 rfl (Nat.lt_succ_self _) _ _ hP hD hS ls (lv_sub hl [2, 3, 4, 1, 0] rfl)
