/-! Reader -/
def nbh (x : Int32) : Nat := if x = 109 then 3 else if x = 114 then 2 else if x = 116 then 4 else 0
theorem nbh_le (x : Int32) : nbh x ≤ 4 := by unfold nbh; repeat' split
                                             all_goals decide
def dgN (Sg : Nat → Int32) (tn pl : Nat) : Nat := (sgI Sg tn (nI pl)).toNatClampNeg - 48
theorem dg_eq {Sg : Nat → Int32} {tn pl : Nat} (h : fgI Sg tn (nI pl) = true) : sgI Sg tn (nI pl) - 48 = nI (dgN Sg tn pl) ∧ dgN Sg tn pl ≤ 9 := by
  unfold fgI at h
  rw [Bool.and_eq_true, Bool.not_eq_true', Bool.not_eq_true', decide_eq_false_iff_not, decide_eq_false_iff_not] at h
  unfold dgN
  generalize sgI Sg tn (nI pl) = x at h
  obtain ⟨h1, h2⟩ := h
  have h0 : ¬ x < 0 := fun z => h1 (Int32.lt_trans z (by decide))
  obtain ⟨j, hj, rfl⟩ := nI_of h0
  have e1 : 48 ≤ j := by
    have := (not_congr (nI_ltI (a := j) (b := 48) hj (by decide))).mp h1
    omega
  have e2 : j ≤ 57 := by
    have := (not_congr (nI_ltI (a := 57) (b := j) (by decide) hj)).mp h2
    omega
  rw [nI_clamp hj]
  exact ⟨pk_sub (b := 48) e1, by omega⟩
def nmN (Sg : Nat → Int32) (tn pl : Nat) : Nat := if fgI Sg tn (nI (pl + 1)) then 10 * dgN Sg tn pl + dgN Sg tn (pl + 1) else dgN Sg tn pl
def nmE (Sg : Nat → Int32) (tn pl : Nat) : Nat := if fgI Sg tn (nI (pl + 1)) then pl + 1 + 1 else pl + 1
def rnL (Sg : Nat → Int32) (tn wn : Nat) : Nat → Nat → Nat → (Nat → Int32) → Int32 × (Nat → Int32)
  | 0, _, pl, nb => (if wn = 0 then -4 else nI pl, nb)
  | f + 1, k, pl, nb => if fgI Sg tn (nI pl) then (if sgI Sg tn (nI (nmE Sg tn pl)) = (if k + 1 < wn then 44 else 59) then rnL Sg tn wn f (k + 1) (nmE Sg tn pl + 1) (upd nb k (nI (nmN Sg tn pl))) else (-4, upd nb k (nI (nmN Sg tn pl)))) else (-4, nb)
theorem rnL_no {Sg : Nat → Int32} {tn wn k pl : Nat} {nb : Nat → Int32} (hk : k < wn) (h : fgI Sg tn (nI pl) = false) : rnL Sg tn wn (wn - k) k pl nb = (-4, nb) := by
  rw [show wn - k = (wn - (k + 1)) + 1 by omega, rnL, if_neg (by rw [h]; decide)]
theorem rnL_bad {Sg : Nat → Int32} {tn wn k pl : Nat} {nb : Nat → Int32} (hk : k < wn) (h : fgI Sg tn (nI pl) = true) (h2 : ¬ sgI Sg tn (nI (nmE Sg tn pl)) = (if k + 1 < wn then 44 else 59)) : rnL Sg tn wn (wn - k) k pl nb = (-4, upd nb k (nI (nmN Sg tn pl))) := by
  rw [show wn - k = (wn - (k + 1)) + 1 by omega, rnL, if_pos h, if_neg h2]
theorem rnL_ok {Sg : Nat → Int32} {tn wn k pl : Nat} {nb : Nat → Int32} (hk : k < wn) (h : fgI Sg tn (nI pl) = true) (h2 : sgI Sg tn (nI (nmE Sg tn pl)) = (if k + 1 < wn then 44 else 59)) : rnL Sg tn wn (wn - k) k pl nb = rnL Sg tn wn (wn - (k + 1)) (k + 1) (nmE Sg tn pl + 1) (upd nb k (nI (nmN Sg tn pl))) := by
  rw [show wn - k = (wn - (k + 1)) + 1 by omega, rnL, if_pos h, if_pos h2]
theorem rnL_end {Sg : Nat → Int32} {tn wn k pl : Nat} {nb : Nat → Int32} (hk : wn ≤ k) : rnL Sg tn wn (wn - k) k pl nb = (if wn = 0 then -4 else nI pl, nb) := by
  rw [show wn - k = 0 by omega, rnL]
theorem nmE_le (Sg : Nat → Int32) (tn pl : Nat) : pl + 1 ≤ nmE Sg tn pl ∧ nmE Sg tn pl ≤ pl + 2 := by
  unfold nmE; split <;> omega
theorem rnL_nat (Sg : Nat → Int32) (tn wn : Nat) : ∀ (f k pl : Nat) (nb : Nat → Int32), (rnL Sg tn wn f k pl nb).1 = -4 ∨ ∃ j, pl ≤ j ∧ j ≤ pl + 3 * f ∧ (rnL Sg tn wn f k pl nb).1 = nI j
  | 0, k, pl, nb => by
    unfold rnL
    by_cases h : wn = 0
    · simp [h]
    · right; exact ⟨pl, by omega, by omega, by simp [h]⟩
  | f + 1, k, pl, nb => by
    by_cases h1 : fgI Sg tn (nI pl) = true
    · by_cases h2 : sgI Sg tn (nI (nmE Sg tn pl)) = (if k + 1 < wn then 44 else 59)
      · rw [rnL, if_pos h1, if_pos h2]
        have hb := nmE_le Sg tn pl
        rcases rnL_nat Sg tn wn f (k + 1) (nmE Sg tn pl + 1) (upd nb k (nI (nmN Sg tn pl))) with h | ⟨j, h1, h2, h3⟩
        · exact Or.inl h
        · exact Or.inr ⟨j, by omega, by omega, h3⟩
      · rw [rnL, if_pos h1, if_neg h2]; exact Or.inl rfl
    · rw [rnL, if_neg h1]; exact Or.inl rfl
theorem nb_one {nb : Nat → Int32} {Sg : Nat → Int32} {tn pl k : Nat} (hk : k < 2 ^ 31) (h : fgI Sg tn (nI pl) = true) (h2 : fgI Sg tn (nI (pl + 1)) = false) : upd nb (nI k).toNatClampNeg (sgI Sg tn (nI pl) - 48) = upd nb k (nI (nmN Sg tn pl)) := by
  rw [nI_clamp hk, (dg_eq h).1, nmN, if_neg (by rw [h2]; decide)]
theorem nb_two {nb : Nat → Int32} {Sg : Nat → Int32} {tn pl k : Nat} (hk : k < 2 ^ 31) (h : fgI Sg tn (nI pl) = true) (h2 : fgI Sg tn (nI (pl + 1)) = true) : upd (upd nb (nI k).toNatClampNeg (sgI Sg tn (nI pl) - 48)) (nI k).toNatClampNeg (10 * upd nb (nI k).toNatClampNeg (sgI Sg tn (nI pl) - 48) (nI k).toNatClampNeg + sgI Sg tn (nI (pl + 1)) - 48) = upd nb k (nI (nmN Sg tn pl)) := by
  have e3 : ∀ a b c : Int32, a + b - c = a + (b - c) := fun a b c => by rw [Int32.sub_eq_add_neg, Int32.sub_eq_add_neg, Int32.add_assoc]
  rw [nI_clamp hk, upd2, nmN, if_pos h2, pk_us, (dg_eq h).1, e3, (dg_eq h2).1, show (10 : Int32) = nI 10 from rfl, pk_mul, nI_add]
def trB (n q : Nat) (r2 c2 : Int32) : Bool := decide (n = 0) && decide (q = 0) && (isS r2 && isS c2)
def ttB (nr nc : Nat) (C : Nat → Int32) (n : Nat) (x b f k : Int32) : Bool := inG nr nc x && !decide (f ≤ b) && decide (k ≤ 3) && decide (n < 10) && decide (thI C n x = -4)
def tmB (q : Nat) (b f : Int32) : Bool := !decide (5 ≤ b) && !decide (5 ≤ f) && decide (q < 5)
def fl9 (f : Int32) : Int32 := if f = 99 then 1000 else f
theorem isS_nI {x : Int32} (h : isS x = true) : x = nI x.toNatClampNeg ∧ 2 ≤ x.toNatClampNeg ∧ x.toNatClampNeg ≤ 8 := by
  unfold isS at h
  rw [Bool.and_eq_true, Bool.not_eq_true', Bool.not_eq_true', decide_eq_false_iff_not, decide_eq_false_iff_not] at h
  obtain ⟨h1, h2⟩ := h
  have h0 : ¬ x < 0 := fun z => h1 (Int32.lt_trans z (by decide))
  obtain ⟨j, hj, rfl⟩ := nI_of h0
  rw [nI_clamp hj]
  have e1 := (not_congr (nI_ltI (a := j) (b := 2) hj (by decide))).mp h1
  have e2 := (not_congr (nI_ltI (a := 8) (b := j) (by decide) hj)).mp h2
  exact ⟨rfl, by omega, by omega⟩
theorem nI_0nlt {a : Nat} (ha : a < 2 ^ 31) (h : ¬ 0 < nI a) : a = 0 := by
  have := (not_congr (nI_ltI (a := 0) (b := a) (by decide) ha)).mp h
  omega
theorem nI_0gt {a : Nat} (ha : a < 2 ^ 31) (h : 0 < nI a) : ¬ a = 0 := by
  have := (nI_ltI (a := 0) (b := a) (by decide) ha).mp h
  omega
theorem nI_lt10 {a b : Nat} (ha : a < 2 ^ 31) (hb : b < 2 ^ 31) : (!decide (nI a < nI b)) = !decide (a < b) := by
  rw [decide_eq_decide.mpr (nI_ltI ha hb)]

set_option maxHeartbeats 4000000 in
set_option maxRecDepth 100000 in
theorem c_X2_resize_i (l : Launch) (G : Gv) (g0 : Nat) (nr : Nat) (nc : Nat) (r2 : Int32) (c2 : Int32) (hs1 : (isS r2 && isS c2) = true) : Ct l yX2_resize cX2_resize 3 (some .boolean) (rmz 1 20) G [.ref g0, .int r2, .int c2] [(g0, .inr (2, [.int (nI nr), .int (nI nc)]))] (one (some (.int 1)) [(g0, .inr (2, [.int (nI r2.toNatClampNeg), .int (nI c2.toNatClampNeg)]))]) := by
  refine Ct.ofW (by decide) (Nat.le_of_ble_eq_true rfl) ?_
  intro p e s m below meth c ls A hx hb hml hr hown hts hlk hnm hP hD hA hE hS hl
  obtain ⟨H, eH⟩ : ∃ H : Heap, H = s.heap := ⟨_, rfl⟩
  obtain ⟨locs, eL⟩ : ∃ ll : List Loc, ll = [] := ⟨_, rfl⟩
  rw [← eH] at hP
  have hS : va_S A s.heap H locs := by rw [eH, eL]; exact hS
  show WC p l e _ s m _ below meth c G A _ s.heap [] 0 0 _
  rw [← eH, ← eL]
  clear eH eL
  have hl : lv_has ls 3 [(0, .ref g0), (1, .int r2), (2, .int c2)] := hl
  rw [Bool.and_eq_true] at hs1
  refine lv_iload_n hx hb dX2_resize_0 rfl (lv_at hl 1 rfl) ?_
  refine rd_callS (As := [.int r2]) (rest := []) hx hb hml hown hts (hE.at0 hS) hl.1 (c_X2_isSide l G r2 ) (cs_X2_18 hts) ⟨(Nat.le_of_ble_eq_true rfl), (Nat.le_of_ble_eq_true rfl)⟩ ⟨Nat.zero_le _, Nat.zero_le _⟩ rfl (sub_P hP [] rfl) rfl (Nat.le_of_ble_eq_true rfl) dX2_resize_1 ?_
  refine lv_if_eq (tgt := 14) hx hb dX2_resize_4 (by decide) (fun c4 => ?_) (fun c4 => ?_)
  · have c4 := zb_0.mp c4
    exact absurd (c4.symm.trans hs1.1) (by decide)
  · have c4 := zb_n0.mp c4
    refine lv_iload_n hx hb dX2_resize_7 rfl (lv_at hl 2 rfl) ?_
    refine rd_callS (As := [.int c2]) (rest := []) hx hb hml hown hts (hE.at0 hS) hl.1 (c_X2_isSide l G c2 ) (cs_X2_18 hts) ⟨(Nat.le_of_ble_eq_true rfl), (Nat.le_of_ble_eq_true rfl)⟩ ⟨Nat.zero_le _, Nat.zero_le _⟩ rfl (sub_P hP [] rfl) rfl (Nat.le_of_ble_eq_true rfl) dX2_resize_8 ?_
    refine lv_if_ne (tgt := 16) hx hb dX2_resize_11 (by decide) (fun c11 => ?_) (fun c11 => ?_)
    · have c11 := zb_n0.mp c11
      refine lv_aload_n hx hb dX2_resize_16 rfl (lv_at hl 0 rfl) ?_
      refine lv_iload_n hx hb dX2_resize_17 rfl (lv_at hl 1 rfl) ?_
      refine va_put (v := .int r2) (ty := .int) hx hb hts inlX2 tyX2 tyX2_ok nmX2 hown hE.1 hP hD hS 0 rfl rfl 0 (by decide) (fl_X2_9 hts) (fun _ h9 => h9) rfl (by decide +kernel) rfl rfl (Nat.le_of_ble_eq_true rfl) dX2_resize_18 (fun H locs hP hD hS => ?_)
      have hP : va_P G.1 vwCl [(g0, .inr (2, [.int r2, .int (nI nc)]))] H := hP
      have hD : va_D A [(g0, .inr (2, [.int r2, .int (nI nc)]))] := hD
      refine lv_aload_n hx hb dX2_resize_21 rfl (lv_at hl 0 rfl) ?_
      refine lv_iload_n hx hb dX2_resize_22 rfl (lv_at hl 2 rfl) ?_
      refine va_put (v := .int c2) (ty := .int) hx hb hts inlX2 tyX2 tyX2_ok nmX2 hown hE.1 hP hD hS 0 rfl rfl 1 (by decide) (fl_X2_15 hts) (fun _ h9 => h9) rfl (by decide +kernel) rfl rfl (Nat.le_of_ble_eq_true rfl) dX2_resize_23 (fun H locs hP hD hS => ?_)
      have hP : va_P G.1 vwCl [(g0, .inr (2, [.int r2, .int c2]))] H := hP
      have hD : va_D A [(g0, .inr (2, [.int r2, .int c2]))] := hD
      refine lv_iconst (v := 1) hx hb dX2_resize_26 (by decide) ?_
      exact ct_zret hx hb hr hlk dX2_resize_27 rfl hP hD hS (by exact ⟨rfl, by rw [← (isS_nI hs1.1).1, ← (isS_nI hs1.2).1]⟩)
    · have c11 := zb_0.mp c11
      exact absurd (c11.symm.trans hs1.2) (by decide)

set_option maxHeartbeats 4000000 in
set_option maxRecDepth 100000 in
theorem c_X6_numbersBehind (l : Launch) (G : Gv) (x : Int32)  : Rd l yX6_numbersBehind cX6_numbersBehind 1 (some .int) (rmz 0 0) G [.int x] [] (.int (nI (nbh x))) := by
  refine Rd.ofW (by decide) (Nat.le_of_ble_eq_true rfl) ?_
  intro p e s m below meth c ls hx hb hml hr hown hts hlk hP hE hl
  have hl : lv_has ls 1 [(0, .int x)] := hl
  refine lv_iload_n hx hb dX6_numbersBehind_0 rfl (lv_at hl 0 rfl) ?_
  by_cases e1_109 : x = 109
  · refine lv_lookup (off := 39) (tgt := 40) hx hb dX6_numbersBehind_1 (by decide) (by rw [e1_109]; rfl) (by decide) ?_
    refine lv_iconst (v := 3) hx hb dX6_numbersBehind_40 (by decide) ?_
    exact rd_iret hx hb hr hlk dX6_numbersBehind_41 (by simp [nbh, e1_109]; try rfl)
  by_cases e1_114 : x = 114
  · refine lv_lookup (off := 35) (tgt := 36) hx hb dX6_numbersBehind_1 (by decide) (by rw [e1_114]; rfl) (by decide) ?_
    refine lv_iconst (v := 2) hx hb dX6_numbersBehind_36 (by decide) ?_
    exact rd_iret hx hb hr hlk dX6_numbersBehind_37 (by simp [nbh, e1_109, e1_114]; try rfl)
  by_cases e1_116 : x = 116
  · refine lv_lookup (off := 37) (tgt := 38) hx hb dX6_numbersBehind_1 (by decide) (by rw [e1_116]; rfl) (by decide) ?_
    refine lv_iconst (v := 4) hx hb dX6_numbersBehind_38 (by decide) ?_
    exact rd_iret hx hb hr hlk dX6_numbersBehind_39 (by simp [nbh, e1_109, e1_114, e1_116]; try rfl)
  refine lv_lookup (off := 41) (tgt := 42) hx hb dX6_numbersBehind_1 (by decide) (by show Op.lookupswitch.offset [(109, 39), (114, 35), (116, 37)] 41 _ = _; rw [lv_osw (a := 109) e1_109 (by decide), lv_osw (a := 114) e1_114 (by decide), lv_osw (a := 116) e1_116 (by decide)]; rfl) (by decide) ?_
  refine lv_iconst (v := 0) hx hb dX6_numbersBehind_42 (by decide) ?_
  exact rd_iret hx hb hr hlk dX6_numbersBehind_43 (by simp [nbh, e1_109, e1_114, e1_116]; try rfl)

set_option maxHeartbeats 4000000 in
set_option maxRecDepth 100000 in
theorem c_X6_readNumbers (l : Launch) (G : Gv) (r0 : Nat) (j0 : Nat) (nb : Nat → Int32) (o0 : Nat) (t0 : Nat) (t1 : Nat) (Sg : Nat → Int32) (tn : Nat) (fr : Nat) (wn : Nat) (ht : tn ≤ 200) (hc : ∀ j, narrow .char (.int (Sg j)) = .int (Sg j)) (hwn : wn ≤ 4) (hfr : fr ≤ 1000) : Ct l yX6_readNumbers cX6_readNumbers 6 (some .int) (rmz 2 43) G [.ref r0, .ref t0, .int (nI fr), .int (nI wn)] [(r0, .inr (6, [.ref o0, .ref j0])), (j0, .inl (kI G, 4, .inl nb)), (t0, .inr (3, [.ref t1, .int (nI tn)])), (t1, .inl (kC G, 200, .inl Sg))] (one (some (.int ((rnL Sg tn wn wn 0 fr nb).1))) [(r0, .inr (6, [.ref o0, .ref j0])), (j0, .inl (kI G, 4, .inl ((rnL Sg tn wn wn 0 fr nb).2))), (t0, .inr (3, [.ref t1, .int (nI tn)])), (t1, .inl (kC G, 200, .inl Sg))]) := by
  refine Ct.ofW (by decide) (Nat.le_of_ble_eq_true rfl) ?_
  intro p e s m below meth c ls A hx hb hml hr hown hts hlk hnm hP hD hA hE hS hl
  obtain ⟨H, eH⟩ : ∃ H : Heap, H = s.heap := ⟨_, rfl⟩
  obtain ⟨locs, eL⟩ : ∃ ll : List Loc, ll = [] := ⟨_, rfl⟩
  rw [← eH] at hP
  have hS : va_S A s.heap H locs := by rw [eH, eL]; exact hS
  show WC p l e _ s m _ below meth c G A _ s.heap [] 0 0 _
  rw [← eH, ← eL]
  clear eH eL
  have hl : lv_has ls 6 [(0, .ref r0), (1, .ref t0), (2, .int (nI fr)), (3, .int (nI wn))] := hl
  have J_6 : ∀ (n_ : Nat) (k : Nat) (pl : Nat) (nb1 : Nat → Int32) (hk : k ≤ wn) (hpl : pl ≤ fr + 3 * k) (hR : rnL Sg tn wn wn 0 fr nb = rnL Sg tn wn (wn - k) k pl nb1) (hm_6 : wn - k < n_), ∀ (H : Heap) (locs : List Loc), va_P G.1 vwCl [(r0, .inr (6, [.ref o0, .ref j0])), (j0, .inl (kI G, 4, .inl nb1)), (t0, .inr (3, [.ref t1, .int (nI tn)])), (t1, .inl (kC G, 200, .inl Sg))] H → va_D A [(r0, .inr (6, [.ref o0, .ref j0])), (j0, .inl (kI G, 4, .inl nb1)), (t0, .inr (3, [.ref t1, .int (nI tn)])), (t1, .inl (kC G, 200, .inl Sg))] → va_S A s.heap H locs → ∀ ls : Array Slot, lv_has ls 6 [(0, .ref r0), (1, .ref t0), (2, .int (nI fr)), (3, .int (nI wn)), (4, .int (nI pl)), (5, .int (nI k))] → WC p l e (rmz 2 43) s m [.ref r0, .ref t0, .int (nI fr), .int (nI wn)] below meth c G A (one (some (.int ((rnL Sg tn wn wn 0 fr nb).1))) [(r0, .inr (6, [.ref o0, .ref j0])), (j0, .inl (kI G, 4, .inl ((rnL Sg tn wn wn 0 fr nb).2))), (t0, .inr (3, [.ref t1, .int (nI tn)])), (t1, .inl (kC G, 200, .inl Sg))]) H locs 0 0 (F0 m 6 ls []) := by
    intro n_
    induction n_ with
    | zero =>
      intro k pl nb1 hk hpl hR hm_6
      exact absurd hm_6 (Nat.not_lt_zero _)
    | succ n_ ih_6 =>
      intro k pl nb1 hk hpl hR hm_6 H locs hP hD hS ls hl
      have J_92 : ∀ (pl2 : Nat) (nb2 : Nat → Int32) (hkn : k < wn) (hf : fgI Sg tn (nI pl) = true) (e1 : pl2 = nmE Sg tn pl) (e2 : nb2 = upd nb1 k (nI (nmN Sg tn pl))), ∀ (H : Heap) (locs : List Loc), va_P G.1 vwCl [(r0, .inr (6, [.ref o0, .ref j0])), (j0, .inl (kI G, 4, .inl nb2)), (t0, .inr (3, [.ref t1, .int (nI tn)])), (t1, .inl (kC G, 200, .inl Sg))] H → va_D A [(r0, .inr (6, [.ref o0, .ref j0])), (j0, .inl (kI G, 4, .inl nb2)), (t0, .inr (3, [.ref t1, .int (nI tn)])), (t1, .inl (kC G, 200, .inl Sg))] → va_S A s.heap H locs → ∀ ls : Array Slot, lv_has ls 6 [(0, .ref r0), (1, .ref t0), (2, .int (nI fr)), (3, .int (nI wn)), (4, .int (nI pl2)), (5, .int (nI k))] → WC p l e (rmz 2 43) s m [.ref r0, .ref t0, .int (nI fr), .int (nI wn)] below meth c G A (one (some (.int ((rnL Sg tn wn wn 0 fr nb).1))) [(r0, .inr (6, [.ref o0, .ref j0])), (j0, .inl (kI G, 4, .inl ((rnL Sg tn wn wn 0 fr nb).2))), (t0, .inr (3, [.ref t1, .int (nI tn)])), (t1, .inl (kC G, 200, .inl Sg))]) H locs 0 0 (F0 m 92 ls []) := by
        intro pl2 nb2 hkn hf e1 e2 H locs hP hD hS ls hl
        have hbb := nmE_le Sg tn pl
        refine lv_aload_n hx hb dX6_readNumbers_92 rfl (lv_at hl 1 rfl) ?_
        refine lv_iload hx hb dX6_readNumbers_93 (lv_at hl 4 rfl) ?_
        refine rd_callV (As := [.int (nI pl2)]) (rest := []) hx hb hml hown hts (hE.at0 hS) hl.1 (c_X3_signAt l G t0 t1 Sg tn (nI pl2) (by first | assumption | omega) (by first | assumption | omega)) (cw_X6_31 hts) ⟨(Nat.le_of_ble_eq_true rfl), (Nat.le_of_ble_eq_true rfl)⟩ ⟨Nat.zero_le _, Nat.zero_le _⟩ rfl (sub_P hP [2, 3] rfl) rfl rfl rfl rfl (Nat.le_of_ble_eq_true rfl) dX6_readNumbers_95 ?_
        refine lv_iload hx hb dX6_readNumbers_98 (lv_at hl 5 rfl) ?_
        refine lv_iconst (v := 1) hx hb dX6_readNumbers_100 (by decide) ?_
        refine lv_iadd hx hb dX6_readNumbers_101 ?_
        rw [nI_1 k]
        refine lv_iload_n hx hb dX6_readNumbers_102 rfl (lv_at hl 3 rfl) ?_
        refine lv_icmp_ge (tgt := 111) hx hb dX6_readNumbers_103 (by decide) (fun c103 => ?_) (fun c103 => ?_)
        · have h103 : wn ≤ k + 1 := le_of_le (by omega) (by omega) c103
          refine lv_bipush (v := 59) hx hb dX6_readNumbers_111 (by decide) ?_
          refine lv_icmp_eq (tgt := 119) hx hb dX6_readNumbers_113 (by decide) (fun c113 => ?_) (fun c113 => ?_)
          · refine lv_iinc (v := nI (pl2 + 1)) (lv' := [(4, .int (nI (pl2 + 1))), (0, .ref r0), (1, .ref t0), (2, .int (nI fr)), (3, .int (nI wn)), (5, .int (nI k))]) hx hb dX6_readNumbers_119 hl (k := 4) rfl (nI_1 pl2) (by decide) rfl (fun ls hl => ?_)
            refine lv_iinc (v := nI (k + 1)) (lv' := [(5, .int (nI (k + 1))), (4, .int (nI (pl2 + 1))), (0, .ref r0), (1, .ref t0), (2, .int (nI fr)), (3, .int (nI wn))]) hx hb dX6_readNumbers_122 hl (k := 5) rfl (nI_1 k) (by decide) rfl (fun ls hl => ?_)
            refine lv_goto (tgt := 6) hx hb dX6_readNumbers_125 (by decide) ?_
            exact ih_6 (k + 1) (pl2 + 1) nb2 (by first | assumption | omega | rfl) (by first | assumption | omega | rfl) (by rw [hR, rnL_ok hkn hf (by rw [← e1, c113]; first | (rw [if_pos (show k + 1 < wn by omega)]; done) | (rw [if_neg (show ¬ k + 1 < wn by omega)]; done)), e1, e2]) (by omega) _ _ hP hD hS ls (lv_sub hl [2, 3, 4, 5, 1, 0] rfl)
          · refine lv_bipush (v := -4) hx hb dX6_readNumbers_116 (by decide) ?_
            exact ct_iret hx hb hr hlk dX6_readNumbers_118 hP hD hS (by rw [one, hR, rnL_bad hkn hf (by rw [← e1]; first | (rw [if_pos (show k + 1 < wn by omega)]; exact c113) | (rw [if_neg (show ¬ k + 1 < wn by omega)]; exact c113)), ← e2]; exact ⟨rfl, rfl⟩)
        · have h103 : k + 1 < wn := lt_of_nle (by omega) (by omega) c103
          refine lv_bipush (v := 44) hx hb dX6_readNumbers_106 (by decide) ?_
          refine lv_goto (tgt := 113) hx hb dX6_readNumbers_108 (by decide) ?_
          refine lv_icmp_eq (tgt := 119) hx hb dX6_readNumbers_113 (by decide) (fun c113 => ?_) (fun c113 => ?_)
          · refine lv_iinc (v := nI (pl2 + 1)) (lv' := [(4, .int (nI (pl2 + 1))), (0, .ref r0), (1, .ref t0), (2, .int (nI fr)), (3, .int (nI wn)), (5, .int (nI k))]) hx hb dX6_readNumbers_119 hl (k := 4) rfl (nI_1 pl2) (by decide) rfl (fun ls hl => ?_)
            refine lv_iinc (v := nI (k + 1)) (lv' := [(5, .int (nI (k + 1))), (4, .int (nI (pl2 + 1))), (0, .ref r0), (1, .ref t0), (2, .int (nI fr)), (3, .int (nI wn))]) hx hb dX6_readNumbers_122 hl (k := 5) rfl (nI_1 k) (by decide) rfl (fun ls hl => ?_)
            refine lv_goto (tgt := 6) hx hb dX6_readNumbers_125 (by decide) ?_
            exact ih_6 (k + 1) (pl2 + 1) nb2 (by first | assumption | omega | rfl) (by first | assumption | omega | rfl) (by rw [hR, rnL_ok hkn hf (by rw [← e1, c113]; first | (rw [if_pos (show k + 1 < wn by omega)]; done) | (rw [if_neg (show ¬ k + 1 < wn by omega)]; done)), e1, e2]) (by omega) _ _ hP hD hS ls (lv_sub hl [2, 3, 4, 5, 1, 0] rfl)
          · refine lv_bipush (v := -4) hx hb dX6_readNumbers_116 (by decide) ?_
            exact ct_iret hx hb hr hlk dX6_readNumbers_118 hP hD hS (by rw [one, hR, rnL_bad hkn hf (by rw [← e1]; first | (rw [if_pos (show k + 1 < wn by omega)]; exact c113) | (rw [if_neg (show ¬ k + 1 < wn by omega)]; exact c113)), ← e2]; exact ⟨rfl, rfl⟩)
      refine lv_iload hx hb dX6_readNumbers_6 (lv_at hl 5 rfl) ?_
      refine lv_iload_n hx hb dX6_readNumbers_8 rfl (lv_at hl 3 rfl) ?_
      refine lv_icmp_ge (tgt := 128) hx hb dX6_readNumbers_9 (by decide) (fun c9 => ?_) (fun c9 => ?_)
      · have hkn : wn ≤ k := le_of_le (by omega) (by omega) c9
        refine lv_iload_n hx hb dX6_readNumbers_128 rfl (lv_at hl 3 rfl) ?_
        refine lv_if_ne (tgt := 137) hx hb dX6_readNumbers_129 (by decide) (fun c129 => ?_) (fun c129 => ?_)
        · have c129 : ¬ wn = 0 := fun z => c129 (by rw [z]; rfl)
          refine lv_iload hx hb dX6_readNumbers_137 (lv_at hl 4 rfl) ?_
          exact ct_iret hx hb hr hlk dX6_readNumbers_139 hP hD hS (by rw [one, hR, rnL_end hkn]; first | (rw [if_neg c129]; exact ⟨rfl, rfl⟩) | (rw [if_pos c129]; exact ⟨rfl, rfl⟩))
        · have c129 : wn = 0 := (nI_eq (a := wn) (b := 0) (by omega) (by decide)).mp c129
          refine lv_bipush (v := -4) hx hb dX6_readNumbers_132 (by decide) ?_
          refine lv_goto (tgt := 139) hx hb dX6_readNumbers_134 (by decide) ?_
          exact ct_iret hx hb hr hlk dX6_readNumbers_139 hP hD hS (by rw [one, hR, rnL_end hkn]; first | (rw [if_neg c129]; exact ⟨rfl, rfl⟩) | (rw [if_pos c129]; exact ⟨rfl, rfl⟩))
      · have hkn : k < wn := lt_of_nle (by omega) (by omega) c9
        refine lv_iload hx hb dX6_readNumbers_12 (lv_at hl 5 rfl) ?_
        refine lv_aload_n hx hb dX6_readNumbers_14 rfl (lv_at hl 0 rfl) ?_
        refine va_get hx hb hts inlX6 hown hE.1 hP 0 rfl rfl 1 (by decide) (fl_X6_18 hts) (fun _ h9 => h9) rfl dX6_readNumbers_15 ?_
        refine va_alen hx hb hE.1 hP 1 0 rfl rfl rfl dX6_readNumbers_18 ?_
        refine lv_icmp_ge (tgt := 128) hx hb dX6_readNumbers_19 (by decide) (fun c19 => ?_) (fun c19 => ?_)
        · exact absurd (le_of_le (n := 4) (by omega) (by omega) c19) (by omega)
        · refine lv_aload_n hx hb dX6_readNumbers_22 rfl (lv_at hl 1 rfl) ?_
          refine lv_iload hx hb dX6_readNumbers_23 (lv_at hl 4 rfl) ?_
          refine rd_callV (As := [.int (nI pl)]) (rest := []) hx hb hml hown hts (hE.at0 hS) hl.1 (c_X3_isFigureAt l G t0 t1 Sg tn (nI pl) (by first | assumption | omega) (by first | assumption | omega)) (cw_X6_47 hts) ⟨(Nat.le_of_ble_eq_true rfl), (Nat.le_of_ble_eq_true rfl)⟩ ⟨Nat.zero_le _, Nat.zero_le _⟩ rfl (sub_P hP [2, 3] rfl) rfl rfl rfl rfl (Nat.le_of_ble_eq_true rfl) dX6_readNumbers_25 ?_
          refine lv_if_ne (tgt := 34) hx hb dX6_readNumbers_28 (by decide) (fun c28 => ?_) (fun c28 => ?_)
          · have c28 := zb_n0.mp c28
            refine lv_aload_n hx hb dX6_readNumbers_34 rfl (lv_at hl 0 rfl) ?_
            refine va_get hx hb hts inlX6 hown hE.1 hP 0 rfl rfl 1 (by decide) (fl_X6_18 hts) (fun _ h9 => h9) rfl dX6_readNumbers_35 ?_
            refine lv_iload hx hb dX6_readNumbers_38 (lv_at hl 5 rfl) ?_
            refine lv_aload_n hx hb dX6_readNumbers_40 rfl (lv_at hl 1 rfl) ?_
            refine lv_iload hx hb dX6_readNumbers_41 (lv_at hl 4 rfl) ?_
            refine rd_callV (As := [.int (nI pl)]) (rest := [.int (nI k), .ref j0]) hx hb hml hown hts (hE.at0 hS) hl.1 (c_X3_signAt l G t0 t1 Sg tn (nI pl) (by first | assumption | omega) (by first | assumption | omega)) (cw_X6_31 hts) ⟨(Nat.le_of_ble_eq_true rfl), (Nat.le_of_ble_eq_true rfl)⟩ ⟨Nat.zero_le _, Nat.zero_le _⟩ rfl (sub_P hP [2, 3] rfl) rfl rfl rfl rfl (Nat.le_of_ble_eq_true rfl) dX6_readNumbers_43 ?_
            refine lv_bipush (v := 48) hx hb dX6_readNumbers_46 (by decide) ?_
            refine lv_isub hx hb dX6_readNumbers_48 ?_
            refine va_iast hx hb hE.1 hP hD hS 1 0 rfl rfl (vp_in_nI (by omega) (by omega)) dX6_readNumbers_49 (fun H locs hP hD hS => ?_)
            have hP : va_P G.1 vwCl [(r0, .inr (6, [.ref o0, .ref j0])), (j0, .inl (kI G, 4, .inl (upd nb1 (nI k).toNatClampNeg ((sgI Sg tn (nI pl)) - 48)))), (t0, .inr (3, [.ref t1, .int (nI tn)])), (t1, .inl (kC G, 200, .inl Sg))] H := hP
            have hD : va_D A [(r0, .inr (6, [.ref o0, .ref j0])), (j0, .inl (kI G, 4, .inl (upd nb1 (nI k).toNatClampNeg ((sgI Sg tn (nI pl)) - 48)))), (t0, .inr (3, [.ref t1, .int (nI tn)])), (t1, .inl (kC G, 200, .inl Sg))] := hD
            refine lv_iinc (v := nI (pl + 1)) (lv' := [(4, .int (nI (pl + 1))), (0, .ref r0), (1, .ref t0), (2, .int (nI fr)), (3, .int (nI wn)), (5, .int (nI k))]) hx hb dX6_readNumbers_50 hl (k := 4) rfl (nI_1 pl) (by decide) rfl (fun ls hl => ?_)
            refine lv_aload_n hx hb dX6_readNumbers_53 rfl (lv_at hl 2 rfl) ?_
            refine lv_iload hx hb dX6_readNumbers_54 (lv_at hl 0 rfl) ?_
            refine rd_callV (As := [.int (nI (pl + 1))]) (rest := []) hx hb hml hown hts (hE.at0 hS) hl.1 (c_X3_isFigureAt l G t0 t1 Sg tn (nI (pl + 1)) (by first | assumption | omega) (by first | assumption | omega)) (cw_X6_47 hts) ⟨(Nat.le_of_ble_eq_true rfl), (Nat.le_of_ble_eq_true rfl)⟩ ⟨Nat.zero_le _, Nat.zero_le _⟩ rfl (sub_P hP [2, 3] rfl) rfl rfl rfl rfl (Nat.le_of_ble_eq_true rfl) dX6_readNumbers_56 ?_
            refine lv_if_eq (tgt := 92) hx hb dX6_readNumbers_59 (by decide) (fun c59 => ?_) (fun c59 => ?_)
            · have c59 := zb_0.mp c59
              exact J_92 (pl + 1) (upd nb1 (nI k).toNatClampNeg ((sgI Sg tn (nI pl)) - 48)) (by first | assumption | omega | rfl) c28 (by simp [nmE, c59]) (nb_one (by omega) c28 c59) _ _ hP hD hS ls (lv_sub hl [1, 2, 3, 4, 0, 5] rfl)
            · have c59 := zb_n0.mp c59
              refine lv_aload_n hx hb dX6_readNumbers_62 rfl (lv_at hl 1 rfl) ?_
              refine va_get hx hb hts inlX6 hown hE.1 hP 0 rfl rfl 1 (by decide) (fl_X6_18 hts) (fun _ h9 => h9) rfl dX6_readNumbers_63 ?_
              refine lv_iload hx hb dX6_readNumbers_66 (lv_at hl 5 rfl) ?_
              refine lv_bipush (v := 10) hx hb dX6_readNumbers_68 (by decide) ?_
              refine lv_aload_n hx hb dX6_readNumbers_70 rfl (lv_at hl 1 rfl) ?_
              refine va_get hx hb hts inlX6 hown hE.1 hP 0 rfl rfl 1 (by decide) (fl_X6_18 hts) (fun _ h9 => h9) rfl dX6_readNumbers_71 ?_
              refine lv_iload hx hb dX6_readNumbers_74 (lv_at hl 5 rfl) ?_
              refine va_iald hx hb hE.1 hP 1 0 rfl rfl (vp_in_nI (by omega) (by omega)) dX6_readNumbers_76 ?_
              refine lv_imul hx hb dX6_readNumbers_77 ?_
              refine lv_aload_n hx hb dX6_readNumbers_78 rfl (lv_at hl 2 rfl) ?_
              refine lv_iload hx hb dX6_readNumbers_79 (lv_at hl 0 rfl) ?_
              refine rd_callV (As := [.int (nI (pl + 1))]) (rest := [.int (10 * ((upd nb1 (nI k).toNatClampNeg ((sgI Sg tn (nI pl)) - 48)) (nI k).toNatClampNeg)), .int (nI k), .ref j0]) hx hb hml hown hts (hE.at0 hS) hl.1 (c_X3_signAt l G t0 t1 Sg tn (nI (pl + 1)) (by first | assumption | omega) (by first | assumption | omega)) (cw_X6_31 hts) ⟨(Nat.le_of_ble_eq_true rfl), (Nat.le_of_ble_eq_true rfl)⟩ ⟨Nat.zero_le _, Nat.zero_le _⟩ rfl (sub_P hP [2, 3] rfl) rfl rfl rfl rfl (Nat.le_of_ble_eq_true rfl) dX6_readNumbers_81 ?_
              refine lv_iadd hx hb dX6_readNumbers_84 ?_
              refine lv_bipush (v := 48) hx hb dX6_readNumbers_85 (by decide) ?_
              refine lv_isub hx hb dX6_readNumbers_87 ?_
              refine va_iast hx hb hE.1 hP hD hS 1 0 rfl rfl (vp_in_nI (by omega) (by omega)) dX6_readNumbers_88 (fun H locs hP hD hS => ?_)
              have hP : va_P G.1 vwCl [(r0, .inr (6, [.ref o0, .ref j0])), (j0, .inl (kI G, 4, .inl (upd (upd nb1 (nI k).toNatClampNeg ((sgI Sg tn (nI pl)) - 48)) (nI k).toNatClampNeg (((10 * ((upd nb1 (nI k).toNatClampNeg ((sgI Sg tn (nI pl)) - 48)) (nI k).toNatClampNeg)) + (sgI Sg tn (nI (pl + 1)))) - 48)))), (t0, .inr (3, [.ref t1, .int (nI tn)])), (t1, .inl (kC G, 200, .inl Sg))] H := hP
              have hD : va_D A [(r0, .inr (6, [.ref o0, .ref j0])), (j0, .inl (kI G, 4, .inl (upd (upd nb1 (nI k).toNatClampNeg ((sgI Sg tn (nI pl)) - 48)) (nI k).toNatClampNeg (((10 * ((upd nb1 (nI k).toNatClampNeg ((sgI Sg tn (nI pl)) - 48)) (nI k).toNatClampNeg)) + (sgI Sg tn (nI (pl + 1)))) - 48)))), (t0, .inr (3, [.ref t1, .int (nI tn)])), (t1, .inl (kC G, 200, .inl Sg))] := hD
              refine lv_iinc (v := nI (pl + 1 + 1)) (lv' := [(4, .int (nI (pl + 1 + 1))), (0, .ref r0), (1, .ref t0), (2, .int (nI fr)), (3, .int (nI wn)), (5, .int (nI k))]) hx hb dX6_readNumbers_89 hl (k := 0) rfl (nI_1 (pl + 1)) (by decide) rfl (fun ls hl => ?_)
              exact J_92 (pl + 1 + 1) (upd (upd nb1 (nI k).toNatClampNeg ((sgI Sg tn (nI pl)) - 48)) (nI k).toNatClampNeg (((10 * ((upd nb1 (nI k).toNatClampNeg ((sgI Sg tn (nI pl)) - 48)) (nI k).toNatClampNeg)) + (sgI Sg tn (nI (pl + 1)))) - 48)) (by first | assumption | omega | rfl) c28 (by simp [nmE, c59]) (nb_two (by omega) c28 c59) _ _ hP hD hS ls (lv_sub hl [1, 2, 3, 4, 0, 5] rfl)
          · have c28 := zb_0.mp c28
            refine lv_bipush (v := -4) hx hb dX6_readNumbers_31 (by decide) ?_
            exact ct_iret hx hb hr hlk dX6_readNumbers_33 hP hD hS (by rw [one, hR, rnL_no hkn c28]; exact ⟨rfl, rfl⟩)
  refine lv_iload_n hx hb dX6_readNumbers_0 rfl (lv_at hl 2 rfl) ?_
  refine lv_istore (lv' := [(4, .int (nI fr)), (0, .ref r0), (1, .ref t0), (2, .int (nI fr)), (3, .int (nI wn))]) hx hb dX6_readNumbers_1 hl (by decide) rfl (fun ls hl => ?_)
  refine lv_iconst (v := 0) hx hb dX6_readNumbers_3 (by decide) ?_
  refine lv_istore (lv' := [(5, .int 0), (4, .int (nI fr)), (0, .ref r0), (1, .ref t0), (2, .int (nI fr)), (3, .int (nI wn))]) hx hb dX6_readNumbers_4 hl (by decide) rfl (fun ls hl => ?_)
  exact J_6 (wn - 0 + 1) 0 fr nb (by first | assumption | omega | rfl) (by first | assumption | omega | rfl) rfl (Nat.lt_succ_self _) _ _ hP hD hS ls (lv_sub hl [2, 3, 4, 5, 1, 0] rfl)

set_option maxHeartbeats 4000000 in
set_option maxRecDepth 100000 in
theorem c_X6_takeRows (l : Launch) (G : Gv) (r0 : Nat) (j0 : Nat) (nb : Nat → Int32) (o0 : Nat) (g0 : Nat) (nr : Nat) (nc : Nat) (a0 : Nat) (a1 : Nat) (a2 : Nat) (a3 : Nat) (a4 : Nat) (C : Nat → Int32) (B : Nat → Int32) (F : Nat → Int32) (K : Nat → Int32) (n : Nat) (y : Int32) (h0 : Nat) (h1 : Nat) (h2 : Nat) (h3 : Nat) (Yr : Nat → Int32) (Dn : Nat → Int32) (Rt : Nat → Int32) (q : Nat) (r2 : Int32) (c2 : Int32) (hn : n ≤ 10) (hq : q ≤ 5) : Ct l yX6_takeRows cX6_takeRows 3 (some .boolean) (rmz 2 42) G [.ref r0, .int r2, .int c2] [(r0, .inr (6, [.ref o0, .ref j0])), (j0, .inl (kI G, 4, .inl nb)), (o0, .inr (1, [.ref g0, .ref a0, .ref h0])), (g0, .inr (2, [.int (nI nr), .int (nI nc)])), (a0, .inr (4, [.ref a1, .ref a2, .ref a3, .ref a4, .int (nI n), .int y])), (a1, .inl (kI G, 10, .inl C)), (a2, .inl (kI G, 10, .inl B)), (a3, .inl (kI G, 10, .inl F)), (a4, .inl (kI G, 10, .inl K)), (h0, .inr (0, [.ref h1, .ref h2, .ref h3, .int (nI q)])), (h1, .inl (kI G, 5, .inl Yr)), (h2, .inl (kI G, 5, .inl Dn)), (h3, .inl (kI G, 5, .inl Rt))] (one (some (.int (zb (trB n q r2 c2)))) [(r0, .inr (6, [.ref o0, .ref j0])), (j0, .inl (kI G, 4, .inl nb)), (o0, .inr (1, [.ref g0, .ref a0, .ref h0])), (g0, .inr (2, [.int (nI (if trB n q r2 c2 then r2.toNatClampNeg else nr)), .int (nI (if trB n q r2 c2 then c2.toNatClampNeg else nc))])), (a0, .inr (4, [.ref a1, .ref a2, .ref a3, .ref a4, .int (nI n), .int y])), (a1, .inl (kI G, 10, .inl C)), (a2, .inl (kI G, 10, .inl B)), (a3, .inl (kI G, 10, .inl F)), (a4, .inl (kI G, 10, .inl K)), (h0, .inr (0, [.ref h1, .ref h2, .ref h3, .int (nI q)])), (h1, .inl (kI G, 5, .inl Yr)), (h2, .inl (kI G, 5, .inl Dn)), (h3, .inl (kI G, 5, .inl Rt))]) := by
  refine Ct.ofW (by decide) (Nat.le_of_ble_eq_true rfl) ?_
  intro p e s m below meth c ls A hx hb hml hr hown hts hlk hnm hP hD hA hE hS hl
  obtain ⟨H, eH⟩ : ∃ H : Heap, H = s.heap := ⟨_, rfl⟩
  obtain ⟨locs, eL⟩ : ∃ ll : List Loc, ll = [] := ⟨_, rfl⟩
  rw [← eH] at hP
  have hS : va_S A s.heap H locs := by rw [eH, eL]; exact hS
  show WC p l e _ s m _ below meth c G A _ s.heap [] 0 0 _
  rw [← eH, ← eL]
  clear eH eL
  have hl : lv_has ls 3 [(0, .ref r0), (1, .int r2), (2, .int c2)] := hl
  refine lv_aload_n hx hb dX6_takeRows_0 rfl (lv_at hl 0 rfl) ?_
  refine va_get hx hb hts inlX6 hown hE.1 hP 0 rfl rfl 0 (by decide) (fl_X6_12 hts) (fun _ h9 => h9) rfl dX6_takeRows_1 ?_
  refine va_getN hx hb hts inlX1 hown hE.1 hP 2 rfl rfl 1 (by decide) (nf_X6_63 hE.2.1) (fun _ h9 => h9) rfl dX6_takeRows_4 ?_
  refine rd_callV (As := []) (rest := []) hx hb hml hown hts (hE.at0 hS) hl.1 (c_X4_size l G a0 a1 a2 a3 a4 C B F K n y ) (cw_X6_67 hts) ⟨(Nat.le_of_ble_eq_true rfl), (Nat.le_of_ble_eq_true rfl)⟩ ⟨Nat.zero_le _, Nat.zero_le _⟩ rfl (sub_P hP [4, 5, 6, 7, 8] rfl) rfl rfl rfl rfl (Nat.le_of_ble_eq_true rfl) dX6_takeRows_7 ?_
  refine lv_if_gt (tgt := 26) hx hb dX6_takeRows_10 (by decide) (fun c10 => ?_) (fun c10 => ?_)
  · have c10 := nI_0gt (a := n) (by omega) c10
    refine lv_iconst (v := 0) hx hb dX6_takeRows_26 (by decide) ?_
    exact ct_zret hx hb hr hlk dX6_takeRows_27 rfl hP hD hS (by simp [one, trB, c10, zb])
  · have c10 := nI_0nlt (a := n) (by omega) c10
    refine lv_aload_n hx hb dX6_takeRows_13 rfl (lv_at hl 0 rfl) ?_
    refine va_get hx hb hts inlX6 hown hE.1 hP 0 rfl rfl 0 (by decide) (fl_X6_12 hts) (fun _ h9 => h9) rfl dX6_takeRows_14 ?_
    refine va_getN hx hb hts inlX1 hown hE.1 hP 2 rfl rfl 2 (by decide) (nf_X6_72 hE.2.1) (fun _ h9 => h9) rfl dX6_takeRows_17 ?_
    refine rd_callV (As := []) (rest := []) hx hb hml hown hts (hE.at0 hS) hl.1 (c_X0_size l G h0 h1 h2 h3 Yr Dn Rt q ) (cw_X6_76 hts) ⟨(Nat.le_of_ble_eq_true rfl), (Nat.le_of_ble_eq_true rfl)⟩ ⟨Nat.zero_le _, Nat.zero_le _⟩ rfl (sub_P hP [9, 10, 11, 12] rfl) rfl rfl rfl rfl (Nat.le_of_ble_eq_true rfl) dX6_takeRows_20 ?_
    refine lv_if_le (tgt := 28) hx hb dX6_takeRows_23 (by decide) (fun c23 => ?_) (fun c23 => ?_)
    · have c23 := nI_0le (a := q) (by omega) c23
      refine lv_aload_n hx hb dX6_takeRows_28 rfl (lv_at hl 0 rfl) ?_
      refine va_get hx hb hts inlX6 hown hE.1 hP 0 rfl rfl 0 (by decide) (fl_X6_12 hts) (fun _ h9 => h9) rfl dX6_takeRows_29 ?_
      refine va_getN hx hb hts inlX1 hown hE.1 hP 2 rfl rfl 0 (by decide) (nf_X6_79 hE.2.1) (fun _ h9 => h9) rfl dX6_takeRows_32 ?_
      refine lv_iload_n hx hb dX6_takeRows_35 rfl (lv_at hl 1 rfl) ?_
      refine lv_iload_n hx hb dX6_takeRows_36 rfl (lv_at hl 2 rfl) ?_
      by_cases hz : (isS r2 && isS c2) = true
      · refine ct_callV (w1 := [(g0, .inr (2, [.int (nI r2.toNatClampNeg), .int (nI c2.toNatClampNeg)]))]) (wr := [(r0, .inr (6, [.ref o0, .ref j0])), (j0, .inl (kI G, 4, .inl nb)), (o0, .inr (1, [.ref g0, .ref a0, .ref h0])), (a0, .inr (4, [.ref a1, .ref a2, .ref a3, .ref a4, .int (nI n), .int y])), (a1, .inl (kI G, 10, .inl C)), (a2, .inl (kI G, 10, .inl B)), (a3, .inl (kI G, 10, .inl F)), (a4, .inl (kI G, 10, .inl K)), (h0, .inr (0, [.ref h1, .ref h2, .ref h3, .int (nI q)])), (h1, .inl (kI G, 5, .inl Yr)), (h2, .inl (kI G, 5, .inl Dn)), (h3, .inl (kI G, 5, .inl Rt))]) (wn := [(r0, .inr (6, [.ref o0, .ref j0])), (j0, .inl (kI G, 4, .inl nb)), (o0, .inr (1, [.ref g0, .ref a0, .ref h0])), (g0, .inr (2, [.int (nI r2.toNatClampNeg), .int (nI c2.toNatClampNeg)])), (a0, .inr (4, [.ref a1, .ref a2, .ref a3, .ref a4, .int (nI n), .int y])), (a1, .inl (kI G, 10, .inl C)), (a2, .inl (kI G, 10, .inl B)), (a3, .inl (kI G, 10, .inl F)), (a4, .inl (kI G, 10, .inl K)), (h0, .inr (0, [.ref h1, .ref h2, .ref h3, .int (nI q)])), (h1, .inl (kI G, 5, .inl Yr)), (h2, .inl (kI G, 5, .inl Dn)), (h3, .inl (kI G, 5, .inl Rt))]) (As := [.int r2, .int c2]) (rest := []) hx hb hml hown hts hE hA hl.1 hP hD hS (c_X2_resize_i l G g0 nr nc r2 c2 hz) (cw_X6_83 hts) ⟨(Nat.le_of_ble_eq_true rfl), (Nat.le_of_ble_eq_true rfl)⟩ ⟨(Nat.le_of_ble_eq_true rfl), (Nat.le_of_ble_eq_true rfl)⟩ rfl [3] [0, 1, 2, 4, 5, 6, 7, 8, 9, 10, 11, 12] [0, 1, 2, 12, 3, 4, 5, 6, 7, 8, 9, 10, 11] rfl rfl ⟨by decide, by decide, by decide, by decide⟩ rfl rfl rfl rfl rfl (Nat.le_of_ble_eq_true rfl) dX6_takeRows_37 (fun H locs hP hD hS => ?_)
        show WC p l e _ s m _ below meth c G A _ H locs 0 0 (F0 m 40 ls [.int 1])
        exact ct_zret hx hb hr hlk dX6_takeRows_40 rfl hP hD hS (by first | (simp [one, trB, c10, c23, hz, zb]; done) | (have hz2 := Bool.eq_false_iff.mpr hz; simp only [one, trB, hz2, Bool.and_false, zb]; exact ⟨rfl, rfl⟩))
      · refine ct_callV (w1 := [(g0, .inr (2, [.int (nI nr), .int (nI nc)]))]) (wr := [(r0, .inr (6, [.ref o0, .ref j0])), (j0, .inl (kI G, 4, .inl nb)), (o0, .inr (1, [.ref g0, .ref a0, .ref h0])), (a0, .inr (4, [.ref a1, .ref a2, .ref a3, .ref a4, .int (nI n), .int y])), (a1, .inl (kI G, 10, .inl C)), (a2, .inl (kI G, 10, .inl B)), (a3, .inl (kI G, 10, .inl F)), (a4, .inl (kI G, 10, .inl K)), (h0, .inr (0, [.ref h1, .ref h2, .ref h3, .int (nI q)])), (h1, .inl (kI G, 5, .inl Yr)), (h2, .inl (kI G, 5, .inl Dn)), (h3, .inl (kI G, 5, .inl Rt))]) (wn := [(r0, .inr (6, [.ref o0, .ref j0])), (j0, .inl (kI G, 4, .inl nb)), (o0, .inr (1, [.ref g0, .ref a0, .ref h0])), (g0, .inr (2, [.int (nI nr), .int (nI nc)])), (a0, .inr (4, [.ref a1, .ref a2, .ref a3, .ref a4, .int (nI n), .int y])), (a1, .inl (kI G, 10, .inl C)), (a2, .inl (kI G, 10, .inl B)), (a3, .inl (kI G, 10, .inl F)), (a4, .inl (kI G, 10, .inl K)), (h0, .inr (0, [.ref h1, .ref h2, .ref h3, .int (nI q)])), (h1, .inl (kI G, 5, .inl Yr)), (h2, .inl (kI G, 5, .inl Dn)), (h3, .inl (kI G, 5, .inl Rt))]) (As := [.int r2, .int c2]) (rest := []) hx hb hml hown hts hE hA hl.1 hP hD hS (c_X2_resize_no l G g0 nr nc r2 c2 (Bool.eq_false_iff.mpr hz)) (cw_X6_83 hts) ⟨(Nat.le_of_ble_eq_true rfl), (Nat.le_of_ble_eq_true rfl)⟩ ⟨(Nat.le_of_ble_eq_true rfl), (Nat.le_of_ble_eq_true rfl)⟩ rfl [3] [0, 1, 2, 4, 5, 6, 7, 8, 9, 10, 11, 12] [0, 1, 2, 12, 3, 4, 5, 6, 7, 8, 9, 10, 11] rfl rfl ⟨by decide, by decide, by decide, by decide⟩ rfl rfl rfl rfl rfl (Nat.le_of_ble_eq_true rfl) dX6_takeRows_37 (fun H locs hP hD hS => ?_)
        show WC p l e _ s m _ below meth c G A _ H locs 0 0 (F0 m 40 ls [.int 0])
        exact ct_zret hx hb hr hlk dX6_takeRows_40 rfl hP hD hS (by first | (simp [one, trB, c10, c23, hz, zb]; done) | (have hz2 := Bool.eq_false_iff.mpr hz; simp only [one, trB, hz2, Bool.and_false, zb]; exact ⟨rfl, rfl⟩))
    · have c23 : ¬ q = 0 := by have := nI_0lt c23; omega
      refine lv_iconst (v := 0) hx hb dX6_takeRows_26 (by decide) ?_
      exact ct_zret hx hb hr hlk dX6_takeRows_27 rfl hP hD hS (by simp [one, trB, c10, c23, zb])

set_option maxHeartbeats 4000000 in
set_option maxRecDepth 100000 in
theorem c_X6_takeThing (l : Launch) (G : Gv) (r0 : Nat) (j0 : Nat) (nb : Nat → Int32) (o0 : Nat) (g0 : Nat) (nr : Nat) (nc : Nat) (a0 : Nat) (a1 : Nat) (a2 : Nat) (a3 : Nat) (a4 : Nat) (C : Nat → Int32) (B : Nat → Int32) (F : Nat → Int32) (K : Nat → Int32) (n : Nat) (y : Int32) (h0 : Nat) (h1 : Nat) (h2 : Nat) (h3 : Nat) (Yr : Nat → Int32) (Dn : Nat → Int32) (Rt : Nat → Int32) (q : Nat) (x : Int32) (b : Int32) (f : Int32) (k : Int32) (hg1 : 2 ≤ nr ∧ nr ≤ 8) (hg2 : 2 ≤ nc ∧ nc ≤ 8) (hn : n ≤ 10) (hq : q ≤ 5) : Ct l yX6_takeThing cX6_takeThing 5 (some .boolean) (rmz 2 44) G [.ref r0, .int x, .int b, .int f, .int k] [(r0, .inr (6, [.ref o0, .ref j0])), (j0, .inl (kI G, 4, .inl nb)), (o0, .inr (1, [.ref g0, .ref a0, .ref h0])), (g0, .inr (2, [.int (nI nr), .int (nI nc)])), (a0, .inr (4, [.ref a1, .ref a2, .ref a3, .ref a4, .int (nI n), .int y])), (a1, .inl (kI G, 10, .inl C)), (a2, .inl (kI G, 10, .inl B)), (a3, .inl (kI G, 10, .inl F)), (a4, .inl (kI G, 10, .inl K)), (h0, .inr (0, [.ref h1, .ref h2, .ref h3, .int (nI q)])), (h1, .inl (kI G, 5, .inl Yr)), (h2, .inl (kI G, 5, .inl Dn)), (h3, .inl (kI G, 5, .inl Rt))] (one (some (.int (zb (ttB nr nc C n x b f k)))) [(r0, .inr (6, [.ref o0, .ref j0])), (j0, .inl (kI G, 4, .inl nb)), (o0, .inr (1, [.ref g0, .ref a0, .ref h0])), (g0, .inr (2, [.int (nI nr), .int (nI nc)])), (a0, .inr (4, [.ref a1, .ref a2, .ref a3, .ref a4, .int (nI (if ttB nr nc C n x b f k then n + 1 else n)), .int y])), (a1, .inl (kI G, 10, .inl (if ttB nr nc C n x b f k then upd C n x else C))), (a2, .inl (kI G, 10, .inl (if ttB nr nc C n x b f k then upd B n b else B))), (a3, .inl (kI G, 10, .inl (if ttB nr nc C n x b f k then upd F n (fl9 f) else F))), (a4, .inl (kI G, 10, .inl (if ttB nr nc C n x b f k then upd K n k else K))), (h0, .inr (0, [.ref h1, .ref h2, .ref h3, .int (nI q)])), (h1, .inl (kI G, 5, .inl Yr)), (h2, .inl (kI G, 5, .inl Dn)), (h3, .inl (kI G, 5, .inl Rt))]) := by
  refine Ct.ofW (by decide) (Nat.le_of_ble_eq_true rfl) ?_
  intro p e s m below meth c ls A hx hb hml hr hown hts hlk hnm hP hD hA hE hS hl
  obtain ⟨H, eH⟩ : ∃ H : Heap, H = s.heap := ⟨_, rfl⟩
  obtain ⟨locs, eL⟩ : ∃ ll : List Loc, ll = [] := ⟨_, rfl⟩
  rw [← eH] at hP
  have hS : va_S A s.heap H locs := by rw [eH, eL]; exact hS
  show WC p l e _ s m _ below meth c G A _ s.heap [] 0 0 _
  rw [← eH, ← eL]
  clear eH eL
  have hl : lv_has ls 5 [(0, .ref r0), (1, .int x), (2, .int b), (3, .int f), (4, .int k)] := hl
  refine lv_aload_n hx hb dX6_takeThing_0 rfl (lv_at hl 0 rfl) ?_
  refine va_get hx hb hts inlX6 hown hE.1 hP 0 rfl rfl 0 (by decide) (fl_X6_12 hts) (fun _ h9 => h9) rfl dX6_takeThing_1 ?_
  refine va_getN hx hb hts inlX1 hown hE.1 hP 2 rfl rfl 0 (by decide) (nf_X6_79 hE.2.1) (fun _ h9 => h9) rfl dX6_takeThing_4 ?_
  refine lv_iload_n hx hb dX6_takeThing_7 rfl (lv_at hl 1 rfl) ?_
  refine rd_callV (As := [.int x]) (rest := []) hx hb hml hown hts (hE.at0 hS) hl.1 (c_X2_has l G g0 nr nc x (by first | assumption | omega) (by first | assumption | omega)) (cw_X6_88 hts) ⟨(Nat.le_of_ble_eq_true rfl), (Nat.le_of_ble_eq_true rfl)⟩ ⟨Nat.zero_le _, Nat.zero_le _⟩ rfl (sub_P hP [3] rfl) rfl rfl rfl rfl (Nat.le_of_ble_eq_true rfl) dX6_takeThing_8 ?_
  refine lv_if_eq (tgt := 25) hx hb dX6_takeThing_11 (by decide) (fun c11 => ?_) (fun c11 => ?_)
  · have c11 := zb_0.mp c11
    refine lv_iconst (v := 0) hx hb dX6_takeThing_25 (by decide) ?_
    exact ct_zret hx hb hr hlk dX6_takeThing_26 rfl hP hD hS (by simp [one, ttB, fl9, zb, c11])
  · have c11 := zb_n0.mp c11
    refine lv_iload_n hx hb dX6_takeThing_14 rfl (lv_at hl 2 rfl) ?_
    refine lv_iload_n hx hb dX6_takeThing_15 rfl (lv_at hl 3 rfl) ?_
    refine lv_icmp_ge (tgt := 25) hx hb dX6_takeThing_16 (by decide) (fun c16 => ?_) (fun c16 => ?_)
    · refine lv_iconst (v := 0) hx hb dX6_takeThing_25 (by decide) ?_
      exact ct_zret hx hb hr hlk dX6_takeThing_26 rfl hP hD hS (by simp [one, ttB, fl9, zb, c11, c16])
    · refine lv_iload hx hb dX6_takeThing_19 (lv_at hl 4 rfl) ?_
      refine lv_iconst (v := 3) hx hb dX6_takeThing_21 (by decide) ?_
      refine lv_icmp_le (tgt := 27) hx hb dX6_takeThing_22 (by decide) (fun c22 => ?_) (fun c22 => ?_)
      · refine lv_aload_n hx hb dX6_takeThing_27 rfl (lv_at hl 0 rfl) ?_
        refine va_get hx hb hts inlX6 hown hE.1 hP 0 rfl rfl 0 (by decide) (fl_X6_12 hts) (fun _ h9 => h9) rfl dX6_takeThing_28 ?_
        refine va_getN hx hb hts inlX1 hown hE.1 hP 2 rfl rfl 1 (by decide) (nf_X6_63 hE.2.1) (fun _ h9 => h9) rfl dX6_takeThing_31 ?_
        refine rd_callV (As := []) (rest := []) hx hb hml hown hts (hE.at0 hS) hl.1 (c_X4_isFull l G a0 a1 a2 a3 a4 C B F K n y ) (cw_X6_91 hts) ⟨(Nat.le_of_ble_eq_true rfl), (Nat.le_of_ble_eq_true rfl)⟩ ⟨Nat.zero_le _, Nat.zero_le _⟩ rfl (sub_P hP [4, 5, 6, 7, 8] rfl) rfl rfl rfl rfl (Nat.le_of_ble_eq_true rfl) dX6_takeThing_34 ?_
        refine lv_if_ne (tgt := 56) hx hb dX6_takeThing_37 (by decide) (fun c37 => ?_) (fun c37 => ?_)
        · have c37 := zb_n0.mp c37
          have c37 : ¬ n < 10 := fun z => by have z2 : nI n < 10 := nI_lt (b := 10) z (by decide); simp [z2] at c37
          refine lv_iconst (v := 0) hx hb dX6_takeThing_56 (by decide) ?_
          exact ct_zret hx hb hr hlk dX6_takeThing_57 rfl hP hD hS (by simp [one, ttB, fl9, zb, c11, c16, c22, c37])
        · have c37 := zb_0.mp c37
          have c37 : n < 10 := (nI_ltI (a := n) (b := 10) (by omega) (by decide)).mp (show nI n < 10 by simpa using c37)
          refine lv_aload_n hx hb dX6_takeThing_40 rfl (lv_at hl 0 rfl) ?_
          refine va_get hx hb hts inlX6 hown hE.1 hP 0 rfl rfl 0 (by decide) (fl_X6_12 hts) (fun _ h9 => h9) rfl dX6_takeThing_41 ?_
          refine va_getN hx hb hts inlX1 hown hE.1 hP 2 rfl rfl 1 (by decide) (nf_X6_63 hE.2.1) (fun _ h9 => h9) rfl dX6_takeThing_44 ?_
          refine lv_iload_n hx hb dX6_takeThing_47 rfl (lv_at hl 1 rfl) ?_
          refine rd_callV (As := [.int x]) (rest := []) hx hb hml hown hts (hE.at0 hS) hl.1 (c_X4_thingOf l G a0 a1 a2 a3 a4 C B F K n y x (by first | assumption | omega)) (cw_X6_95 hts) ⟨(Nat.le_of_ble_eq_true rfl), (Nat.le_of_ble_eq_true rfl)⟩ ⟨Nat.zero_le _, Nat.zero_le _⟩ rfl (sub_P hP [4, 5, 6, 7, 8] rfl) rfl rfl rfl rfl (Nat.le_of_ble_eq_true rfl) dX6_takeThing_48 ?_
          refine lv_bipush (v := -4) hx hb dX6_takeThing_51 (by decide) ?_
          refine lv_icmp_eq (tgt := 58) hx hb dX6_takeThing_53 (by decide) (fun c53 => ?_) (fun c53 => ?_)
          · refine lv_aload_n hx hb dX6_takeThing_58 rfl (lv_at hl 0 rfl) ?_
            refine va_get hx hb hts inlX6 hown hE.1 hP 0 rfl rfl 0 (by decide) (fl_X6_12 hts) (fun _ h9 => h9) rfl dX6_takeThing_59 ?_
            refine va_getN hx hb hts inlX1 hown hE.1 hP 2 rfl rfl 1 (by decide) (nf_X6_63 hE.2.1) (fun _ h9 => h9) rfl dX6_takeThing_62 ?_
            refine lv_iload_n hx hb dX6_takeThing_65 rfl (lv_at hl 1 rfl) ?_
            refine lv_iload_n hx hb dX6_takeThing_66 rfl (lv_at hl 2 rfl) ?_
            refine lv_iload_n hx hb dX6_takeThing_67 rfl (lv_at hl 3 rfl) ?_
            refine lv_bipush (v := 99) hx hb dX6_takeThing_68 (by decide) ?_
            refine lv_icmp_ne (tgt := 79) hx hb dX6_takeThing_70 (by decide) (fun c70 => ?_) (fun c70 => ?_)
            · refine lv_iload_n hx hb dX6_takeThing_79 rfl (lv_at hl 3 rfl) ?_
              refine lv_iload hx hb dX6_takeThing_80 (lv_at hl 4 rfl) ?_
              refine ct_callV (w1 := [(a0, .inr (4, [.ref a1, .ref a2, .ref a3, .ref a4, .int (nI (n + 1)), .int y])), (a1, .inl (kI G, 10, .inl (upd C n x))), (a2, .inl (kI G, 10, .inl (upd B n b))), (a3, .inl (kI G, 10, .inl (upd F n f))), (a4, .inl (kI G, 10, .inl (upd K n k)))]) (wr := [(r0, .inr (6, [.ref o0, .ref j0])), (j0, .inl (kI G, 4, .inl nb)), (o0, .inr (1, [.ref g0, .ref a0, .ref h0])), (g0, .inr (2, [.int (nI nr), .int (nI nc)])), (h0, .inr (0, [.ref h1, .ref h2, .ref h3, .int (nI q)])), (h1, .inl (kI G, 5, .inl Yr)), (h2, .inl (kI G, 5, .inl Dn)), (h3, .inl (kI G, 5, .inl Rt))]) (wn := [(r0, .inr (6, [.ref o0, .ref j0])), (j0, .inl (kI G, 4, .inl nb)), (o0, .inr (1, [.ref g0, .ref a0, .ref h0])), (g0, .inr (2, [.int (nI nr), .int (nI nc)])), (a0, .inr (4, [.ref a1, .ref a2, .ref a3, .ref a4, .int (nI (n + 1)), .int y])), (a1, .inl (kI G, 10, .inl (upd C n x))), (a2, .inl (kI G, 10, .inl (upd B n b))), (a3, .inl (kI G, 10, .inl (upd F n f))), (a4, .inl (kI G, 10, .inl (upd K n k))), (h0, .inr (0, [.ref h1, .ref h2, .ref h3, .int (nI q)])), (h1, .inl (kI G, 5, .inl Yr)), (h2, .inl (kI G, 5, .inl Dn)), (h3, .inl (kI G, 5, .inl Rt))]) (As := [.int x, .int b, .int f, .int k]) (rest := []) hx hb hml hown hts hE hA hl.1 hP hD hS (c_X4_add l G a0 a1 a2 a3 a4 C B F K n y x b f k c37) (cw_X6_99 hts) ⟨(Nat.le_of_ble_eq_true rfl), (Nat.le_of_ble_eq_true rfl)⟩ ⟨(Nat.le_of_ble_eq_true rfl), (Nat.le_of_ble_eq_true rfl)⟩ rfl [4, 5, 6, 7, 8] [0, 1, 2, 3, 9, 10, 11, 12] [0, 1, 2, 3, 8, 9, 10, 11, 12, 4, 5, 6, 7] rfl rfl ⟨by decide, by decide, by decide, by decide⟩ rfl rfl rfl rfl rfl (Nat.le_of_ble_eq_true rfl) dX6_takeThing_82 (fun H locs hP hD hS => ?_)
              show WC p l e _ s m _ below meth c G A _ H locs 0 0 (F0 m 85 ls [.int (nI n)])
              refine lv_pop hx hb dX6_takeThing_85 rfl ?_
              refine lv_iconst (v := 1) hx hb dX6_takeThing_86 (by decide) ?_
              exact ct_zret hx hb hr hlk dX6_takeThing_87 rfl hP hD hS (by have h16 := c16; first | (rw [c70] at h16; simp [one, ttB, fl9, zb, c11, c16, c22, c37, c53, c70, h16]; done) | (simp [one, ttB, fl9, zb, c11, c16, c22, c37, c53, c70]; done))
            · refine lv_sipush (v := 1000) hx hb dX6_takeThing_73 (by decide) ?_
              refine lv_goto (tgt := 80) hx hb dX6_takeThing_76 (by decide) ?_
              refine lv_iload hx hb dX6_takeThing_80 (lv_at hl 4 rfl) ?_
              refine ct_callV (w1 := [(a0, .inr (4, [.ref a1, .ref a2, .ref a3, .ref a4, .int (nI (n + 1)), .int y])), (a1, .inl (kI G, 10, .inl (upd C n x))), (a2, .inl (kI G, 10, .inl (upd B n b))), (a3, .inl (kI G, 10, .inl (upd F n 1000))), (a4, .inl (kI G, 10, .inl (upd K n k)))]) (wr := [(r0, .inr (6, [.ref o0, .ref j0])), (j0, .inl (kI G, 4, .inl nb)), (o0, .inr (1, [.ref g0, .ref a0, .ref h0])), (g0, .inr (2, [.int (nI nr), .int (nI nc)])), (h0, .inr (0, [.ref h1, .ref h2, .ref h3, .int (nI q)])), (h1, .inl (kI G, 5, .inl Yr)), (h2, .inl (kI G, 5, .inl Dn)), (h3, .inl (kI G, 5, .inl Rt))]) (wn := [(r0, .inr (6, [.ref o0, .ref j0])), (j0, .inl (kI G, 4, .inl nb)), (o0, .inr (1, [.ref g0, .ref a0, .ref h0])), (g0, .inr (2, [.int (nI nr), .int (nI nc)])), (a0, .inr (4, [.ref a1, .ref a2, .ref a3, .ref a4, .int (nI (n + 1)), .int y])), (a1, .inl (kI G, 10, .inl (upd C n x))), (a2, .inl (kI G, 10, .inl (upd B n b))), (a3, .inl (kI G, 10, .inl (upd F n 1000))), (a4, .inl (kI G, 10, .inl (upd K n k))), (h0, .inr (0, [.ref h1, .ref h2, .ref h3, .int (nI q)])), (h1, .inl (kI G, 5, .inl Yr)), (h2, .inl (kI G, 5, .inl Dn)), (h3, .inl (kI G, 5, .inl Rt))]) (As := [.int x, .int b, .int 1000, .int k]) (rest := []) hx hb hml hown hts hE hA hl.1 hP hD hS (c_X4_add l G a0 a1 a2 a3 a4 C B F K n y x b 1000 k c37) (cw_X6_99 hts) ⟨(Nat.le_of_ble_eq_true rfl), (Nat.le_of_ble_eq_true rfl)⟩ ⟨(Nat.le_of_ble_eq_true rfl), (Nat.le_of_ble_eq_true rfl)⟩ rfl [4, 5, 6, 7, 8] [0, 1, 2, 3, 9, 10, 11, 12] [0, 1, 2, 3, 8, 9, 10, 11, 12, 4, 5, 6, 7] rfl rfl ⟨by decide, by decide, by decide, by decide⟩ rfl rfl rfl rfl rfl (Nat.le_of_ble_eq_true rfl) dX6_takeThing_82 (fun H locs hP hD hS => ?_)
              show WC p l e _ s m _ below meth c G A _ H locs 0 0 (F0 m 85 ls [.int (nI n)])
              refine lv_pop hx hb dX6_takeThing_85 rfl ?_
              refine lv_iconst (v := 1) hx hb dX6_takeThing_86 (by decide) ?_
              exact ct_zret hx hb hr hlk dX6_takeThing_87 rfl hP hD hS (by have h16 := c16; first | (rw [c70] at h16; simp [one, ttB, fl9, zb, c11, c16, c22, c37, c53, c70, h16]; done) | (simp [one, ttB, fl9, zb, c11, c16, c22, c37, c53, c70]; done))
          · refine lv_iconst (v := 0) hx hb dX6_takeThing_56 (by decide) ?_
            exact ct_zret hx hb hr hlk dX6_takeThing_57 rfl hP hD hS (by simp [one, ttB, fl9, zb, c11, c16, c22, c37, c53])
      · refine lv_iconst (v := 0) hx hb dX6_takeThing_25 (by decide) ?_
        exact ct_zret hx hb hr hlk dX6_takeThing_26 rfl hP hD hS (by simp [one, ttB, fl9, zb, c11, c16, c22])

set_option maxHeartbeats 4000000 in
set_option maxRecDepth 100000 in
theorem c_X6_takeMap (l : Launch) (G : Gv) (r0 : Nat) (j0 : Nat) (nb : Nat → Int32) (o0 : Nat) (g0 : Nat) (nr : Nat) (nc : Nat) (a0 : Nat) (a1 : Nat) (a2 : Nat) (a3 : Nat) (a4 : Nat) (C : Nat → Int32) (B : Nat → Int32) (F : Nat → Int32) (K : Nat → Int32) (n : Nat) (y : Int32) (h0 : Nat) (h1 : Nat) (h2 : Nat) (h3 : Nat) (Yr : Nat → Int32) (Dn : Nat → Int32) (Rt : Nat → Int32) (q : Nat) (x : Int32) (b : Int32) (f : Int32) (hq : q ≤ 5) : Ct l yX6_takeMap cX6_takeMap 4 (some .boolean) (rmz 1 23) G [.ref r0, .int x, .int b, .int f] [(r0, .inr (6, [.ref o0, .ref j0])), (j0, .inl (kI G, 4, .inl nb)), (o0, .inr (1, [.ref g0, .ref a0, .ref h0])), (g0, .inr (2, [.int (nI nr), .int (nI nc)])), (a0, .inr (4, [.ref a1, .ref a2, .ref a3, .ref a4, .int (nI n), .int y])), (a1, .inl (kI G, 10, .inl C)), (a2, .inl (kI G, 10, .inl B)), (a3, .inl (kI G, 10, .inl F)), (a4, .inl (kI G, 10, .inl K)), (h0, .inr (0, [.ref h1, .ref h2, .ref h3, .int (nI q)])), (h1, .inl (kI G, 5, .inl Yr)), (h2, .inl (kI G, 5, .inl Dn)), (h3, .inl (kI G, 5, .inl Rt))] (one (some (.int (zb (tmB q b f)))) [(r0, .inr (6, [.ref o0, .ref j0])), (j0, .inl (kI G, 4, .inl nb)), (o0, .inr (1, [.ref g0, .ref a0, .ref h0])), (g0, .inr (2, [.int (nI nr), .int (nI nc)])), (a0, .inr (4, [.ref a1, .ref a2, .ref a3, .ref a4, .int (nI n), .int y])), (a1, .inl (kI G, 10, .inl C)), (a2, .inl (kI G, 10, .inl B)), (a3, .inl (kI G, 10, .inl F)), (a4, .inl (kI G, 10, .inl K)), (h0, .inr (0, [.ref h1, .ref h2, .ref h3, .int (nI (if tmB q b f then q + 1 else q))])), (h1, .inl (kI G, 5, .inl (if tmB q b f then upd Yr q x else Yr))), (h2, .inl (kI G, 5, .inl (if tmB q b f then upd Dn q b else Dn))), (h3, .inl (kI G, 5, .inl (if tmB q b f then upd Rt q f else Rt)))]) := by
  refine Ct.ofW (by decide) (Nat.le_of_ble_eq_true rfl) ?_
  intro p e s m below meth c ls A hx hb hml hr hown hts hlk hnm hP hD hA hE hS hl
  obtain ⟨H, eH⟩ : ∃ H : Heap, H = s.heap := ⟨_, rfl⟩
  obtain ⟨locs, eL⟩ : ∃ ll : List Loc, ll = [] := ⟨_, rfl⟩
  rw [← eH] at hP
  have hS : va_S A s.heap H locs := by rw [eH, eL]; exact hS
  show WC p l e _ s m _ below meth c G A _ s.heap [] 0 0 _
  rw [← eH, ← eL]
  clear eH eL
  have hl : lv_has ls 4 [(0, .ref r0), (1, .int x), (2, .int b), (3, .int f)] := hl
  refine lv_iload_n hx hb dX6_takeMap_0 rfl (lv_at hl 2 rfl) ?_
  refine lv_iconst (v := 5) hx hb dX6_takeMap_1 (by decide) ?_
  refine lv_icmp_ge (tgt := 30) hx hb dX6_takeMap_2 (by decide) (fun c2 => ?_) (fun c2 => ?_)
  · refine lv_iconst (v := 0) hx hb dX6_takeMap_30 (by decide) ?_
    exact ct_zret hx hb hr hlk dX6_takeMap_31 rfl hP hD hS (by simp [one, tmB, zb, c2])
  · refine lv_iload_n hx hb dX6_takeMap_5 rfl (lv_at hl 3 rfl) ?_
    refine lv_iconst (v := 5) hx hb dX6_takeMap_6 (by decide) ?_
    refine lv_icmp_ge (tgt := 30) hx hb dX6_takeMap_7 (by decide) (fun c7 => ?_) (fun c7 => ?_)
    · refine lv_iconst (v := 0) hx hb dX6_takeMap_30 (by decide) ?_
      exact ct_zret hx hb hr hlk dX6_takeMap_31 rfl hP hD hS (by simp [one, tmB, zb, c2, c7])
    · refine lv_aload_n hx hb dX6_takeMap_10 rfl (lv_at hl 0 rfl) ?_
      refine va_get hx hb hts inlX6 hown hE.1 hP 0 rfl rfl 0 (by decide) (fl_X6_12 hts) (fun _ h9 => h9) rfl dX6_takeMap_11 ?_
      refine va_getN hx hb hts inlX1 hown hE.1 hP 2 rfl rfl 2 (by decide) (nf_X6_72 hE.2.1) (fun _ h9 => h9) rfl dX6_takeMap_14 ?_
      refine lv_iload_n hx hb dX6_takeMap_17 rfl (lv_at hl 1 rfl) ?_
      refine lv_iload_n hx hb dX6_takeMap_18 rfl (lv_at hl 2 rfl) ?_
      refine lv_iload_n hx hb dX6_takeMap_19 rfl (lv_at hl 3 rfl) ?_
      by_cases hz : q < 5
      · refine ct_callV (w1 := [(h0, .inr (0, [.ref h1, .ref h2, .ref h3, .int (nI (q + 1))])), (h1, .inl (kI G, 5, .inl (upd Yr q x))), (h2, .inl (kI G, 5, .inl (upd Dn q b))), (h3, .inl (kI G, 5, .inl (upd Rt q f)))]) (wr := [(r0, .inr (6, [.ref o0, .ref j0])), (j0, .inl (kI G, 4, .inl nb)), (o0, .inr (1, [.ref g0, .ref a0, .ref h0])), (g0, .inr (2, [.int (nI nr), .int (nI nc)])), (a0, .inr (4, [.ref a1, .ref a2, .ref a3, .ref a4, .int (nI n), .int y])), (a1, .inl (kI G, 10, .inl C)), (a2, .inl (kI G, 10, .inl B)), (a3, .inl (kI G, 10, .inl F)), (a4, .inl (kI G, 10, .inl K))]) (wn := [(r0, .inr (6, [.ref o0, .ref j0])), (j0, .inl (kI G, 4, .inl nb)), (o0, .inr (1, [.ref g0, .ref a0, .ref h0])), (g0, .inr (2, [.int (nI nr), .int (nI nc)])), (a0, .inr (4, [.ref a1, .ref a2, .ref a3, .ref a4, .int (nI n), .int y])), (a1, .inl (kI G, 10, .inl C)), (a2, .inl (kI G, 10, .inl B)), (a3, .inl (kI G, 10, .inl F)), (a4, .inl (kI G, 10, .inl K)), (h0, .inr (0, [.ref h1, .ref h2, .ref h3, .int (nI (q + 1))])), (h1, .inl (kI G, 5, .inl (upd Yr q x))), (h2, .inl (kI G, 5, .inl (upd Dn q b))), (h3, .inl (kI G, 5, .inl (upd Rt q f)))]) (As := [.int x, .int b, .int f]) (rest := []) hx hb hml hown hts hE hA hl.1 hP hD hS (c_X0_add l G h0 h1 h2 h3 Yr Dn Rt q x b f hz) (cw_X6_103 hts) ⟨(Nat.le_of_ble_eq_true rfl), (Nat.le_of_ble_eq_true rfl)⟩ ⟨(Nat.le_of_ble_eq_true rfl), (Nat.le_of_ble_eq_true rfl)⟩ rfl [9, 10, 11, 12] [0, 1, 2, 3, 4, 5, 6, 7, 8] [0, 1, 2, 3, 4, 5, 6, 7, 8, 9, 10, 11, 12] rfl rfl ⟨by decide, by decide, by decide, by decide⟩ rfl rfl rfl rfl rfl (Nat.le_of_ble_eq_true rfl) dX6_takeMap_20 (fun H locs hP hD hS => ?_)
        show WC p l e _ s m _ below meth c G A _ H locs 0 0 (F0 m 23 ls [.int 1])
        refine lv_if_eq (tgt := 30) hx hb dX6_takeMap_23 (by decide) (fun c23 => ?_) (fun c23 => ?_)
        · exact absurd c23 (by decide)
        · refine lv_iconst (v := 1) hx hb dX6_takeMap_26 (by decide) ?_
          refine lv_goto (tgt := 31) hx hb dX6_takeMap_27 (by decide) ?_
          exact ct_zret hx hb hr hlk dX6_takeMap_31 rfl hP hD hS (by simp [one, tmB, zb, c2, c7, hz])
      · refine ct_callV (w1 := [(h0, .inr (0, [.ref h1, .ref h2, .ref h3, .int (nI q)])), (h1, .inl (kI G, 5, .inl Yr)), (h2, .inl (kI G, 5, .inl Dn)), (h3, .inl (kI G, 5, .inl Rt))]) (wr := [(r0, .inr (6, [.ref o0, .ref j0])), (j0, .inl (kI G, 4, .inl nb)), (o0, .inr (1, [.ref g0, .ref a0, .ref h0])), (g0, .inr (2, [.int (nI nr), .int (nI nc)])), (a0, .inr (4, [.ref a1, .ref a2, .ref a3, .ref a4, .int (nI n), .int y])), (a1, .inl (kI G, 10, .inl C)), (a2, .inl (kI G, 10, .inl B)), (a3, .inl (kI G, 10, .inl F)), (a4, .inl (kI G, 10, .inl K))]) (wn := [(r0, .inr (6, [.ref o0, .ref j0])), (j0, .inl (kI G, 4, .inl nb)), (o0, .inr (1, [.ref g0, .ref a0, .ref h0])), (g0, .inr (2, [.int (nI nr), .int (nI nc)])), (a0, .inr (4, [.ref a1, .ref a2, .ref a3, .ref a4, .int (nI n), .int y])), (a1, .inl (kI G, 10, .inl C)), (a2, .inl (kI G, 10, .inl B)), (a3, .inl (kI G, 10, .inl F)), (a4, .inl (kI G, 10, .inl K)), (h0, .inr (0, [.ref h1, .ref h2, .ref h3, .int (nI q)])), (h1, .inl (kI G, 5, .inl Yr)), (h2, .inl (kI G, 5, .inl Dn)), (h3, .inl (kI G, 5, .inl Rt))]) (As := [.int x, .int b, .int f]) (rest := []) hx hb hml hown hts hE hA hl.1 hP hD hS (c_X0_add_full l G h0 h1 h2 h3 Yr Dn Rt q x b f (by omega)) (cw_X6_103 hts) ⟨(Nat.le_of_ble_eq_true rfl), (Nat.le_of_ble_eq_true rfl)⟩ ⟨(Nat.le_of_ble_eq_true rfl), (Nat.le_of_ble_eq_true rfl)⟩ rfl [9, 10, 11, 12] [0, 1, 2, 3, 4, 5, 6, 7, 8] [0, 1, 2, 3, 4, 5, 6, 7, 8, 9, 10, 11, 12] rfl rfl ⟨by decide, by decide, by decide, by decide⟩ rfl rfl rfl rfl rfl (Nat.le_of_ble_eq_true rfl) dX6_takeMap_20 (fun H locs hP hD hS => ?_)
        show WC p l e _ s m _ below meth c G A _ H locs 0 0 (F0 m 23 ls [.int 0])
        refine lv_if_eq (tgt := 30) hx hb dX6_takeMap_23 (by decide) (fun c23 => ?_) (fun c23 => ?_)
        · refine lv_iconst (v := 0) hx hb dX6_takeMap_30 (by decide) ?_
          exact ct_zret hx hb hr hlk dX6_takeMap_31 rfl hP hD hS (by simp [one, tmB, zb, c2, c7, hz])
        · exact absurd c23 (by decide)
