/-! OnlyWhatIsLost: what is only read -/
theorem sw_out4 {x : Int32} (e0 : ¬ x = 0) (e1 : ¬ x = 1) (e2 : ¬ x = 2) (e3 : ¬ x = 3) : x.toInt < 0 ∨ 3 < x.toInt := by
  have h0 : x.toInt ≠ 0 := fun z => e0 (Int32.toInt_inj.mp z)
  have h1 : x.toInt ≠ 1 := fun z => e1 (Int32.toInt_inj.mp z)
  have h2 : x.toInt ≠ 2 := fun z => e2 (Int32.toInt_inj.mp z)
  have h3 : x.toInt ≠ 3 := fun z => e3 (Int32.toInt_inj.mp z)
  omega
theorem sw_out6 {x : Int32} (e0 : ¬ x = 0) (e1 : ¬ x = 1) (e2 : ¬ x = 2) (e3 : ¬ x = 3) (e4 : ¬ x = 4) (e5 : ¬ x = 5) : x.toInt < 0 ∨ 5 < x.toInt := by
  have h0 : x.toInt ≠ 0 := fun z => e0 (Int32.toInt_inj.mp z)
  have h1 : x.toInt ≠ 1 := fun z => e1 (Int32.toInt_inj.mp z)
  have h2 : x.toInt ≠ 2 := fun z => e2 (Int32.toInt_inj.mp z)
  have h3 : x.toInt ≠ 3 := fun z => e3 (Int32.toInt_inj.mp z)
  have h4 : x.toInt ≠ 4 := fun z => e4 (Int32.toInt_inj.mp z)
  have h5 : x.toInt ≠ 5 := fun z => e5 (Int32.toInt_inj.mp z)
  omega
theorem sw_out10 {x : Int32} (e0 : ¬ x = 0) (e1 : ¬ x = 1) (e2 : ¬ x = 2) (e3 : ¬ x = 3) (e4 : ¬ x = 4) (e5 : ¬ x = 5) (e6 : ¬ x = 6) (e7 : ¬ x = 7) (e8 : ¬ x = 8) (e9 : ¬ x = 9) : x.toInt < 0 ∨ 9 < x.toInt := by
  have h0 : x.toInt ≠ 0 := fun z => e0 (Int32.toInt_inj.mp z)
  have h1 : x.toInt ≠ 1 := fun z => e1 (Int32.toInt_inj.mp z)
  have h2 : x.toInt ≠ 2 := fun z => e2 (Int32.toInt_inj.mp z)
  have h3 : x.toInt ≠ 3 := fun z => e3 (Int32.toInt_inj.mp z)
  have h4 : x.toInt ≠ 4 := fun z => e4 (Int32.toInt_inj.mp z)
  have h5 : x.toInt ≠ 5 := fun z => e5 (Int32.toInt_inj.mp z)
  have h6 : x.toInt ≠ 6 := fun z => e6 (Int32.toInt_inj.mp z)
  have h7 : x.toInt ≠ 7 := fun z => e7 (Int32.toInt_inj.mp z)
  have h8 : x.toInt ≠ 8 := fun z => e8 (Int32.toInt_inj.mp z)
  have h9 : x.toInt ≠ 9 := fun z => e9 (Int32.toInt_inj.mp z)
  omega
theorem sw_out28 {x : Int32} (e0 : ¬ x = 0) (e1 : ¬ x = 1) (e2 : ¬ x = 2) (e3 : ¬ x = 3) (e4 : ¬ x = 4) (e5 : ¬ x = 5) (e6 : ¬ x = 6) (e7 : ¬ x = 7) (e8 : ¬ x = 8) (e9 : ¬ x = 9) (e10 : ¬ x = 10) (e11 : ¬ x = 11) (e12 : ¬ x = 12) (e13 : ¬ x = 13) (e14 : ¬ x = 14) (e15 : ¬ x = 15) (e16 : ¬ x = 16) (e17 : ¬ x = 17) (e18 : ¬ x = 18) (e19 : ¬ x = 19) (e20 : ¬ x = 20) (e21 : ¬ x = 21) (e22 : ¬ x = 22) (e23 : ¬ x = 23) (e24 : ¬ x = 24) (e25 : ¬ x = 25) (e26 : ¬ x = 26) (e27 : ¬ x = 27) : x.toInt < 0 ∨ 27 < x.toInt := by
  have h0 : x.toInt ≠ 0 := fun z => e0 (Int32.toInt_inj.mp z)
  have h1 : x.toInt ≠ 1 := fun z => e1 (Int32.toInt_inj.mp z)
  have h2 : x.toInt ≠ 2 := fun z => e2 (Int32.toInt_inj.mp z)
  have h3 : x.toInt ≠ 3 := fun z => e3 (Int32.toInt_inj.mp z)
  have h4 : x.toInt ≠ 4 := fun z => e4 (Int32.toInt_inj.mp z)
  have h5 : x.toInt ≠ 5 := fun z => e5 (Int32.toInt_inj.mp z)
  have h6 : x.toInt ≠ 6 := fun z => e6 (Int32.toInt_inj.mp z)
  have h7 : x.toInt ≠ 7 := fun z => e7 (Int32.toInt_inj.mp z)
  have h8 : x.toInt ≠ 8 := fun z => e8 (Int32.toInt_inj.mp z)
  have h9 : x.toInt ≠ 9 := fun z => e9 (Int32.toInt_inj.mp z)
  have h10 : x.toInt ≠ 10 := fun z => e10 (Int32.toInt_inj.mp z)
  have h11 : x.toInt ≠ 11 := fun z => e11 (Int32.toInt_inj.mp z)
  have h12 : x.toInt ≠ 12 := fun z => e12 (Int32.toInt_inj.mp z)
  have h13 : x.toInt ≠ 13 := fun z => e13 (Int32.toInt_inj.mp z)
  have h14 : x.toInt ≠ 14 := fun z => e14 (Int32.toInt_inj.mp z)
  have h15 : x.toInt ≠ 15 := fun z => e15 (Int32.toInt_inj.mp z)
  have h16 : x.toInt ≠ 16 := fun z => e16 (Int32.toInt_inj.mp z)
  have h17 : x.toInt ≠ 17 := fun z => e17 (Int32.toInt_inj.mp z)
  have h18 : x.toInt ≠ 18 := fun z => e18 (Int32.toInt_inj.mp z)
  have h19 : x.toInt ≠ 19 := fun z => e19 (Int32.toInt_inj.mp z)
  have h20 : x.toInt ≠ 20 := fun z => e20 (Int32.toInt_inj.mp z)
  have h21 : x.toInt ≠ 21 := fun z => e21 (Int32.toInt_inj.mp z)
  have h22 : x.toInt ≠ 22 := fun z => e22 (Int32.toInt_inj.mp z)
  have h23 : x.toInt ≠ 23 := fun z => e23 (Int32.toInt_inj.mp z)
  have h24 : x.toInt ≠ 24 := fun z => e24 (Int32.toInt_inj.mp z)
  have h25 : x.toInt ≠ 25 := fun z => e25 (Int32.toInt_inj.mp z)
  have h26 : x.toInt ≠ 26 := fun z => e26 (Int32.toInt_inj.mp z)
  have h27 : x.toInt ≠ 27 := fun z => e27 (Int32.toInt_inj.mp z)
  omega
def thR (n : Nat) (C B F K : Nat → Int32) (y t w : Int32) : Int32 := if inB t n then (if w = 0 then atI n C t else if w = 1 then atI n B t else if w = 2 then toldI n F t else if w = 3 then atI n K t else if w = 4 then zb (stI n B F t y) else if w = 5 then zb (loI n F t y) else -1) else -1
def frR (nr nc : Nat) (C B F : Nat → Int32) (n : Nat) (x w : Int32) : Int32 := if inG nr nc x then (if w < 0 then -1 else if w ≤ 199 then zb (!hs (stC C B F w n) x) else -1) else -1
def mpR (nr nc : Nat) (C F K : Nat → Int32) (n : Nat) (Yr Dn Rt : Nat → Int32) (q : Nat) (t w : Int32) : Int32 := if inB t q then (if w = 0 then atI q Yr t else if w = 1 then atI q Dn t else if w = 2 then atI q Rt t else if w = 3 then bcn (swC nr nc C F K n Yr Dn Rt q t) else -1) else -1
def swR (nr nc : Nat) (C F K : Nat → Int32) (n : Nat) (Yr Dn Rt : Nat → Int32) (q : Nat) (t x : Int32) : Int32 := if inB t q then (if inG nr nc x then zb (hs (swC nr nc C F K n Yr Dn Rt q t) x) else -1) else -1
def frC (C B F : Nat → Int32) (y : Int32) (n : Nat) : Int64 := stC C B F y n ^^^ (-1)
def jsB (nr nc : Nat) (sc w : Int64) (h : Int32) : Bool := decide (shA nr nc w (h / 5 - 2) (h - h / 5 * 5 - 2) (nr * nc) = sc)
def hsA (nr nc : Nat) (sc w : Int64) (n : Nat) : Int32 := it (fun k a => a + (if jsB nr nc sc w (nI k) then 1 else 0)) 0 n
def fhA (nr nc : Nat) (sc w : Int64) : Int32 := fsx (fun j => jsB nr nc sc w (nI j)) 25 0
def fdA (nr nc : Nat) (C F K : Nat → Int32) (n : Nat) (sc : Int64) (k : Nat) : Int32 × Int32 := it (fun j a => (a.1 + hsA nr nc sc (drC nr nc C F K (nI j) n) 25, if a.1 = 0 then (if hsA nr nc sc (drC nr nc C F K (nI j) n) 25 ≤ 0 then a.2 else 25 * nI j + fhA nr nc sc (drC nr nc C F K (nI j) n)) else a.2)) (0, -4) k
def wgS (nr nc : Nat) (C F K : Nat → Int32) (n : Nat) (Yr Dn Rt : Nat → Int32) (q : Nat) (t : Int32) : Int64 := swC nr nc C F K n Yr Dn Rt q t &&& (loC C F (atI q Yr t) n ^^^ (-1))
def wgR (nr nc : Nat) (C F K : Nat → Int32) (n : Nat) (Yr Dn Rt : Nat → Int32) (q : Nat) (t w : Int32) : Int32 := if inB t q then (if zo w then (if w = 0 then bcn (wgS nr nc C F K n Yr Dn Rt q t) else fsx (fun j => hs (wgS nr nc C F K n Yr Dn Rt q t) (nI j)) 64 0) else -1) else -1
def olR (n : Nat) (F K Yr : Nat → Int32) (q : Nat) : Int32 := if nI q = 0 then -4 else orA n F K Yr q n
def ctR (nr nc : Nat) (C B F : Nat → Int32) (n : Nat) (y : Int32) (q sv sn zn tn : Nat) (w : Int32) : Int32 := if w = 0 then nI (nr * nc) else if w = 1 then nI n else if w = 2 then nI q else if w = 3 then y else if w = 4 then bcn (stC C B F y n) else if w = 5 then bcn (loC C F y n) else if w = 6 then nI sv else if w = 7 then nI sn else if w = 8 then nI zn else if w = 9 then nI tn else -1

set_option maxHeartbeats 4000000 in
set_option maxRecDepth 100000 in
theorem c_X7_size_o (l : Launch) (G : Gv) (s0 : Nat) (s1 : Nat) (sn : Nat)  : Rd l yX7_size cX7_size 1 (some .int) (rmz 0 0) G [.ref s0] [(s0, .inr (7, [.ref s1, .int (nI sn)]))] (.int (nI sn)) := by
  refine Rd.ofW (by decide) (Nat.le_of_ble_eq_true rfl) ?_
  intro p e s m below meth c ls hx hb hml hr hown hts hlk hP hE hl
  have hl : lv_has ls 1 [(0, .ref s0)] := hl
  refine lv_aload_n hx hb dX7_size_0 rfl (lv_at hl 0 rfl) ?_
  refine va_get hx hb hts inlX7 hown hE.1 hP 0 rfl rfl 1 (by decide) (fl_X7_22 hts) (fun _ h9 => h9) rfl dX7_size_1 ?_
  exact rd_iret hx hb hr hlk dX7_size_4 (by first | rfl | (simp [zb]; done))

set_option maxHeartbeats 4000000 in
set_option maxRecDepth 100000 in
theorem c_X7_clear_o (l : Launch) (G : Gv) (s0 : Nat) (s1 : Nat) (sn : Nat)  : Ct l yX7_clear cX7_clear 1 none (rmz 0 0) G [.ref s0] [(s0, .inr (7, [.ref s1, .int (nI sn)]))] (one none [(s0, .inr (7, [.ref s1, .int 0]))]) := by
  refine Ct.ofW (by decide) (Nat.le_of_ble_eq_true rfl) ?_
  intro p e s m below meth c ls A hx hb hml hr hown hts hlk hnm hP hD hA hE hS hl
  obtain ⟨H, eH⟩ : ∃ H : Heap, H = s.heap := ⟨_, rfl⟩
  obtain ⟨locs, eL⟩ : ∃ ll : List Loc, ll = [] := ⟨_, rfl⟩
  rw [← eH] at hP
  have hS : va_S A s.heap H locs := by rw [eH, eL]; exact hS
  show WC p l e _ s m _ below meth c G A _ s.heap [] 0 0 _
  rw [← eH, ← eL]
  clear eH eL
  have hl : lv_has ls 1 [(0, .ref s0)] := hl
  refine lv_aload_n hx hb dX7_clear_0 rfl (lv_at hl 0 rfl) ?_
  refine lv_iconst (v := 0) hx hb dX7_clear_1 (by decide) ?_
  refine va_put (v := .int 0) (ty := .int) hx hb hts inlX7 tyX7 tyX7_ok nmX7 hown hE.1 hP hD hS 0 rfl rfl 1 (by decide) (fl_X7_22 hts) (fun _ h9 => h9) rfl (by decide +kernel) rfl rfl (Nat.le_of_ble_eq_true rfl) dX7_clear_2 (fun H locs hP hD hS => ?_)
  have hP : va_P G.1 vwCl [(s0, .inr (7, [.ref s1, .int 0]))] H := hP
  have hD : va_D A [(s0, .inr (7, [.ref s1, .int 0]))] := hD
  exact ct_vret hx hb hr hlk dX7_clear_5 hP hD hS (by first | exact ⟨rfl, rfl⟩ | (simp [one]; done))

set_option maxHeartbeats 4000000 in
set_option maxRecDepth 100000 in
theorem c_X9_areCells (l : Launch) (G : Gv) (w0 : Nat) (t0 : Nat) (r0 : Nat) (o0 : Nat) (s0 : Nat) (z0 : Nat) (b0 : Nat) (p0 : Nat) (u0 : Nat) (sc : Int64) (sv : Nat) (g0 : Nat) (nr : Nat) (nc : Nat) (a0 : Nat) (a1 : Nat) (a2 : Nat) (a3 : Nat) (a4 : Nat) (C : Nat → Int32) (B : Nat → Int32) (F : Nat → Int32) (K : Nat → Int32) (n : Nat) (y : Int32) (h0 : Nat) (h1 : Nat) (h2 : Nat) (h3 : Nat) (Yr : Nat → Int32) (Dn : Nat → Int32) (Rt : Nat → Int32) (q : Nat) (a : Int32) (b : Int32) (hg1 : 2 ≤ nr ∧ nr ≤ 8) (hg2 : 2 ≤ nc ∧ nc ≤ 8) : Rd l yX9_areCells cX9_areCells 3 (some .boolean) (rmz 2 41) G [.ref w0, .int a, .int b] [(w0, .inr (9, [.ref t0, .ref r0, .ref o0, .ref s0, .ref z0, .ref b0, .ref p0, .ref u0, .long sc, .int (nI sv)])), (o0, .inr (1, [.ref g0, .ref a0, .ref h0])), (g0, .inr (2, [.int (nI nr), .int (nI nc)])), (a0, .inr (4, [.ref a1, .ref a2, .ref a3, .ref a4, .int (nI n), .int y])), (a1, .inl (kI G, 10, .inl C)), (a2, .inl (kI G, 10, .inl B)), (a3, .inl (kI G, 10, .inl F)), (a4, .inl (kI G, 10, .inl K)), (h0, .inr (0, [.ref h1, .ref h2, .ref h3, .int (nI q)])), (h1, .inl (kI G, 5, .inl Yr)), (h2, .inl (kI G, 5, .inl Dn)), (h3, .inl (kI G, 5, .inl Rt))] (.int (zb (inG nr nc a && inG nr nc b))) := by
  refine Rd.ofW (by decide) (Nat.le_of_ble_eq_true rfl) ?_
  intro p e s m below meth c ls hx hb hml hr hown hts hlk hP hE hl
  have hl : lv_has ls 3 [(0, .ref w0), (1, .int a), (2, .int b)] := hl
  refine lv_aload_n hx hb dX9_areCells_0 rfl (lv_at hl 0 rfl) ?_
  refine va_get hx hb hts inlX9 hown hE.1 hP 0 rfl rfl 2 (by decide) (fl_X9_26 hts) (fun _ h9 => h9) rfl dX9_areCells_1 ?_
  refine va_getN hx hb hts inlX1 hown hE.1 hP 1 rfl rfl 0 (by decide) (nf_X9_91 hE.2.1) (fun _ h9 => h9) rfl dX9_areCells_4 ?_
  refine lv_iload_n hx hb dX9_areCells_7 rfl (lv_at hl 1 rfl) ?_
  refine rd_callV (As := [.int a]) (rest := []) hx hb hml hown hts hE hl.1 (c_X2_has l G g0 nr nc a (by first | assumption | omega) (by first | assumption | omega)) (cw_X9_135 hts) ⟨(Nat.le_of_ble_eq_true rfl), (Nat.le_of_ble_eq_true rfl)⟩ ⟨Nat.zero_le _, Nat.zero_le _⟩ rfl (sub_P hP [2] rfl) rfl rfl rfl rfl (Nat.le_of_ble_eq_true rfl) dX9_areCells_8 ?_
  refine lv_if_eq (tgt := 32) hx hb dX9_areCells_11 (by decide) (fun c11 => ?_) (fun c11 => ?_)
  · have c11 := zb_0.mp c11
    refine lv_iconst (v := 0) hx hb dX9_areCells_32 (by decide) ?_
    exact rd_zret hx hb hr hlk dX9_areCells_33 rfl (by first | rfl | (simp [zb, c11]; done))
  · have c11 := zb_n0.mp c11
    refine lv_aload_n hx hb dX9_areCells_14 rfl (lv_at hl 0 rfl) ?_
    refine va_get hx hb hts inlX9 hown hE.1 hP 0 rfl rfl 2 (by decide) (fl_X9_26 hts) (fun _ h9 => h9) rfl dX9_areCells_15 ?_
    refine va_getN hx hb hts inlX1 hown hE.1 hP 1 rfl rfl 0 (by decide) (nf_X9_91 hE.2.1) (fun _ h9 => h9) rfl dX9_areCells_18 ?_
    refine lv_iload_n hx hb dX9_areCells_21 rfl (lv_at hl 2 rfl) ?_
    refine rd_callV (As := [.int b]) (rest := []) hx hb hml hown hts hE hl.1 (c_X2_has l G g0 nr nc b (by first | assumption | omega) (by first | assumption | omega)) (cw_X9_135 hts) ⟨(Nat.le_of_ble_eq_true rfl), (Nat.le_of_ble_eq_true rfl)⟩ ⟨Nat.zero_le _, Nat.zero_le _⟩ rfl (sub_P hP [2] rfl) rfl rfl rfl rfl (Nat.le_of_ble_eq_true rfl) dX9_areCells_22 ?_
    refine lv_if_eq (tgt := 32) hx hb dX9_areCells_25 (by decide) (fun c25 => ?_) (fun c25 => ?_)
    · have c25 := zb_0.mp c25
      refine lv_iconst (v := 0) hx hb dX9_areCells_32 (by decide) ?_
      exact rd_zret hx hb hr hlk dX9_areCells_33 rfl (by first | rfl | (simp [zb, c11, c25]; done))
    · have c25 := zb_n0.mp c25
      refine lv_iconst (v := 1) hx hb dX9_areCells_28 (by decide) ?_
      refine lv_goto (tgt := 33) hx hb dX9_areCells_29 (by decide) ?_
      exact rd_zret hx hb hr hlk dX9_areCells_33 rfl (by first | rfl | (simp [zb, c11, c25]; done))

set_option maxHeartbeats 4000000 in
set_option maxRecDepth 100000 in
theorem c_X9_freeCells (l : Launch) (G : Gv) (w0 : Nat) (t0 : Nat) (r0 : Nat) (o0 : Nat) (s0 : Nat) (z0 : Nat) (b0 : Nat) (p0 : Nat) (u0 : Nat) (sc : Int64) (sv : Nat) (g0 : Nat) (nr : Nat) (nc : Nat) (a0 : Nat) (a1 : Nat) (a2 : Nat) (a3 : Nat) (a4 : Nat) (C : Nat → Int32) (B : Nat → Int32) (F : Nat → Int32) (K : Nat → Int32) (n : Nat) (y : Int32) (h0 : Nat) (h1 : Nat) (h2 : Nat) (h3 : Nat) (Yr : Nat → Int32) (Dn : Nat → Int32) (Rt : Nat → Int32) (q : Nat) (hn : n ≤ 10) : Rd l yX9_freeCells cX9_freeCells 1 (some .long) (rmz 3 67) G [.ref w0] [(w0, .inr (9, [.ref t0, .ref r0, .ref o0, .ref s0, .ref z0, .ref b0, .ref p0, .ref u0, .long sc, .int (nI sv)])), (o0, .inr (1, [.ref g0, .ref a0, .ref h0])), (g0, .inr (2, [.int (nI nr), .int (nI nc)])), (a0, .inr (4, [.ref a1, .ref a2, .ref a3, .ref a4, .int (nI n), .int y])), (a1, .inl (kI G, 10, .inl C)), (a2, .inl (kI G, 10, .inl B)), (a3, .inl (kI G, 10, .inl F)), (a4, .inl (kI G, 10, .inl K)), (h0, .inr (0, [.ref h1, .ref h2, .ref h3, .int (nI q)])), (h1, .inl (kI G, 5, .inl Yr)), (h2, .inl (kI G, 5, .inl Dn)), (h3, .inl (kI G, 5, .inl Rt))] (.long (frC C B F y n)) := by
  refine Rd.ofW (by decide) (Nat.le_of_ble_eq_true rfl) ?_
  intro p e s m below meth c ls hx hb hml hr hown hts hlk hP hE hl
  have hl : lv_has ls 1 [(0, .ref w0)] := hl
  refine lv_aload_n hx hb dX9_freeCells_0 rfl (lv_at hl 0 rfl) ?_
  refine va_get hx hb hts inlX9 hown hE.1 hP 0 rfl rfl 2 (by decide) (fl_X9_26 hts) (fun _ h9 => h9) rfl dX9_freeCells_1 ?_
  refine va_getN hx hb hts inlX1 hown hE.1 hP 1 rfl rfl 1 (by decide) (nf_X9_100 hE.2.1) (fun _ h9 => h9) rfl dX9_freeCells_4 ?_
  refine lv_aload_n hx hb dX9_freeCells_7 rfl (lv_at hl 0 rfl) ?_
  refine va_get hx hb hts inlX9 hown hE.1 hP 0 rfl rfl 2 (by decide) (fl_X9_26 hts) (fun _ h9 => h9) rfl dX9_freeCells_8 ?_
  refine va_getN hx hb hts inlX1 hown hE.1 hP 1 rfl rfl 1 (by decide) (nf_X9_100 hE.2.1) (fun _ h9 => h9) rfl dX9_freeCells_11 ?_
  refine va_getN hx hb hts inlX4 hown hE.1 hP 3 rfl rfl 5 (by decide) (nf_X9_120 hE.2.1) (fun _ h9 => h9) rfl dX9_freeCells_14 ?_
  refine rd_callV (As := [.int y]) (rest := []) hx hb hml hown hts hE hl.1 (c_X4_standingCells l G a0 a1 a2 a3 a4 C B F K n y y (by first | assumption | omega)) (cw_X9_139 hts) ⟨(Nat.le_of_ble_eq_true rfl), (Nat.le_of_ble_eq_true rfl)⟩ ⟨Nat.zero_le _, Nat.zero_le _⟩ rfl (sub_P hP [3, 4, 5, 6, 7] rfl) rfl rfl rfl rfl (Nat.le_of_ble_eq_true rfl) dX9_freeCells_17 ?_
  refine lv_ldc2 hx hb hown (cL_X9_220 hts) dX9_freeCells_20 ?_
  refine lv_lxor hx hb dX9_freeCells_23 ?_
  exact rd_lret hx hb hr hlk dX9_freeCells_24 (by first | rfl | (simp [zb]; done))

set_option maxHeartbeats 4000000 in
set_option maxRecDepth 100000 in
theorem c_X9_at (l : Launch) (G : Gv) (w0 : Nat) (t0 : Nat) (r0 : Nat) (o0 : Nat) (s0 : Nat) (z0 : Nat) (b0 : Nat) (p0 : Nat) (u0 : Nat) (sc : Int64) (sv : Nat) (g0 : Nat) (nr : Nat) (nc : Nat) (a0 : Nat) (a1 : Nat) (a2 : Nat) (a3 : Nat) (a4 : Nat) (C : Nat → Int32) (B : Nat → Int32) (F : Nat → Int32) (K : Nat → Int32) (n : Nat) (y : Int32) (h0 : Nat) (h1 : Nat) (h2 : Nat) (h3 : Nat) (Yr : Nat → Int32) (Dn : Nat → Int32) (Rt : Nat → Int32) (q : Nat) (x : Int32) (hg1 : 2 ≤ nr ∧ nr ≤ 8) (hg2 : 2 ≤ nc ∧ nc ≤ 8) (hn : n ≤ 10) (hq : q ≤ 5) : Rd l yX9_at cX9_at 2 (some .int) (rmz 2 41) G [.ref w0, .int x] [(w0, .inr (9, [.ref t0, .ref r0, .ref o0, .ref s0, .ref z0, .ref b0, .ref p0, .ref u0, .long sc, .int (nI sv)])), (o0, .inr (1, [.ref g0, .ref a0, .ref h0])), (g0, .inr (2, [.int (nI nr), .int (nI nc)])), (a0, .inr (4, [.ref a1, .ref a2, .ref a3, .ref a4, .int (nI n), .int y])), (a1, .inl (kI G, 10, .inl C)), (a2, .inl (kI G, 10, .inl B)), (a3, .inl (kI G, 10, .inl F)), (a4, .inl (kI G, 10, .inl K)), (h0, .inr (0, [.ref h1, .ref h2, .ref h3, .int (nI q)])), (h1, .inl (kI G, 5, .inl Yr)), (h2, .inl (kI G, 5, .inl Dn)), (h3, .inl (kI G, 5, .inl Rt))] (.int (if inG nr nc x then thI C n x else -1)) := by
  refine Rd.ofW (by decide) (Nat.le_of_ble_eq_true rfl) ?_
  intro p e s m below meth c ls hx hb hml hr hown hts hlk hP hE hl
  have hl : lv_has ls 2 [(0, .ref w0), (1, .int x)] := hl
  refine lv_aload_n hx hb dX9_at_0 rfl (lv_at hl 0 rfl) ?_
  refine va_get hx hb hts inlX9 hown hE.1 hP 0 rfl rfl 2 (by decide) (fl_X9_26 hts) (fun _ h9 => h9) rfl dX9_at_1 ?_
  refine va_getN hx hb hts inlX1 hown hE.1 hP 1 rfl rfl 0 (by decide) (nf_X9_91 hE.2.1) (fun _ h9 => h9) rfl dX9_at_4 ?_
  refine lv_iload_n hx hb dX9_at_7 rfl (lv_at hl 1 rfl) ?_
  refine rd_callV (As := [.int x]) (rest := []) hx hb hml hown hts hE hl.1 (c_X2_has l G g0 nr nc x (by first | assumption | omega) (by first | assumption | omega)) (cw_X9_135 hts) ⟨(Nat.le_of_ble_eq_true rfl), (Nat.le_of_ble_eq_true rfl)⟩ ⟨Nat.zero_le _, Nat.zero_le _⟩ rfl (sub_P hP [2] rfl) rfl rfl rfl rfl (Nat.le_of_ble_eq_true rfl) dX9_at_8 ?_
  refine lv_if_eq (tgt := 28) hx hb dX9_at_11 (by decide) (fun c11 => ?_) (fun c11 => ?_)
  · have c11 := zb_0.mp c11
    refine lv_iconst (v := -1) hx hb dX9_at_28 (by decide) ?_
    exact rd_iret hx hb hr hlk dX9_at_29 (by first | rfl | (simp [zb, c11]; done))
  · have c11 := zb_n0.mp c11
    refine lv_aload_n hx hb dX9_at_14 rfl (lv_at hl 0 rfl) ?_
    refine va_get hx hb hts inlX9 hown hE.1 hP 0 rfl rfl 2 (by decide) (fl_X9_26 hts) (fun _ h9 => h9) rfl dX9_at_15 ?_
    refine va_getN hx hb hts inlX1 hown hE.1 hP 1 rfl rfl 1 (by decide) (nf_X9_100 hE.2.1) (fun _ h9 => h9) rfl dX9_at_18 ?_
    refine lv_iload_n hx hb dX9_at_21 rfl (lv_at hl 1 rfl) ?_
    refine rd_callV (As := [.int x]) (rest := []) hx hb hml hown hts hE hl.1 (c_X4_thingOf l G a0 a1 a2 a3 a4 C B F K n y x (by first | assumption | omega)) (cw_X9_136 hts) ⟨(Nat.le_of_ble_eq_true rfl), (Nat.le_of_ble_eq_true rfl)⟩ ⟨Nat.zero_le _, Nat.zero_le _⟩ rfl (sub_P hP [3, 4, 5, 6, 7] rfl) rfl rfl rfl rfl (Nat.le_of_ble_eq_true rfl) dX9_at_22 ?_
    refine lv_goto (tgt := 29) hx hb dX9_at_25 (by decide) ?_
    exact rd_iret hx hb hr hlk dX9_at_29 (by first | rfl | (simp [zb, c11]; done))

set_option maxHeartbeats 4000000 in
set_option maxRecDepth 100000 in
theorem c_X9_thing (l : Launch) (G : Gv) (w0 : Nat) (t0 : Nat) (r0 : Nat) (o0 : Nat) (s0 : Nat) (z0 : Nat) (b0 : Nat) (p0 : Nat) (u0 : Nat) (sc : Int64) (sv : Nat) (g0 : Nat) (nr : Nat) (nc : Nat) (a0 : Nat) (a1 : Nat) (a2 : Nat) (a3 : Nat) (a4 : Nat) (C : Nat → Int32) (B : Nat → Int32) (F : Nat → Int32) (K : Nat → Int32) (n : Nat) (y : Int32) (h0 : Nat) (h1 : Nat) (h2 : Nat) (h3 : Nat) (Yr : Nat → Int32) (Dn : Nat → Int32) (Rt : Nat → Int32) (q : Nat) (t : Int32) (w : Int32) (hg1 : 2 ≤ nr ∧ nr ≤ 8) (hg2 : 2 ≤ nc ∧ nc ≤ 8) (hn : n ≤ 10) (hq : q ≤ 5) : Rd l yX9_thing cX9_thing 3 (some .int) (rmz 2 43) G [.ref w0, .int t, .int w] [(w0, .inr (9, [.ref t0, .ref r0, .ref o0, .ref s0, .ref z0, .ref b0, .ref p0, .ref u0, .long sc, .int (nI sv)])), (o0, .inr (1, [.ref g0, .ref a0, .ref h0])), (g0, .inr (2, [.int (nI nr), .int (nI nc)])), (a0, .inr (4, [.ref a1, .ref a2, .ref a3, .ref a4, .int (nI n), .int y])), (a1, .inl (kI G, 10, .inl C)), (a2, .inl (kI G, 10, .inl B)), (a3, .inl (kI G, 10, .inl F)), (a4, .inl (kI G, 10, .inl K)), (h0, .inr (0, [.ref h1, .ref h2, .ref h3, .int (nI q)])), (h1, .inl (kI G, 5, .inl Yr)), (h2, .inl (kI G, 5, .inl Dn)), (h3, .inl (kI G, 5, .inl Rt))] (.int (thR n C B F K y t w)) := by
  refine Rd.ofW (by decide) (Nat.le_of_ble_eq_true rfl) ?_
  intro p e s m below meth c ls hx hb hml hr hown hts hlk hP hE hl
  have hl : lv_has ls 3 [(0, .ref w0), (1, .int t), (2, .int w)] := hl
  refine lv_aload_n hx hb dX9_thing_0 rfl (lv_at hl 0 rfl) ?_
  refine va_get hx hb hts inlX9 hown hE.1 hP 0 rfl rfl 2 (by decide) (fl_X9_26 hts) (fun _ h9 => h9) rfl dX9_thing_1 ?_
  refine va_getN hx hb hts inlX1 hown hE.1 hP 1 rfl rfl 1 (by decide) (nf_X9_100 hE.2.1) (fun _ h9 => h9) rfl dX9_thing_4 ?_
  refine lv_iload_n hx hb dX9_thing_7 rfl (lv_at hl 1 rfl) ?_
  refine rd_callV (As := [.int t]) (rest := []) hx hb hml hown hts hE hl.1 (c_X4_has l G a0 a1 a2 a3 a4 C B F K n y t (by first | assumption | omega)) (cw_X9_103 hts) ⟨(Nat.le_of_ble_eq_true rfl), (Nat.le_of_ble_eq_true rfl)⟩ ⟨Nat.zero_le _, Nat.zero_le _⟩ rfl (sub_P hP [3, 4, 5, 6, 7] rfl) rfl rfl rfl rfl (Nat.le_of_ble_eq_true rfl) dX9_thing_8 ?_
  refine lv_if_ne (tgt := 16) hx hb dX9_thing_11 (by decide) (fun c11 => ?_) (fun c11 => ?_)
  · have c11 := zb_n0.mp c11
    refine lv_iload_n hx hb dX9_thing_16 rfl (lv_at hl 2 rfl) ?_
    by_cases e17_0 : w = 0
    · refine lv_tableIn (off := 39) (tgt := 56) hx hb dX9_thing_17 (by rw [e17_0]; decide) (by rw [e17_0]; decide) (by rw [e17_0]; rfl) (by decide) ?_
      refine lv_aload_n hx hb dX9_thing_56 rfl (lv_at hl 0 rfl) ?_
      refine va_get hx hb hts inlX9 hown hE.1 hP 0 rfl rfl 2 (by decide) (fl_X9_26 hts) (fun _ h9 => h9) rfl dX9_thing_57 ?_
      refine va_getN hx hb hts inlX1 hown hE.1 hP 1 rfl rfl 1 (by decide) (nf_X9_100 hE.2.1) (fun _ h9 => h9) rfl dX9_thing_60 ?_
      refine lv_iload_n hx hb dX9_thing_63 rfl (lv_at hl 1 rfl) ?_
      refine rd_callV (As := [.int t]) (rest := []) hx hb hml hown hts hE hl.1 (c_X4_cellOf l G a0 a1 a2 a3 a4 C B F K n y t (by first | assumption | omega)) (cw_X9_107 hts) ⟨(Nat.le_of_ble_eq_true rfl), (Nat.le_of_ble_eq_true rfl)⟩ ⟨Nat.zero_le _, Nat.zero_le _⟩ rfl (sub_P hP [3, 4, 5, 6, 7] rfl) rfl rfl rfl rfl (Nat.le_of_ble_eq_true rfl) dX9_thing_64 ?_
      exact rd_iret hx hb hr hlk dX9_thing_67 (by first | rfl | (simp [zb, c11, e17_0, thR]; done))
    by_cases e17_1 : w = 1
    · refine lv_tableIn (off := 51) (tgt := 68) hx hb dX9_thing_17 (by rw [e17_1]; decide) (by rw [e17_1]; decide) (by rw [e17_1]; rfl) (by decide) ?_
      refine lv_aload_n hx hb dX9_thing_68 rfl (lv_at hl 0 rfl) ?_
      refine va_get hx hb hts inlX9 hown hE.1 hP 0 rfl rfl 2 (by decide) (fl_X9_26 hts) (fun _ h9 => h9) rfl dX9_thing_69 ?_
      refine va_getN hx hb hts inlX1 hown hE.1 hP 1 rfl rfl 1 (by decide) (nf_X9_100 hE.2.1) (fun _ h9 => h9) rfl dX9_thing_72 ?_
      refine lv_iload_n hx hb dX9_thing_75 rfl (lv_at hl 1 rfl) ?_
      refine rd_callV (As := [.int t]) (rest := []) hx hb hml hown hts hE hl.1 (c_X4_startOf l G a0 a1 a2 a3 a4 C B F K n y t (by first | assumption | omega)) (cw_X9_111 hts) ⟨(Nat.le_of_ble_eq_true rfl), (Nat.le_of_ble_eq_true rfl)⟩ ⟨Nat.zero_le _, Nat.zero_le _⟩ rfl (sub_P hP [3, 4, 5, 6, 7] rfl) rfl rfl rfl rfl (Nat.le_of_ble_eq_true rfl) dX9_thing_76 ?_
      exact rd_iret hx hb hr hlk dX9_thing_79 (by first | rfl | (simp [zb, c11, e17_0, e17_1, thR]; done))
    by_cases e17_2 : w = 2
    · refine lv_tableIn (off := 63) (tgt := 80) hx hb dX9_thing_17 (by rw [e17_2]; decide) (by rw [e17_2]; decide) (by rw [e17_2]; rfl) (by decide) ?_
      refine lv_aload_n hx hb dX9_thing_80 rfl (lv_at hl 0 rfl) ?_
      refine va_get hx hb hts inlX9 hown hE.1 hP 0 rfl rfl 2 (by decide) (fl_X9_26 hts) (fun _ h9 => h9) rfl dX9_thing_81 ?_
      refine va_getN hx hb hts inlX1 hown hE.1 hP 1 rfl rfl 1 (by decide) (nf_X9_100 hE.2.1) (fun _ h9 => h9) rfl dX9_thing_84 ?_
      refine lv_iload_n hx hb dX9_thing_87 rfl (lv_at hl 1 rfl) ?_
      refine rd_callV (As := [.int t]) (rest := []) hx hb hml hown hts hE hl.1 (c_X4_toldFallOf l G a0 a1 a2 a3 a4 C B F K n y t (by first | assumption | omega)) (cw_X9_114 hts) ⟨(Nat.le_of_ble_eq_true rfl), (Nat.le_of_ble_eq_true rfl)⟩ ⟨Nat.zero_le _, Nat.zero_le _⟩ rfl (sub_P hP [3, 4, 5, 6, 7] rfl) rfl rfl rfl rfl (Nat.le_of_ble_eq_true rfl) dX9_thing_88 ?_
      exact rd_iret hx hb hr hlk dX9_thing_91 (by first | rfl | (simp [zb, c11, e17_0, e17_1, e17_2, thR]; done))
    by_cases e17_3 : w = 3
    · refine lv_tableIn (off := 75) (tgt := 92) hx hb dX9_thing_17 (by rw [e17_3]; decide) (by rw [e17_3]; decide) (by rw [e17_3]; rfl) (by decide) ?_
      refine lv_aload_n hx hb dX9_thing_92 rfl (lv_at hl 0 rfl) ?_
      refine va_get hx hb hts inlX9 hown hE.1 hP 0 rfl rfl 2 (by decide) (fl_X9_26 hts) (fun _ h9 => h9) rfl dX9_thing_93 ?_
      refine va_getN hx hb hts inlX1 hown hE.1 hP 1 rfl rfl 1 (by decide) (nf_X9_100 hE.2.1) (fun _ h9 => h9) rfl dX9_thing_96 ?_
      refine lv_iload_n hx hb dX9_thing_99 rfl (lv_at hl 1 rfl) ?_
      refine rd_callV (As := [.int t]) (rest := []) hx hb hml hown hts hE hl.1 (c_X4_kindOf l G a0 a1 a2 a3 a4 C B F K n y t (by first | assumption | omega)) (cw_X9_117 hts) ⟨(Nat.le_of_ble_eq_true rfl), (Nat.le_of_ble_eq_true rfl)⟩ ⟨Nat.zero_le _, Nat.zero_le _⟩ rfl (sub_P hP [3, 4, 5, 6, 7] rfl) rfl rfl rfl rfl (Nat.le_of_ble_eq_true rfl) dX9_thing_100 ?_
      exact rd_iret hx hb hr hlk dX9_thing_103 (by first | rfl | (simp [zb, c11, e17_0, e17_1, e17_2, e17_3, thR]; done))
    by_cases e17_4 : w = 4
    · refine lv_tableIn (off := 87) (tgt := 104) hx hb dX9_thing_17 (by rw [e17_4]; decide) (by rw [e17_4]; decide) (by rw [e17_4]; rfl) (by decide) ?_
      refine lv_aload_n hx hb dX9_thing_104 rfl (lv_at hl 0 rfl) ?_
      refine va_get hx hb hts inlX9 hown hE.1 hP 0 rfl rfl 2 (by decide) (fl_X9_26 hts) (fun _ h9 => h9) rfl dX9_thing_105 ?_
      refine va_getN hx hb hts inlX1 hown hE.1 hP 1 rfl rfl 1 (by decide) (nf_X9_100 hE.2.1) (fun _ h9 => h9) rfl dX9_thing_108 ?_
      refine lv_iload_n hx hb dX9_thing_111 rfl (lv_at hl 1 rfl) ?_
      refine lv_aload_n hx hb dX9_thing_112 rfl (lv_at hl 0 rfl) ?_
      refine va_get hx hb hts inlX9 hown hE.1 hP 0 rfl rfl 2 (by decide) (fl_X9_26 hts) (fun _ h9 => h9) rfl dX9_thing_113 ?_
      refine va_getN hx hb hts inlX1 hown hE.1 hP 1 rfl rfl 1 (by decide) (nf_X9_100 hE.2.1) (fun _ h9 => h9) rfl dX9_thing_116 ?_
      refine va_getN hx hb hts inlX4 hown hE.1 hP 3 rfl rfl 5 (by decide) (nf_X9_120 hE.2.1) (fun _ h9 => h9) rfl dX9_thing_119 ?_
      refine rd_callV (As := [.int t, .int y]) (rest := []) hx hb hml hown hts hE hl.1 (c_X4_standsIn l G a0 a1 a2 a3 a4 C B F K n y t y (by first | assumption | omega)) (cw_X9_124 hts) ⟨(Nat.le_of_ble_eq_true rfl), (Nat.le_of_ble_eq_true rfl)⟩ ⟨Nat.zero_le _, Nat.zero_le _⟩ rfl (sub_P hP [3, 4, 5, 6, 7] rfl) rfl rfl rfl rfl (Nat.le_of_ble_eq_true rfl) dX9_thing_122 ?_
      refine rd_callS (As := [.int (zb (stI n B F t y))]) (rest := []) hx hb hml hown hts hE hl.1 (c_X9_oneIf l G (stI n B F t y) ) (cs_X9_128 hts) ⟨(Nat.le_of_ble_eq_true rfl), (Nat.le_of_ble_eq_true rfl)⟩ ⟨Nat.zero_le _, Nat.zero_le _⟩ rfl (sub_P hP [] rfl) rfl (Nat.le_of_ble_eq_true rfl) dX9_thing_125 ?_
      exact rd_iret hx hb hr hlk dX9_thing_128 (by first | rfl | (simp [zb, c11, e17_0, e17_1, e17_2, e17_3, e17_4, thR]; done))
    by_cases e17_5 : w = 5
    · refine lv_tableIn (off := 112) (tgt := 129) hx hb dX9_thing_17 (by rw [e17_5]; decide) (by rw [e17_5]; decide) (by rw [e17_5]; rfl) (by decide) ?_
      refine lv_aload_n hx hb dX9_thing_129 rfl (lv_at hl 0 rfl) ?_
      refine va_get hx hb hts inlX9 hown hE.1 hP 0 rfl rfl 2 (by decide) (fl_X9_26 hts) (fun _ h9 => h9) rfl dX9_thing_130 ?_
      refine va_getN hx hb hts inlX1 hown hE.1 hP 1 rfl rfl 1 (by decide) (nf_X9_100 hE.2.1) (fun _ h9 => h9) rfl dX9_thing_133 ?_
      refine lv_iload_n hx hb dX9_thing_136 rfl (lv_at hl 1 rfl) ?_
      refine lv_aload_n hx hb dX9_thing_137 rfl (lv_at hl 0 rfl) ?_
      refine va_get hx hb hts inlX9 hown hE.1 hP 0 rfl rfl 2 (by decide) (fl_X9_26 hts) (fun _ h9 => h9) rfl dX9_thing_138 ?_
      refine va_getN hx hb hts inlX1 hown hE.1 hP 1 rfl rfl 1 (by decide) (nf_X9_100 hE.2.1) (fun _ h9 => h9) rfl dX9_thing_141 ?_
      refine va_getN hx hb hts inlX4 hown hE.1 hP 3 rfl rfl 5 (by decide) (nf_X9_120 hE.2.1) (fun _ h9 => h9) rfl dX9_thing_144 ?_
      refine rd_callV (As := [.int t, .int y]) (rest := []) hx hb hml hown hts hE hl.1 (c_X4_isLostBy l G a0 a1 a2 a3 a4 C B F K n y t y (by first | assumption | omega)) (cw_X9_132 hts) ⟨(Nat.le_of_ble_eq_true rfl), (Nat.le_of_ble_eq_true rfl)⟩ ⟨Nat.zero_le _, Nat.zero_le _⟩ rfl (sub_P hP [3, 4, 5, 6, 7] rfl) rfl rfl rfl rfl (Nat.le_of_ble_eq_true rfl) dX9_thing_147 ?_
      refine rd_callS (As := [.int (zb (loI n F t y))]) (rest := []) hx hb hml hown hts hE hl.1 (c_X9_oneIf l G (loI n F t y) ) (cs_X9_128 hts) ⟨(Nat.le_of_ble_eq_true rfl), (Nat.le_of_ble_eq_true rfl)⟩ ⟨Nat.zero_le _, Nat.zero_le _⟩ rfl (sub_P hP [] rfl) rfl (Nat.le_of_ble_eq_true rfl) dX9_thing_150 ?_
      exact rd_iret hx hb hr hlk dX9_thing_153 (by first | rfl | (simp [zb, c11, e17_0, e17_1, e17_2, e17_3, e17_4, e17_5, thR]; done))
    refine lv_tableOut (tgt := 154) hx hb dX9_thing_17 (sw_out6 e17_0 e17_1 e17_2 e17_3 e17_4 e17_5) (by decide) ?_
    refine lv_iconst (v := -1) hx hb dX9_thing_154 (by decide) ?_
    exact rd_iret hx hb hr hlk dX9_thing_155 (by first | rfl | (simp [zb, c11, e17_0, e17_1, e17_2, e17_3, e17_4, e17_5, thR]; done))
  · have c11 := zb_0.mp c11
    refine lv_iconst (v := -1) hx hb dX9_thing_14 (by decide) ?_
    exact rd_iret hx hb hr hlk dX9_thing_15 (by first | rfl | (simp [zb, c11, thR]; done))

set_option maxHeartbeats 4000000 in
set_option maxRecDepth 100000 in
theorem c_X9_free (l : Launch) (G : Gv) (w0 : Nat) (t0 : Nat) (r0 : Nat) (o0 : Nat) (s0 : Nat) (z0 : Nat) (b0 : Nat) (p0 : Nat) (u0 : Nat) (sc : Int64) (sv : Nat) (g0 : Nat) (nr : Nat) (nc : Nat) (a0 : Nat) (a1 : Nat) (a2 : Nat) (a3 : Nat) (a4 : Nat) (C : Nat → Int32) (B : Nat → Int32) (F : Nat → Int32) (K : Nat → Int32) (n : Nat) (y : Int32) (h0 : Nat) (h1 : Nat) (h2 : Nat) (h3 : Nat) (Yr : Nat → Int32) (Dn : Nat → Int32) (Rt : Nat → Int32) (q : Nat) (x : Int32) (w : Int32) (hg1 : 2 ≤ nr ∧ nr ≤ 8) (hg2 : 2 ≤ nc ∧ nc ≤ 8) (hn : n ≤ 10) (hq : q ≤ 5) : Rd l yX9_free cX9_free 3 (some .int) (rmz 3 67) G [.ref w0, .int x, .int w] [(w0, .inr (9, [.ref t0, .ref r0, .ref o0, .ref s0, .ref z0, .ref b0, .ref p0, .ref u0, .long sc, .int (nI sv)])), (o0, .inr (1, [.ref g0, .ref a0, .ref h0])), (g0, .inr (2, [.int (nI nr), .int (nI nc)])), (a0, .inr (4, [.ref a1, .ref a2, .ref a3, .ref a4, .int (nI n), .int y])), (a1, .inl (kI G, 10, .inl C)), (a2, .inl (kI G, 10, .inl B)), (a3, .inl (kI G, 10, .inl F)), (a4, .inl (kI G, 10, .inl K)), (h0, .inr (0, [.ref h1, .ref h2, .ref h3, .int (nI q)])), (h1, .inl (kI G, 5, .inl Yr)), (h2, .inl (kI G, 5, .inl Dn)), (h3, .inl (kI G, 5, .inl Rt))] (.int (frR nr nc C B F n x w)) := by
  refine Rd.ofW (by decide) (Nat.le_of_ble_eq_true rfl) ?_
  intro p e s m below meth c ls hx hb hml hr hown hts hlk hP hE hl
  have hl : lv_has ls 3 [(0, .ref w0), (1, .int x), (2, .int w)] := hl
  refine lv_aload_n hx hb dX9_free_0 rfl (lv_at hl 0 rfl) ?_
  refine va_get hx hb hts inlX9 hown hE.1 hP 0 rfl rfl 2 (by decide) (fl_X9_26 hts) (fun _ h9 => h9) rfl dX9_free_1 ?_
  refine va_getN hx hb hts inlX1 hown hE.1 hP 1 rfl rfl 0 (by decide) (nf_X9_91 hE.2.1) (fun _ h9 => h9) rfl dX9_free_4 ?_
  refine lv_iload_n hx hb dX9_free_7 rfl (lv_at hl 1 rfl) ?_
  refine rd_callV (As := [.int x]) (rest := []) hx hb hml hown hts hE hl.1 (c_X2_has l G g0 nr nc x (by first | assumption | omega) (by first | assumption | omega)) (cw_X9_135 hts) ⟨(Nat.le_of_ble_eq_true rfl), (Nat.le_of_ble_eq_true rfl)⟩ ⟨Nat.zero_le _, Nat.zero_le _⟩ rfl (sub_P hP [2] rfl) rfl rfl rfl rfl (Nat.le_of_ble_eq_true rfl) dX9_free_8 ?_
  refine lv_if_eq (tgt := 25) hx hb dX9_free_11 (by decide) (fun c11 => ?_) (fun c11 => ?_)
  · have c11 := zb_0.mp c11
    refine lv_iconst (v := -1) hx hb dX9_free_25 (by decide) ?_
    exact rd_iret hx hb hr hlk dX9_free_26 (by first | rfl | (simp [zb, c11, frR]; done))
  · have c11 := zb_n0.mp c11
    refine lv_iload_n hx hb dX9_free_14 rfl (lv_at hl 2 rfl) ?_
    refine lv_if_lt (tgt := 25) hx hb dX9_free_15 (by decide) (fun c15 => ?_) (fun c15 => ?_)
    · refine lv_iconst (v := -1) hx hb dX9_free_25 (by decide) ?_
      exact rd_iret hx hb hr hlk dX9_free_26 (by first | rfl | (simp [zb, c11, c15, frR]; done))
    · refine lv_iload_n hx hb dX9_free_18 rfl (lv_at hl 2 rfl) ?_
      refine lv_sipush (v := 199) hx hb dX9_free_19 (by decide) ?_
      refine lv_icmp_le (tgt := 27) hx hb dX9_free_22 (by decide) (fun c22 => ?_) (fun c22 => ?_)
      · refine lv_aload_n hx hb dX9_free_27 rfl (lv_at hl 0 rfl) ?_
        refine va_get hx hb hts inlX9 hown hE.1 hP 0 rfl rfl 2 (by decide) (fl_X9_26 hts) (fun _ h9 => h9) rfl dX9_free_28 ?_
        refine va_getN hx hb hts inlX1 hown hE.1 hP 1 rfl rfl 1 (by decide) (nf_X9_100 hE.2.1) (fun _ h9 => h9) rfl dX9_free_31 ?_
        refine lv_iload_n hx hb dX9_free_34 rfl (lv_at hl 2 rfl) ?_
        refine rd_callV (As := [.int w]) (rest := []) hx hb hml hown hts hE hl.1 (c_X4_standingCells l G a0 a1 a2 a3 a4 C B F K n y w (by first | assumption | omega)) (cw_X9_139 hts) ⟨(Nat.le_of_ble_eq_true rfl), (Nat.le_of_ble_eq_true rfl)⟩ ⟨Nat.zero_le _, Nat.zero_le _⟩ rfl (sub_P hP [3, 4, 5, 6, 7] rfl) rfl rfl rfl rfl (Nat.le_of_ble_eq_true rfl) dX9_free_35 ?_
        refine lv_iload_n hx hb dX9_free_38 rfl (lv_at hl 1 rfl) ?_
        refine rd_callS (As := [.long (stC C B F w n), .int x]) (rest := []) hx hb hml hown hts hE hl.1 (c_X9_holds l G (stC C B F w n) x ) (cs_X9_143 hts) ⟨(Nat.le_of_ble_eq_true rfl), (Nat.le_of_ble_eq_true rfl)⟩ ⟨Nat.zero_le _, Nat.zero_le _⟩ rfl (sub_P hP [] rfl) rfl (Nat.le_of_ble_eq_true rfl) dX9_free_39 ?_
        refine lv_if_ne (tgt := 49) hx hb dX9_free_42 (by decide) (fun c42 => ?_) (fun c42 => ?_)
        · have c42 := zb_n0.mp c42
          refine lv_iconst (v := 0) hx hb dX9_free_49 (by decide) ?_
          refine rd_callS (As := [.int 0]) (rest := []) hx hb hml hown hts hE hl.1 (c_X9_oneIf l G false ) (cs_X9_128 hts) ⟨(Nat.le_of_ble_eq_true rfl), (Nat.le_of_ble_eq_true rfl)⟩ ⟨Nat.zero_le _, Nat.zero_le _⟩ rfl (sub_P hP [] rfl) rfl (Nat.le_of_ble_eq_true rfl) dX9_free_50 ?_
          exact rd_iret hx hb hr hlk dX9_free_53 (by first | rfl | (simp [zb, c11, c15, c22, c42, frR]; done))
        · have c42 := zb_0.mp c42
          refine lv_iconst (v := 1) hx hb dX9_free_45 (by decide) ?_
          refine lv_goto (tgt := 50) hx hb dX9_free_46 (by decide) ?_
          refine rd_callS (As := [.int 1]) (rest := []) hx hb hml hown hts hE hl.1 (c_X9_oneIf l G true ) (cs_X9_128 hts) ⟨(Nat.le_of_ble_eq_true rfl), (Nat.le_of_ble_eq_true rfl)⟩ ⟨Nat.zero_le _, Nat.zero_le _⟩ rfl (sub_P hP [] rfl) rfl (Nat.le_of_ble_eq_true rfl) dX9_free_50 ?_
          exact rd_iret hx hb hr hlk dX9_free_53 (by first | rfl | (simp [zb, c11, c15, c22, c42, frR]; done))
      · refine lv_iconst (v := -1) hx hb dX9_free_25 (by decide) ?_
        exact rd_iret hx hb hr hlk dX9_free_26 (by first | rfl | (simp [zb, c11, c15, c22, frR]; done))

set_option maxHeartbeats 4000000 in
set_option maxRecDepth 100000 in
theorem c_X9_map (l : Launch) (G : Gv) (w0 : Nat) (t0 : Nat) (r0 : Nat) (o0 : Nat) (s0 : Nat) (z0 : Nat) (b0 : Nat) (p0 : Nat) (u0 : Nat) (sc : Int64) (sv : Nat) (g0 : Nat) (nr : Nat) (nc : Nat) (a0 : Nat) (a1 : Nat) (a2 : Nat) (a3 : Nat) (a4 : Nat) (C : Nat → Int32) (B : Nat → Int32) (F : Nat → Int32) (K : Nat → Int32) (n : Nat) (y : Int32) (h0 : Nat) (h1 : Nat) (h2 : Nat) (h3 : Nat) (Yr : Nat → Int32) (Dn : Nat → Int32) (Rt : Nat → Int32) (q : Nat) (t : Int32) (w : Int32) (hg1 : 2 ≤ nr ∧ nr ≤ 8) (hg2 : 2 ≤ nc ∧ nc ≤ 8) (hn : n ≤ 10) (hq : q ≤ 5) : Rd l yX9_map cX9_map 3 (some .int) (rmz 6 138) G [.ref w0, .int t, .int w] [(w0, .inr (9, [.ref t0, .ref r0, .ref o0, .ref s0, .ref z0, .ref b0, .ref p0, .ref u0, .long sc, .int (nI sv)])), (o0, .inr (1, [.ref g0, .ref a0, .ref h0])), (g0, .inr (2, [.int (nI nr), .int (nI nc)])), (a0, .inr (4, [.ref a1, .ref a2, .ref a3, .ref a4, .int (nI n), .int y])), (a1, .inl (kI G, 10, .inl C)), (a2, .inl (kI G, 10, .inl B)), (a3, .inl (kI G, 10, .inl F)), (a4, .inl (kI G, 10, .inl K)), (h0, .inr (0, [.ref h1, .ref h2, .ref h3, .int (nI q)])), (h1, .inl (kI G, 5, .inl Yr)), (h2, .inl (kI G, 5, .inl Dn)), (h3, .inl (kI G, 5, .inl Rt))] (.int (mpR nr nc C F K n Yr Dn Rt q t w)) := by
  refine Rd.ofW (by decide) (Nat.le_of_ble_eq_true rfl) ?_
  intro p e s m below meth c ls hx hb hml hr hown hts hlk hP hE hl
  have hl : lv_has ls 3 [(0, .ref w0), (1, .int t), (2, .int w)] := hl
  refine lv_aload_n hx hb dX9_map_0 rfl (lv_at hl 0 rfl) ?_
  refine va_get hx hb hts inlX9 hown hE.1 hP 0 rfl rfl 2 (by decide) (fl_X9_26 hts) (fun _ h9 => h9) rfl dX9_map_1 ?_
  refine va_getN hx hb hts inlX1 hown hE.1 hP 1 rfl rfl 2 (by decide) (nf_X9_147 hE.2.1) (fun _ h9 => h9) rfl dX9_map_4 ?_
  refine lv_iload_n hx hb dX9_map_7 rfl (lv_at hl 1 rfl) ?_
  refine rd_callV (As := [.int t]) (rest := []) hx hb hml hown hts hE hl.1 (c_X0_has l G h0 h1 h2 h3 Yr Dn Rt q t (by first | assumption | omega)) (cw_X9_151 hts) ⟨(Nat.le_of_ble_eq_true rfl), (Nat.le_of_ble_eq_true rfl)⟩ ⟨Nat.zero_le _, Nat.zero_le _⟩ rfl (sub_P hP [8, 9, 10, 11] rfl) rfl rfl rfl rfl (Nat.le_of_ble_eq_true rfl) dX9_map_8 ?_
  refine lv_if_ne (tgt := 16) hx hb dX9_map_11 (by decide) (fun c11 => ?_) (fun c11 => ?_)
  · have c11 := zb_n0.mp c11
    refine lv_iload_n hx hb dX9_map_16 rfl (lv_at hl 2 rfl) ?_
    by_cases e17_0 : w = 0
    · refine lv_tableIn (off := 31) (tgt := 48) hx hb dX9_map_17 (by rw [e17_0]; decide) (by rw [e17_0]; decide) (by rw [e17_0]; rfl) (by decide) ?_
      refine lv_aload_n hx hb dX9_map_48 rfl (lv_at hl 0 rfl) ?_
      refine va_get hx hb hts inlX9 hown hE.1 hP 0 rfl rfl 2 (by decide) (fl_X9_26 hts) (fun _ h9 => h9) rfl dX9_map_49 ?_
      refine va_getN hx hb hts inlX1 hown hE.1 hP 1 rfl rfl 2 (by decide) (nf_X9_147 hE.2.1) (fun _ h9 => h9) rfl dX9_map_52 ?_
      refine lv_iload_n hx hb dX9_map_55 rfl (lv_at hl 1 rfl) ?_
      refine rd_callV (As := [.int t]) (rest := []) hx hb hml hown hts hE hl.1 (c_X0_yearOf l G h0 h1 h2 h3 Yr Dn Rt q t (by first | assumption | omega)) (cw_X9_154 hts) ⟨(Nat.le_of_ble_eq_true rfl), (Nat.le_of_ble_eq_true rfl)⟩ ⟨Nat.zero_le _, Nat.zero_le _⟩ rfl (sub_P hP [8, 9, 10, 11] rfl) rfl rfl rfl rfl (Nat.le_of_ble_eq_true rfl) dX9_map_56 ?_
      exact rd_iret hx hb hr hlk dX9_map_59 (by first | rfl | (simp [zb, c11, e17_0, mpR]; done))
    by_cases e17_1 : w = 1
    · refine lv_tableIn (off := 43) (tgt := 60) hx hb dX9_map_17 (by rw [e17_1]; decide) (by rw [e17_1]; decide) (by rw [e17_1]; rfl) (by decide) ?_
      refine lv_aload_n hx hb dX9_map_60 rfl (lv_at hl 0 rfl) ?_
      refine va_get hx hb hts inlX9 hown hE.1 hP 0 rfl rfl 2 (by decide) (fl_X9_26 hts) (fun _ h9 => h9) rfl dX9_map_61 ?_
      refine va_getN hx hb hts inlX1 hown hE.1 hP 1 rfl rfl 2 (by decide) (nf_X9_147 hE.2.1) (fun _ h9 => h9) rfl dX9_map_64 ?_
      refine lv_iload_n hx hb dX9_map_67 rfl (lv_at hl 1 rfl) ?_
      refine rd_callV (As := [.int t]) (rest := []) hx hb hml hown hts hE hl.1 (c_X0_downOf l G h0 h1 h2 h3 Yr Dn Rt q t (by first | assumption | omega)) (cw_X9_157 hts) ⟨(Nat.le_of_ble_eq_true rfl), (Nat.le_of_ble_eq_true rfl)⟩ ⟨Nat.zero_le _, Nat.zero_le _⟩ rfl (sub_P hP [8, 9, 10, 11] rfl) rfl rfl rfl rfl (Nat.le_of_ble_eq_true rfl) dX9_map_68 ?_
      exact rd_iret hx hb hr hlk dX9_map_71 (by first | rfl | (simp [zb, c11, e17_0, e17_1, mpR]; done))
    by_cases e17_2 : w = 2
    · refine lv_tableIn (off := 55) (tgt := 72) hx hb dX9_map_17 (by rw [e17_2]; decide) (by rw [e17_2]; decide) (by rw [e17_2]; rfl) (by decide) ?_
      refine lv_aload_n hx hb dX9_map_72 rfl (lv_at hl 0 rfl) ?_
      refine va_get hx hb hts inlX9 hown hE.1 hP 0 rfl rfl 2 (by decide) (fl_X9_26 hts) (fun _ h9 => h9) rfl dX9_map_73 ?_
      refine va_getN hx hb hts inlX1 hown hE.1 hP 1 rfl rfl 2 (by decide) (nf_X9_147 hE.2.1) (fun _ h9 => h9) rfl dX9_map_76 ?_
      refine lv_iload_n hx hb dX9_map_79 rfl (lv_at hl 1 rfl) ?_
      refine rd_callV (As := [.int t]) (rest := []) hx hb hml hown hts hE hl.1 (c_X0_rightOf l G h0 h1 h2 h3 Yr Dn Rt q t (by first | assumption | omega)) (cw_X9_160 hts) ⟨(Nat.le_of_ble_eq_true rfl), (Nat.le_of_ble_eq_true rfl)⟩ ⟨Nat.zero_le _, Nat.zero_le _⟩ rfl (sub_P hP [8, 9, 10, 11] rfl) rfl rfl rfl rfl (Nat.le_of_ble_eq_true rfl) dX9_map_80 ?_
      exact rd_iret hx hb hr hlk dX9_map_83 (by first | rfl | (simp [zb, c11, e17_0, e17_1, e17_2, mpR]; done))
    by_cases e17_3 : w = 3
    · refine lv_tableIn (off := 67) (tgt := 84) hx hb dX9_map_17 (by rw [e17_3]; decide) (by rw [e17_3]; decide) (by rw [e17_3]; rfl) (by decide) ?_
      refine lv_aload_n hx hb dX9_map_84 rfl (lv_at hl 0 rfl) ?_
      refine va_get hx hb hts inlX9 hown hE.1 hP 0 rfl rfl 2 (by decide) (fl_X9_26 hts) (fun _ h9 => h9) rfl dX9_map_85 ?_
      refine lv_iload_n hx hb dX9_map_88 rfl (lv_at hl 1 rfl) ?_
      refine rd_callV (As := [.int t]) (rest := []) hx hb hml hown hts hE hl.1 (c_X1_shownBy l G o0 g0 nr nc a0 a1 a2 a3 a4 C B F K n y h0 h1 h2 h3 Yr Dn Rt q t (by first | assumption | omega) (by first | assumption | omega) (by first | assumption | omega) (by first | assumption | omega)) (cw_X9_163 hts) ⟨(Nat.le_of_ble_eq_true rfl), (Nat.le_of_ble_eq_true rfl)⟩ ⟨Nat.zero_le _, Nat.zero_le _⟩ rfl (sub_P hP [1, 2, 3, 4, 5, 6, 7, 8, 9, 10, 11] rfl) rfl rfl rfl rfl (Nat.le_of_ble_eq_true rfl) dX9_map_89 ?_
      refine rd_callS (As := [.long (swC nr nc C F K n Yr Dn Rt q t)]) (rest := []) hx hb hml hown hts hE hl.1 (c_J13_bitCount_95d88 l G (swC nr nc C F K n Yr Dn Rt q t) ) (cs_X9_166 hts) ⟨(Nat.le_of_ble_eq_true rfl), (Nat.le_of_ble_eq_true rfl)⟩ ⟨Nat.zero_le _, Nat.zero_le _⟩ rfl (sub_P hP [] rfl) rfl (Nat.le_of_ble_eq_true rfl) dX9_map_92 ?_
      exact rd_iret hx hb hr hlk dX9_map_95 (by first | rfl | (simp [zb, c11, e17_0, e17_1, e17_2, e17_3, mpR]; done))
    refine lv_tableOut (tgt := 96) hx hb dX9_map_17 (sw_out4 e17_0 e17_1 e17_2 e17_3) (by decide) ?_
    refine lv_iconst (v := -1) hx hb dX9_map_96 (by decide) ?_
    exact rd_iret hx hb hr hlk dX9_map_97 (by first | rfl | (simp [zb, c11, e17_0, e17_1, e17_2, e17_3, mpR]; done))
  · have c11 := zb_0.mp c11
    refine lv_iconst (v := -1) hx hb dX9_map_14 (by decide) ?_
    exact rd_iret hx hb hr hlk dX9_map_15 (by first | rfl | (simp [zb, c11, mpR]; done))

set_option maxHeartbeats 4000000 in
set_option maxRecDepth 100000 in
theorem c_X9_shows (l : Launch) (G : Gv) (w0 : Nat) (t0 : Nat) (r0 : Nat) (o0 : Nat) (s0 : Nat) (z0 : Nat) (b0 : Nat) (p0 : Nat) (u0 : Nat) (sc : Int64) (sv : Nat) (g0 : Nat) (nr : Nat) (nc : Nat) (a0 : Nat) (a1 : Nat) (a2 : Nat) (a3 : Nat) (a4 : Nat) (C : Nat → Int32) (B : Nat → Int32) (F : Nat → Int32) (K : Nat → Int32) (n : Nat) (y : Int32) (h0 : Nat) (h1 : Nat) (h2 : Nat) (h3 : Nat) (Yr : Nat → Int32) (Dn : Nat → Int32) (Rt : Nat → Int32) (q : Nat) (t : Int32) (x : Int32) (hg1 : 2 ≤ nr ∧ nr ≤ 8) (hg2 : 2 ≤ nc ∧ nc ≤ 8) (hn : n ≤ 10) (hq : q ≤ 5) : Rd l yX9_shows cX9_shows 3 (some .int) (rmz 6 138) G [.ref w0, .int t, .int x] [(w0, .inr (9, [.ref t0, .ref r0, .ref o0, .ref s0, .ref z0, .ref b0, .ref p0, .ref u0, .long sc, .int (nI sv)])), (o0, .inr (1, [.ref g0, .ref a0, .ref h0])), (g0, .inr (2, [.int (nI nr), .int (nI nc)])), (a0, .inr (4, [.ref a1, .ref a2, .ref a3, .ref a4, .int (nI n), .int y])), (a1, .inl (kI G, 10, .inl C)), (a2, .inl (kI G, 10, .inl B)), (a3, .inl (kI G, 10, .inl F)), (a4, .inl (kI G, 10, .inl K)), (h0, .inr (0, [.ref h1, .ref h2, .ref h3, .int (nI q)])), (h1, .inl (kI G, 5, .inl Yr)), (h2, .inl (kI G, 5, .inl Dn)), (h3, .inl (kI G, 5, .inl Rt))] (.int (swR nr nc C F K n Yr Dn Rt q t x)) := by
  refine Rd.ofW (by decide) (Nat.le_of_ble_eq_true rfl) ?_
  intro p e s m below meth c ls hx hb hml hr hown hts hlk hP hE hl
  have hl : lv_has ls 3 [(0, .ref w0), (1, .int t), (2, .int x)] := hl
  refine lv_aload_n hx hb dX9_shows_0 rfl (lv_at hl 0 rfl) ?_
  refine va_get hx hb hts inlX9 hown hE.1 hP 0 rfl rfl 2 (by decide) (fl_X9_26 hts) (fun _ h9 => h9) rfl dX9_shows_1 ?_
  refine va_getN hx hb hts inlX1 hown hE.1 hP 1 rfl rfl 2 (by decide) (nf_X9_147 hE.2.1) (fun _ h9 => h9) rfl dX9_shows_4 ?_
  refine lv_iload_n hx hb dX9_shows_7 rfl (lv_at hl 1 rfl) ?_
  refine rd_callV (As := [.int t]) (rest := []) hx hb hml hown hts hE hl.1 (c_X0_has l G h0 h1 h2 h3 Yr Dn Rt q t (by first | assumption | omega)) (cw_X9_151 hts) ⟨(Nat.le_of_ble_eq_true rfl), (Nat.le_of_ble_eq_true rfl)⟩ ⟨Nat.zero_le _, Nat.zero_le _⟩ rfl (sub_P hP [8, 9, 10, 11] rfl) rfl rfl rfl rfl (Nat.le_of_ble_eq_true rfl) dX9_shows_8 ?_
  refine lv_if_eq (tgt := 28) hx hb dX9_shows_11 (by decide) (fun c11 => ?_) (fun c11 => ?_)
  · have c11 := zb_0.mp c11
    refine lv_iconst (v := -1) hx hb dX9_shows_28 (by decide) ?_
    exact rd_iret hx hb hr hlk dX9_shows_29 (by first | rfl | (simp [zb, c11, swR]; done))
  · have c11 := zb_n0.mp c11
    refine lv_aload_n hx hb dX9_shows_14 rfl (lv_at hl 0 rfl) ?_
    refine va_get hx hb hts inlX9 hown hE.1 hP 0 rfl rfl 2 (by decide) (fl_X9_26 hts) (fun _ h9 => h9) rfl dX9_shows_15 ?_
    refine va_getN hx hb hts inlX1 hown hE.1 hP 1 rfl rfl 0 (by decide) (nf_X9_91 hE.2.1) (fun _ h9 => h9) rfl dX9_shows_18 ?_
    refine lv_iload_n hx hb dX9_shows_21 rfl (lv_at hl 2 rfl) ?_
    refine rd_callV (As := [.int x]) (rest := []) hx hb hml hown hts hE hl.1 (c_X2_has l G g0 nr nc x (by first | assumption | omega) (by first | assumption | omega)) (cw_X9_135 hts) ⟨(Nat.le_of_ble_eq_true rfl), (Nat.le_of_ble_eq_true rfl)⟩ ⟨Nat.zero_le _, Nat.zero_le _⟩ rfl (sub_P hP [2] rfl) rfl rfl rfl rfl (Nat.le_of_ble_eq_true rfl) dX9_shows_22 ?_
    refine lv_if_ne (tgt := 30) hx hb dX9_shows_25 (by decide) (fun c25 => ?_) (fun c25 => ?_)
    · have c25 := zb_n0.mp c25
      refine lv_aload_n hx hb dX9_shows_30 rfl (lv_at hl 0 rfl) ?_
      refine va_get hx hb hts inlX9 hown hE.1 hP 0 rfl rfl 2 (by decide) (fl_X9_26 hts) (fun _ h9 => h9) rfl dX9_shows_31 ?_
      refine lv_iload_n hx hb dX9_shows_34 rfl (lv_at hl 1 rfl) ?_
      refine rd_callV (As := [.int t]) (rest := []) hx hb hml hown hts hE hl.1 (c_X1_shownBy l G o0 g0 nr nc a0 a1 a2 a3 a4 C B F K n y h0 h1 h2 h3 Yr Dn Rt q t (by first | assumption | omega) (by first | assumption | omega) (by first | assumption | omega) (by first | assumption | omega)) (cw_X9_163 hts) ⟨(Nat.le_of_ble_eq_true rfl), (Nat.le_of_ble_eq_true rfl)⟩ ⟨Nat.zero_le _, Nat.zero_le _⟩ rfl (sub_P hP [1, 2, 3, 4, 5, 6, 7, 8, 9, 10, 11] rfl) rfl rfl rfl rfl (Nat.le_of_ble_eq_true rfl) dX9_shows_35 ?_
      refine lv_iload_n hx hb dX9_shows_38 rfl (lv_at hl 2 rfl) ?_
      refine rd_callS (As := [.long (swC nr nc C F K n Yr Dn Rt q t), .int x]) (rest := []) hx hb hml hown hts hE hl.1 (c_X9_holds l G (swC nr nc C F K n Yr Dn Rt q t) x ) (cs_X9_143 hts) ⟨(Nat.le_of_ble_eq_true rfl), (Nat.le_of_ble_eq_true rfl)⟩ ⟨Nat.zero_le _, Nat.zero_le _⟩ rfl (sub_P hP [] rfl) rfl (Nat.le_of_ble_eq_true rfl) dX9_shows_39 ?_
      refine rd_callS (As := [.int (zb (hs (swC nr nc C F K n Yr Dn Rt q t) x))]) (rest := []) hx hb hml hown hts hE hl.1 (c_X9_oneIf l G (hs (swC nr nc C F K n Yr Dn Rt q t) x) ) (cs_X9_128 hts) ⟨(Nat.le_of_ble_eq_true rfl), (Nat.le_of_ble_eq_true rfl)⟩ ⟨Nat.zero_le _, Nat.zero_le _⟩ rfl (sub_P hP [] rfl) rfl (Nat.le_of_ble_eq_true rfl) dX9_shows_42 ?_
      exact rd_iret hx hb hr hlk dX9_shows_45 (by first | rfl | (simp [zb, c11, c25, swR]; done))
    · have c25 := zb_0.mp c25
      refine lv_iconst (v := -1) hx hb dX9_shows_28 (by decide) ?_
      exact rd_iret hx hb hr hlk dX9_shows_29 (by first | rfl | (simp [zb, c11, c25, swR]; done))

set_option maxHeartbeats 4000000 in
set_option maxRecDepth 100000 in
theorem c_X9_wrong (l : Launch) (G : Gv) (w0 : Nat) (t0 : Nat) (r0 : Nat) (o0 : Nat) (s0 : Nat) (z0 : Nat) (b0 : Nat) (p0 : Nat) (u0 : Nat) (sc : Int64) (sv : Nat) (g0 : Nat) (nr : Nat) (nc : Nat) (a0 : Nat) (a1 : Nat) (a2 : Nat) (a3 : Nat) (a4 : Nat) (C : Nat → Int32) (B : Nat → Int32) (F : Nat → Int32) (K : Nat → Int32) (n : Nat) (y : Int32) (h0 : Nat) (h1 : Nat) (h2 : Nat) (h3 : Nat) (Yr : Nat → Int32) (Dn : Nat → Int32) (Rt : Nat → Int32) (q : Nat) (t : Int32) (w : Int32) (hg1 : 2 ≤ nr ∧ nr ≤ 8) (hg2 : 2 ≤ nc ∧ nc ≤ 8) (hn : n ≤ 10) (hq : q ≤ 5) : Rd l yX9_wrong cX9_wrong 5 (some .int) (rmz 6 138) G [.ref w0, .int t, .int w] [(w0, .inr (9, [.ref t0, .ref r0, .ref o0, .ref s0, .ref z0, .ref b0, .ref p0, .ref u0, .long sc, .int (nI sv)])), (o0, .inr (1, [.ref g0, .ref a0, .ref h0])), (g0, .inr (2, [.int (nI nr), .int (nI nc)])), (a0, .inr (4, [.ref a1, .ref a2, .ref a3, .ref a4, .int (nI n), .int y])), (a1, .inl (kI G, 10, .inl C)), (a2, .inl (kI G, 10, .inl B)), (a3, .inl (kI G, 10, .inl F)), (a4, .inl (kI G, 10, .inl K)), (h0, .inr (0, [.ref h1, .ref h2, .ref h3, .int (nI q)])), (h1, .inl (kI G, 5, .inl Yr)), (h2, .inl (kI G, 5, .inl Dn)), (h3, .inl (kI G, 5, .inl Rt))] (.int (wgR nr nc C F K n Yr Dn Rt q t w)) := by
  refine Rd.ofW (by decide) (Nat.le_of_ble_eq_true rfl) ?_
  intro p e s m below meth c ls hx hb hml hr hown hts hlk hP hE hl
  have hl : lv_has ls 5 [(0, .ref w0), (1, .int t), (2, .int w)] := hl
  refine lv_aload_n hx hb dX9_wrong_0 rfl (lv_at hl 0 rfl) ?_
  refine va_get hx hb hts inlX9 hown hE.1 hP 0 rfl rfl 2 (by decide) (fl_X9_26 hts) (fun _ h9 => h9) rfl dX9_wrong_1 ?_
  refine va_getN hx hb hts inlX1 hown hE.1 hP 1 rfl rfl 2 (by decide) (nf_X9_147 hE.2.1) (fun _ h9 => h9) rfl dX9_wrong_4 ?_
  refine lv_iload_n hx hb dX9_wrong_7 rfl (lv_at hl 1 rfl) ?_
  refine rd_callV (As := [.int t]) (rest := []) hx hb hml hown hts hE hl.1 (c_X0_has l G h0 h1 h2 h3 Yr Dn Rt q t (by first | assumption | omega)) (cw_X9_151 hts) ⟨(Nat.le_of_ble_eq_true rfl), (Nat.le_of_ble_eq_true rfl)⟩ ⟨Nat.zero_le _, Nat.zero_le _⟩ rfl (sub_P hP [8, 9, 10, 11] rfl) rfl rfl rfl rfl (Nat.le_of_ble_eq_true rfl) dX9_wrong_8 ?_
  refine lv_if_eq (tgt := 21) hx hb dX9_wrong_11 (by decide) (fun c11 => ?_) (fun c11 => ?_)
  · have c11 := zb_0.mp c11
    refine lv_iconst (v := -1) hx hb dX9_wrong_21 (by decide) ?_
    exact rd_iret hx hb hr hlk dX9_wrong_22 (by simp [wgR, c11])
  · have c11 := zb_n0.mp c11
    refine lv_iload_n hx hb dX9_wrong_14 rfl (lv_at hl 2 rfl) ?_
    refine rd_callS (As := [.int w]) (rest := []) hx hb hml hown hts hE hl.1 (c_X9_isZeroOrOne l G w ) (cs_X9_236 hts) ⟨(Nat.le_of_ble_eq_true rfl), (Nat.le_of_ble_eq_true rfl)⟩ ⟨Nat.zero_le _, Nat.zero_le _⟩ rfl (sub_P hP [] rfl) rfl (Nat.le_of_ble_eq_true rfl) dX9_wrong_15 ?_
    refine lv_if_ne (tgt := 23) hx hb dX9_wrong_18 (by decide) (fun c18 => ?_) (fun c18 => ?_)
    · have c18 := zb_n0.mp c18
      refine lv_aload_n hx hb dX9_wrong_23 rfl (lv_at hl 0 rfl) ?_
      refine va_get hx hb hts inlX9 hown hE.1 hP 0 rfl rfl 2 (by decide) (fl_X9_26 hts) (fun _ h9 => h9) rfl dX9_wrong_24 ?_
      refine lv_iload_n hx hb dX9_wrong_27 rfl (lv_at hl 1 rfl) ?_
      refine rd_callV (As := [.int t]) (rest := []) hx hb hml hown hts hE hl.1 (c_X1_shownBy l G o0 g0 nr nc a0 a1 a2 a3 a4 C B F K n y h0 h1 h2 h3 Yr Dn Rt q t (by first | assumption | omega) (by first | assumption | omega) (by first | assumption | omega) (by first | assumption | omega)) (cw_X9_163 hts) ⟨(Nat.le_of_ble_eq_true rfl), (Nat.le_of_ble_eq_true rfl)⟩ ⟨Nat.zero_le _, Nat.zero_le _⟩ rfl (sub_P hP [1, 2, 3, 4, 5, 6, 7, 8, 9, 10, 11] rfl) rfl rfl rfl rfl (Nat.le_of_ble_eq_true rfl) dX9_wrong_28 ?_
      refine lv_aload_n hx hb dX9_wrong_31 rfl (lv_at hl 0 rfl) ?_
      refine va_get hx hb hts inlX9 hown hE.1 hP 0 rfl rfl 2 (by decide) (fl_X9_26 hts) (fun _ h9 => h9) rfl dX9_wrong_32 ?_
      refine va_getN hx hb hts inlX1 hown hE.1 hP 1 rfl rfl 1 (by decide) (nf_X9_100 hE.2.1) (fun _ h9 => h9) rfl dX9_wrong_35 ?_
      refine lv_aload_n hx hb dX9_wrong_38 rfl (lv_at hl 0 rfl) ?_
      refine va_get hx hb hts inlX9 hown hE.1 hP 0 rfl rfl 2 (by decide) (fl_X9_26 hts) (fun _ h9 => h9) rfl dX9_wrong_39 ?_
      refine va_getN hx hb hts inlX1 hown hE.1 hP 1 rfl rfl 2 (by decide) (nf_X9_147 hE.2.1) (fun _ h9 => h9) rfl dX9_wrong_42 ?_
      refine lv_iload_n hx hb dX9_wrong_45 rfl (lv_at hl 1 rfl) ?_
      refine rd_callV (As := [.int t]) (rest := [.ref a0, .long (swC nr nc C F K n Yr Dn Rt q t)]) hx hb hml hown hts hE hl.1 (c_X0_yearOf l G h0 h1 h2 h3 Yr Dn Rt q t (by first | assumption | omega)) (cw_X9_154 hts) ⟨(Nat.le_of_ble_eq_true rfl), (Nat.le_of_ble_eq_true rfl)⟩ ⟨Nat.zero_le _, Nat.zero_le _⟩ rfl (sub_P hP [8, 9, 10, 11] rfl) rfl rfl rfl rfl (Nat.le_of_ble_eq_true rfl) dX9_wrong_46 ?_
      refine rd_callV (As := [.int (atI q Yr t)]) (rest := [.long (swC nr nc C F K n Yr Dn Rt q t)]) hx hb hml hown hts hE hl.1 (c_X4_lostCells l G a0 a1 a2 a3 a4 C B F K n y (atI q Yr t) (by first | assumption | omega)) (cw_X9_239 hts) ⟨(Nat.le_of_ble_eq_true rfl), (Nat.le_of_ble_eq_true rfl)⟩ ⟨Nat.zero_le _, Nat.zero_le _⟩ rfl (sub_P hP [3, 4, 5, 6, 7] rfl) rfl rfl rfl rfl (Nat.le_of_ble_eq_true rfl) dX9_wrong_49 ?_
      refine lv_ldc2 hx hb hown (cL_X9_220 hts) dX9_wrong_52 ?_
      refine lv_lxor hx hb dX9_wrong_55 ?_
      refine lv_land hx hb dX9_wrong_56 ?_
      refine lv_lstore_n (lv' := [(3, .long ((swC nr nc C F K n Yr Dn Rt q t) &&& ((loC C F (atI q Yr t) n) ^^^ (-1)))), (0, .ref w0), (1, .int t), (2, .int w)]) hx hb dX9_wrong_57 rfl hl (by decide) rfl (fun ls hl => ?_)
      refine lv_iload_n hx hb dX9_wrong_58 rfl (lv_at hl 3 rfl) ?_
      refine lv_if_ne (tgt := 69) hx hb dX9_wrong_59 (by decide) (fun c59 => ?_) (fun c59 => ?_)
      · refine lv_lload_n hx hb dX9_wrong_69 rfl (lv_at hl 0 rfl) ?_
        refine rd_callS (As := [.long ((swC nr nc C F K n Yr Dn Rt q t) &&& ((loC C F (atI q Yr t) n) ^^^ (-1)))]) (rest := []) hx hb hml hown hts hE hl.1 (c_X9_lowestOf l G ((swC nr nc C F K n Yr Dn Rt q t) &&& ((loC C F (atI q Yr t) n) ^^^ (-1))) ) (cs_X9_242 hts) ⟨(Nat.le_of_ble_eq_true rfl), (Nat.le_of_ble_eq_true rfl)⟩ ⟨Nat.zero_le _, Nat.zero_le _⟩ rfl (sub_P hP [] rfl) rfl (Nat.le_of_ble_eq_true rfl) dX9_wrong_70 ?_
        exact rd_iret hx hb hr hlk dX9_wrong_73 (by unfold wgR; first | (rw [if_pos c11, if_pos c18, if_pos c59]; rfl) | (rw [if_pos c11, if_pos c18, if_neg c59]; rfl))
      · refine lv_lload_n hx hb dX9_wrong_62 rfl (lv_at hl 0 rfl) ?_
        refine rd_callS (As := [.long ((swC nr nc C F K n Yr Dn Rt q t) &&& ((loC C F (atI q Yr t) n) ^^^ (-1)))]) (rest := []) hx hb hml hown hts hE hl.1 (c_J13_bitCount_95d88 l G ((swC nr nc C F K n Yr Dn Rt q t) &&& ((loC C F (atI q Yr t) n) ^^^ (-1))) ) (cs_X9_166 hts) ⟨(Nat.le_of_ble_eq_true rfl), (Nat.le_of_ble_eq_true rfl)⟩ ⟨Nat.zero_le _, Nat.zero_le _⟩ rfl (sub_P hP [] rfl) rfl (Nat.le_of_ble_eq_true rfl) dX9_wrong_63 ?_
        refine lv_goto (tgt := 73) hx hb dX9_wrong_66 (by decide) ?_
        exact rd_iret hx hb hr hlk dX9_wrong_73 (by unfold wgR; first | (rw [if_pos c11, if_pos c18, if_pos c59]; rfl) | (rw [if_pos c11, if_pos c18, if_neg c59]; rfl))
    · have c18 := zb_0.mp c18
      refine lv_iconst (v := -1) hx hb dX9_wrong_21 (by decide) ?_
      exact rd_iret hx hb hr hlk dX9_wrong_22 (by simp [wgR, c11, c18])

set_option maxHeartbeats 4000000 in
set_option maxRecDepth 100000 in
theorem c_X9_older (l : Launch) (G : Gv) (w0 : Nat) (t0 : Nat) (r0 : Nat) (o0 : Nat) (s0 : Nat) (z0 : Nat) (b0 : Nat) (p0 : Nat) (u0 : Nat) (sc : Int64) (sv : Nat) (g0 : Nat) (nr : Nat) (nc : Nat) (a0 : Nat) (a1 : Nat) (a2 : Nat) (a3 : Nat) (a4 : Nat) (C : Nat → Int32) (B : Nat → Int32) (F : Nat → Int32) (K : Nat → Int32) (n : Nat) (y : Int32) (h0 : Nat) (h1 : Nat) (h2 : Nat) (h3 : Nat) (Yr : Nat → Int32) (Dn : Nat → Int32) (Rt : Nat → Int32) (q : Nat) (hg1 : 2 ≤ nr ∧ nr ≤ 8) (hg2 : 2 ≤ nc ∧ nc ≤ 8) (hn : n ≤ 10) (hq : q ≤ 5) : Rd l yX9_older cX9_older 1 (some .int) (rmz 4 91) G [.ref w0] [(w0, .inr (9, [.ref t0, .ref r0, .ref o0, .ref s0, .ref z0, .ref b0, .ref p0, .ref u0, .long sc, .int (nI sv)])), (o0, .inr (1, [.ref g0, .ref a0, .ref h0])), (g0, .inr (2, [.int (nI nr), .int (nI nc)])), (a0, .inr (4, [.ref a1, .ref a2, .ref a3, .ref a4, .int (nI n), .int y])), (a1, .inl (kI G, 10, .inl C)), (a2, .inl (kI G, 10, .inl B)), (a3, .inl (kI G, 10, .inl F)), (a4, .inl (kI G, 10, .inl K)), (h0, .inr (0, [.ref h1, .ref h2, .ref h3, .int (nI q)])), (h1, .inl (kI G, 5, .inl Yr)), (h2, .inl (kI G, 5, .inl Dn)), (h3, .inl (kI G, 5, .inl Rt))] (.int (olR n F K Yr q)) := by
  refine Rd.ofW (by decide) (Nat.le_of_ble_eq_true rfl) ?_
  intro p e s m below meth c ls hx hb hml hr hown hts hlk hP hE hl
  have hl : lv_has ls 1 [(0, .ref w0)] := hl
  refine lv_aload_n hx hb dX9_older_0 rfl (lv_at hl 0 rfl) ?_
  refine va_get hx hb hts inlX9 hown hE.1 hP 0 rfl rfl 2 (by decide) (fl_X9_26 hts) (fun _ h9 => h9) rfl dX9_older_1 ?_
  refine va_getN hx hb hts inlX1 hown hE.1 hP 1 rfl rfl 2 (by decide) (nf_X9_147 hE.2.1) (fun _ h9 => h9) rfl dX9_older_4 ?_
  refine rd_callV (As := []) (rest := []) hx hb hml hown hts hE hl.1 (c_X0_size l G h0 h1 h2 h3 Yr Dn Rt q ) (cw_X9_245 hts) ⟨(Nat.le_of_ble_eq_true rfl), (Nat.le_of_ble_eq_true rfl)⟩ ⟨Nat.zero_le _, Nat.zero_le _⟩ rfl (sub_P hP [8, 9, 10, 11] rfl) rfl rfl rfl rfl (Nat.le_of_ble_eq_true rfl) dX9_older_7 ?_
  refine lv_if_ne (tgt := 18) hx hb dX9_older_10 (by decide) (fun c10 => ?_) (fun c10 => ?_)
  · refine lv_aload_n hx hb dX9_older_18 rfl (lv_at hl 0 rfl) ?_
    refine va_get hx hb hts inlX9 hown hE.1 hP 0 rfl rfl 2 (by decide) (fl_X9_26 hts) (fun _ h9 => h9) rfl dX9_older_19 ?_
    refine rd_callV (As := []) (rest := []) hx hb hml hown hts hE hl.1 (c_X1_ordersOfFall l G o0 g0 nr nc a0 a1 a2 a3 a4 C B F K n y h0 h1 h2 h3 Yr Dn Rt q (by first | assumption | omega) (by first | assumption | omega) (by first | assumption | omega) (by first | assumption | omega)) (cw_X9_246 hts) ⟨(Nat.le_of_ble_eq_true rfl), (Nat.le_of_ble_eq_true rfl)⟩ ⟨Nat.zero_le _, Nat.zero_le _⟩ rfl (sub_P hP [1, 2, 3, 4, 5, 6, 7, 8, 9, 10, 11] rfl) rfl rfl rfl rfl (Nat.le_of_ble_eq_true rfl) dX9_older_22 ?_
    exact rd_iret hx hb hr hlk dX9_older_25 (by first | rfl | (simp [zb, c10, olR]; done))
  · refine lv_bipush (v := -4) hx hb dX9_older_13 (by decide) ?_
    refine lv_goto (tgt := 25) hx hb dX9_older_15 (by decide) ?_
    exact rd_iret hx hb hr hlk dX9_older_25 (by first | rfl | (simp [zb, c10, olR]; done))

set_option maxHeartbeats 4000000 in
set_option maxRecDepth 100000 in
theorem c_X9_showsJustSeen (l : Launch) (G : Gv) (w0 : Nat) (t0 : Nat) (r0 : Nat) (o0 : Nat) (s0 : Nat) (z0 : Nat) (b0 : Nat) (p0 : Nat) (u0 : Nat) (sc : Int64) (sv : Nat) (g0 : Nat) (nr : Nat) (nc : Nat) (a0 : Nat) (a1 : Nat) (a2 : Nat) (a3 : Nat) (a4 : Nat) (C : Nat → Int32) (B : Nat → Int32) (F : Nat → Int32) (K : Nat → Int32) (n : Nat) (y : Int32) (h0 : Nat) (h1 : Nat) (h2 : Nat) (h3 : Nat) (Yr : Nat → Int32) (Dn : Nat → Int32) (Rt : Nat → Int32) (q : Nat) (v : Int64) (h : Int32) (hg1 : 2 ≤ nr ∧ nr ≤ 8) (hg2 : 2 ≤ nc ∧ nc ≤ 8) : Rd l yX9_showsJustSeen cX9_showsJustSeen 6 (some .boolean) (rmz 4 96) G [.ref w0, .long v, .int h] [(w0, .inr (9, [.ref t0, .ref r0, .ref o0, .ref s0, .ref z0, .ref b0, .ref p0, .ref u0, .long sc, .int (nI sv)])), (o0, .inr (1, [.ref g0, .ref a0, .ref h0])), (g0, .inr (2, [.int (nI nr), .int (nI nc)])), (a0, .inr (4, [.ref a1, .ref a2, .ref a3, .ref a4, .int (nI n), .int y])), (a1, .inl (kI G, 10, .inl C)), (a2, .inl (kI G, 10, .inl B)), (a3, .inl (kI G, 10, .inl F)), (a4, .inl (kI G, 10, .inl K)), (h0, .inr (0, [.ref h1, .ref h2, .ref h3, .int (nI q)])), (h1, .inl (kI G, 5, .inl Yr)), (h2, .inl (kI G, 5, .inl Dn)), (h3, .inl (kI G, 5, .inl Rt))] (.int (zb (jsB nr nc sc v h))) := by
  refine Rd.ofW (by decide) (Nat.le_of_ble_eq_true rfl) ?_
  intro p e s m below meth c ls hx hb hml hr hown hts hlk hP hE hl
  have hl : lv_has ls 6 [(0, .ref w0), (1, .long v), (3, .int h)] := hl
  refine lv_iload_n hx hb dX9_showsJustSeen_0 rfl (lv_at hl 2 rfl) ?_
  refine lv_iconst (v := 5) hx hb dX9_showsJustSeen_1 (by decide) ?_
  refine lv_idiv hx hb dX9_showsJustSeen_2 (by decide) ?_
  refine lv_iconst (v := 2) hx hb dX9_showsJustSeen_3 (by decide) ?_
  refine lv_isub hx hb dX9_showsJustSeen_4 ?_
  refine lv_istore (lv' := [(4, .int ((h / 5) - 2)), (0, .ref w0), (1, .long v), (3, .int h)]) hx hb dX9_showsJustSeen_5 hl (by decide) rfl (fun ls hl => ?_)
  refine lv_iload_n hx hb dX9_showsJustSeen_7 rfl (lv_at hl 3 rfl) ?_
  refine lv_iconst (v := 5) hx hb dX9_showsJustSeen_8 (by decide) ?_
  refine lv_irem hx hb dX9_showsJustSeen_9 (by decide) ?_
  refine lv_iconst (v := 2) hx hb dX9_showsJustSeen_10 (by decide) ?_
  refine lv_isub hx hb dX9_showsJustSeen_11 ?_
  refine lv_istore (lv' := [(5, .int ((h - h / 5 * 5) - 2)), (4, .int ((h / 5) - 2)), (0, .ref w0), (1, .long v), (3, .int h)]) hx hb dX9_showsJustSeen_12 hl (by decide) rfl (fun ls hl => ?_)
  refine lv_aload_n hx hb dX9_showsJustSeen_14 rfl (lv_at hl 2 rfl) ?_
  refine va_get hx hb hts inlX9 hown hE.1 hP 0 rfl rfl 2 (by decide) (fl_X9_26 hts) (fun _ h9 => h9) rfl dX9_showsJustSeen_15 ?_
  refine va_getN hx hb hts inlX1 hown hE.1 hP 1 rfl rfl 0 (by decide) (nf_X9_91 hE.2.1) (fun _ h9 => h9) rfl dX9_showsJustSeen_18 ?_
  refine lv_lload_n hx hb dX9_showsJustSeen_21 rfl (lv_at hl 3 rfl) ?_
  refine lv_iload hx hb dX9_showsJustSeen_22 (lv_at hl 1 rfl) ?_
  refine lv_iload hx hb dX9_showsJustSeen_24 (lv_at hl 0 rfl) ?_
  refine rd_callV (As := [.long v, .int ((h / 5) - 2), .int ((h - h / 5 * 5) - 2)]) (rest := []) hx hb hml hown hts hE hl.1 (c_X2_shiftAll l G g0 nr nc v ((h / 5) - 2) ((h - h / 5 * 5) - 2) (by first | assumption | omega) (by first | assumption | omega)) (cw_X9_317 hts) ⟨(Nat.le_of_ble_eq_true rfl), (Nat.le_of_ble_eq_true rfl)⟩ ⟨Nat.zero_le _, Nat.zero_le _⟩ rfl (sub_P hP [2] rfl) rfl rfl rfl rfl (Nat.le_of_ble_eq_true rfl) dX9_showsJustSeen_26 ?_
  refine lv_aload_n hx hb dX9_showsJustSeen_29 rfl (lv_at hl 2 rfl) ?_
  refine va_get hx hb hts inlX9 hown hE.1 hP 0 rfl rfl 8 (by decide) (fl_X9_252 hts) (fun _ h9 => h9) rfl dX9_showsJustSeen_30 ?_
  refine W.lcmp hx hb dX9_showsJustSeen_33 ?_
  refine lv_if_ne (tgt := 41) hx hb dX9_showsJustSeen_34 (by decide) (fun c34 => ?_) (fun c34 => ?_)
  · have c34 := lgc_ne.mp c34
    refine lv_iconst (v := 0) hx hb dX9_showsJustSeen_41 (by decide) ?_
    exact rd_zret hx hb hr hlk dX9_showsJustSeen_42 rfl (by first | rfl | (simp [zb, c34, jsB]; done))
  · have c34 := lgc_eq.mp c34
    refine lv_iconst (v := 1) hx hb dX9_showsJustSeen_37 (by decide) ?_
    refine lv_goto (tgt := 42) hx hb dX9_showsJustSeen_38 (by decide) ?_
    exact rd_zret hx hb hr hlk dX9_showsJustSeen_42 rfl (by first | rfl | (simp [zb, c34, jsB]; done))

set_option maxHeartbeats 4000000 in
set_option maxRecDepth 100000 in
theorem c_X9_handsShowing (l : Launch) (G : Gv) (w0 : Nat) (t0 : Nat) (r0 : Nat) (o0 : Nat) (s0 : Nat) (z0 : Nat) (b0 : Nat) (p0 : Nat) (u0 : Nat) (sc : Int64) (sv : Nat) (g0 : Nat) (nr : Nat) (nc : Nat) (a0 : Nat) (a1 : Nat) (a2 : Nat) (a3 : Nat) (a4 : Nat) (C : Nat → Int32) (B : Nat → Int32) (F : Nat → Int32) (K : Nat → Int32) (n : Nat) (y : Int32) (h0 : Nat) (h1 : Nat) (h2 : Nat) (h3 : Nat) (Yr : Nat → Int32) (Dn : Nat → Int32) (Rt : Nat → Int32) (q : Nat) (v : Int64) (hg1 : 2 ≤ nr ∧ nr ≤ 8) (hg2 : 2 ≤ nc ∧ nc ≤ 8) : Rd l yX9_handsShowing cX9_handsShowing 5 (some .int) (rmz 5 121) G [.ref w0, .long v] [(w0, .inr (9, [.ref t0, .ref r0, .ref o0, .ref s0, .ref z0, .ref b0, .ref p0, .ref u0, .long sc, .int (nI sv)])), (o0, .inr (1, [.ref g0, .ref a0, .ref h0])), (g0, .inr (2, [.int (nI nr), .int (nI nc)])), (a0, .inr (4, [.ref a1, .ref a2, .ref a3, .ref a4, .int (nI n), .int y])), (a1, .inl (kI G, 10, .inl C)), (a2, .inl (kI G, 10, .inl B)), (a3, .inl (kI G, 10, .inl F)), (a4, .inl (kI G, 10, .inl K)), (h0, .inr (0, [.ref h1, .ref h2, .ref h3, .int (nI q)])), (h1, .inl (kI G, 5, .inl Yr)), (h2, .inl (kI G, 5, .inl Dn)), (h3, .inl (kI G, 5, .inl Rt))] (.int (hsA nr nc sc v 25)) := by
  refine Rd.ofW (by decide) (Nat.le_of_ble_eq_true rfl) ?_
  intro p e s m below meth c ls hx hb hml hr hown hts hlk hP hE hl
  have hl : lv_has ls 5 [(0, .ref w0), (1, .long v)] := hl
  have J_5 : ∀ (n_ : Nat) (k : Nat) (acc : Int32) (hk : k ≤ 25) (ha : acc = hsA nr nc sc v k) (hm_5 : 25 - k < n_), ∀ ls : Array Slot, lv_has ls 5 [(0, .ref w0), (1, .long v), (3, .int acc), (4, .int (nI k))] → WR p l e (rmz 5 121) s m [.ref w0, .long v] below meth c (.int (hsA nr nc sc v 25)) (F0 m 5 ls []) := by
    intro n_
    induction n_ with
    | zero =>
      intro k acc hk ha hm_5
      exact absurd hm_5 (Nat.not_lt_zero _)
    | succ n_ ih_5 =>
      intro k acc hk ha hm_5 ls hl
      refine lv_iload hx hb dX9_handsShowing_5 (lv_at hl 3 rfl) ?_
      refine lv_bipush (v := 25) hx hb dX9_handsShowing_7 (by decide) ?_
      refine lv_icmp_ge (tgt := 36) hx hb dX9_handsShowing_9 (by decide) (fun c9 => ?_) (fun c9 => ?_)
      · have hkn : 25 ≤ k := le_of_le (n := 25) (by omega) (by omega) c9
        refine lv_iload_n hx hb dX9_handsShowing_36 rfl (lv_at hl 2 rfl) ?_
        exact rd_iret hx hb hr hlk dX9_handsShowing_37 (by rw [ha, show k = 25 by omega])
      · have hkn : k < 25 := lt_of_nle (n := 25) (by omega) (by omega) c9
        refine lv_iload_n hx hb dX9_handsShowing_12 rfl (lv_at hl 2 rfl) ?_
        refine lv_aload_n hx hb dX9_handsShowing_13 rfl (lv_at hl 0 rfl) ?_
        refine lv_lload_n hx hb dX9_handsShowing_14 rfl (lv_at hl 1 rfl) ?_
        refine lv_iload hx hb dX9_handsShowing_15 (lv_at hl 3 rfl) ?_
        refine rd_callV (As := [.long v, .int (nI k)]) (rest := [.int acc]) hx hb hml hown hts hE hl.1 (c_X9_showsJustSeen l G w0 t0 r0 o0 s0 z0 b0 p0 u0 sc sv g0 nr nc a0 a1 a2 a3 a4 C B F K n y h0 h1 h2 h3 Yr Dn Rt q v (nI k) (by first | assumption | omega) (by first | assumption | omega)) (cw_X9_314 hts) ⟨(Nat.le_of_ble_eq_true rfl), (Nat.le_of_ble_eq_true rfl)⟩ ⟨Nat.zero_le _, Nat.zero_le _⟩ rfl (sub_P hP [0, 1, 2, 3, 4, 5, 6, 7, 8, 9, 10, 11] rfl) rfl rfl rfl rfl (Nat.le_of_ble_eq_true rfl) dX9_handsShowing_17 ?_
        refine lv_if_eq (tgt := 27) hx hb dX9_handsShowing_20 (by decide) (fun c20 => ?_) (fun c20 => ?_)
        · have c20 := zb_0.mp c20
          refine lv_iconst (v := 0) hx hb dX9_handsShowing_27 (by decide) ?_
          refine lv_iadd hx hb dX9_handsShowing_28 ?_
          refine lv_istore_n (lv' := [(3, .int (acc + 0)), (0, .ref w0), (1, .long v), (4, .int (nI k))]) hx hb dX9_handsShowing_29 rfl hl (by decide) rfl (fun ls hl => ?_)
          refine lv_iinc (v := nI (k + 1)) (lv' := [(4, .int (nI (k + 1))), (3, .int (acc + 0)), (0, .ref w0), (1, .long v)]) hx hb dX9_handsShowing_30 hl (k := 3) rfl (nI_1 k) (by decide) rfl (fun ls hl => ?_)
          refine lv_goto (tgt := 5) hx hb dX9_handsShowing_33 (by decide) ?_
          have ha0 := ha
          rw [hsA] at ha0
          exact ih_5 (k + 1) (acc + 0) (by first | assumption | omega | rfl) (by rw [hsA, it_s]; simp only [← ha0]; simp [c9, c20]) (by omega) ls (lv_sub hl [2, 3, 1, 0] rfl)
        · have c20 := zb_n0.mp c20
          refine lv_iconst (v := 1) hx hb dX9_handsShowing_23 (by decide) ?_
          refine lv_goto (tgt := 28) hx hb dX9_handsShowing_24 (by decide) ?_
          refine lv_iadd hx hb dX9_handsShowing_28 ?_
          refine lv_istore_n (lv' := [(3, .int (acc + 1)), (0, .ref w0), (1, .long v), (4, .int (nI k))]) hx hb dX9_handsShowing_29 rfl hl (by decide) rfl (fun ls hl => ?_)
          refine lv_iinc (v := nI (k + 1)) (lv' := [(4, .int (nI (k + 1))), (3, .int (acc + 1)), (0, .ref w0), (1, .long v)]) hx hb dX9_handsShowing_30 hl (k := 3) rfl (nI_1 k) (by decide) rfl (fun ls hl => ?_)
          refine lv_goto (tgt := 5) hx hb dX9_handsShowing_33 (by decide) ?_
          have ha0 := ha
          rw [hsA] at ha0
          exact ih_5 (k + 1) (acc + 1) (by first | assumption | omega | rfl) (by rw [hsA, it_s]; simp only [← ha0]; simp [c9, c20]) (by omega) ls (lv_sub hl [2, 3, 1, 0] rfl)
  refine lv_iconst (v := 0) hx hb dX9_handsShowing_0 (by decide) ?_
  refine lv_istore_n (lv' := [(3, .int 0), (0, .ref w0), (1, .long v)]) hx hb dX9_handsShowing_1 rfl hl (by decide) rfl (fun ls hl => ?_)
  refine lv_iconst (v := 0) hx hb dX9_handsShowing_2 (by decide) ?_
  refine lv_istore (lv' := [(4, .int 0), (3, .int 0), (0, .ref w0), (1, .long v)]) hx hb dX9_handsShowing_3 hl (by decide) rfl (fun ls hl => ?_)
  exact J_5 (25 - 0 + 1) 0 0 (by first | assumption | omega | rfl) rfl (Nat.lt_succ_self _) ls (lv_sub hl [2, 3, 1, 0] rfl)

set_option maxHeartbeats 4000000 in
set_option maxRecDepth 100000 in
theorem c_X9_firstHandShowing (l : Launch) (G : Gv) (w0 : Nat) (t0 : Nat) (r0 : Nat) (o0 : Nat) (s0 : Nat) (z0 : Nat) (b0 : Nat) (p0 : Nat) (u0 : Nat) (sc : Int64) (sv : Nat) (g0 : Nat) (nr : Nat) (nc : Nat) (a0 : Nat) (a1 : Nat) (a2 : Nat) (a3 : Nat) (a4 : Nat) (C : Nat → Int32) (B : Nat → Int32) (F : Nat → Int32) (K : Nat → Int32) (n : Nat) (y : Int32) (h0 : Nat) (h1 : Nat) (h2 : Nat) (h3 : Nat) (Yr : Nat → Int32) (Dn : Nat → Int32) (Rt : Nat → Int32) (q : Nat) (v : Int64) (hg1 : 2 ≤ nr ∧ nr ≤ 8) (hg2 : 2 ≤ nc ∧ nc ≤ 8) : Rd l yX9_firstHandShowing cX9_firstHandShowing 4 (some .int) (rmz 5 121) G [.ref w0, .long v] [(w0, .inr (9, [.ref t0, .ref r0, .ref o0, .ref s0, .ref z0, .ref b0, .ref p0, .ref u0, .long sc, .int (nI sv)])), (o0, .inr (1, [.ref g0, .ref a0, .ref h0])), (g0, .inr (2, [.int (nI nr), .int (nI nc)])), (a0, .inr (4, [.ref a1, .ref a2, .ref a3, .ref a4, .int (nI n), .int y])), (a1, .inl (kI G, 10, .inl C)), (a2, .inl (kI G, 10, .inl B)), (a3, .inl (kI G, 10, .inl F)), (a4, .inl (kI G, 10, .inl K)), (h0, .inr (0, [.ref h1, .ref h2, .ref h3, .int (nI q)])), (h1, .inl (kI G, 5, .inl Yr)), (h2, .inl (kI G, 5, .inl Dn)), (h3, .inl (kI G, 5, .inl Rt))] (.int (fhA nr nc sc v)) := by
  refine Rd.ofW (by decide) (Nat.le_of_ble_eq_true rfl) ?_
  intro p e s m below meth c ls hx hb hml hr hown hts hlk hP hE hl
  have hl : lv_has ls 4 [(0, .ref w0), (1, .long v)] := hl
  have J_2 : ∀ (n_ : Nat) (k : Nat) (hk : k ≤ 25) (hL : fhA nr nc sc v = fsx (fun j => jsB nr nc sc v (nI j)) (25 - k) k) (hm_2 : 25 - k < n_), ∀ ls : Array Slot, lv_has ls 4 [(0, .ref w0), (1, .long v), (3, .int (nI k))] → WR p l e (rmz 5 121) s m [.ref w0, .long v] below meth c (.int (fhA nr nc sc v)) (F0 m 2 ls []) := by
    intro n_
    induction n_ with
    | zero =>
      intro k hk hL hm_2
      exact absurd hm_2 (Nat.not_lt_zero _)
    | succ n_ ih_2 =>
      intro k hk hL hm_2 ls hl
      refine lv_iload_n hx hb dX9_firstHandShowing_2 rfl (lv_at hl 2 rfl) ?_
      refine lv_bipush (v := 25) hx hb dX9_firstHandShowing_3 (by decide) ?_
      refine lv_icmp_ge (tgt := 25) hx hb dX9_firstHandShowing_5 (by decide) (fun c5 => ?_) (fun c5 => ?_)
      · have hkn : 25 ≤ k := le_of_le (n := 25) (by omega) (by omega) c5
        refine lv_bipush (v := -4) hx hb dX9_firstHandShowing_25 (by decide) ?_
        exact rd_iret hx hb hr hlk dX9_firstHandShowing_27 (by rw [hL, fsx_end hkn])
      · have hkn : k < 25 := lt_of_nle (n := 25) (by omega) (by omega) c5
        refine lv_aload_n hx hb dX9_firstHandShowing_8 rfl (lv_at hl 0 rfl) ?_
        refine lv_lload_n hx hb dX9_firstHandShowing_9 rfl (lv_at hl 1 rfl) ?_
        refine lv_iload_n hx hb dX9_firstHandShowing_10 rfl (lv_at hl 2 rfl) ?_
        refine rd_callV (As := [.long v, .int (nI k)]) (rest := []) hx hb hml hown hts hE hl.1 (c_X9_showsJustSeen l G w0 t0 r0 o0 s0 z0 b0 p0 u0 sc sv g0 nr nc a0 a1 a2 a3 a4 C B F K n y h0 h1 h2 h3 Yr Dn Rt q v (nI k) (by first | assumption | omega) (by first | assumption | omega)) (cw_X9_314 hts) ⟨(Nat.le_of_ble_eq_true rfl), (Nat.le_of_ble_eq_true rfl)⟩ ⟨Nat.zero_le _, Nat.zero_le _⟩ rfl (sub_P hP [0, 1, 2, 3, 4, 5, 6, 7, 8, 9, 10, 11] rfl) rfl rfl rfl rfl (Nat.le_of_ble_eq_true rfl) dX9_firstHandShowing_11 ?_
        refine lv_if_eq (tgt := 19) hx hb dX9_firstHandShowing_14 (by decide) (fun c14 => ?_) (fun c14 => ?_)
        · have c14 := zb_0.mp c14
          refine lv_iinc (v := nI (k + 1)) (lv' := [(3, .int (nI (k + 1))), (0, .ref w0), (1, .long v)]) hx hb dX9_firstHandShowing_19 hl (k := 2) rfl (nI_1 k) (by decide) rfl (fun ls hl => ?_)
          refine lv_goto (tgt := 2) hx hb dX9_firstHandShowing_22 (by decide) ?_
          exact ih_2 (k + 1) (by first | assumption | omega | rfl) (hL.trans (fsx_step hkn c14)) (by omega) ls (lv_sub hl [1, 2, 0] rfl)
        · have c14 := zb_n0.mp c14
          refine lv_iload_n hx hb dX9_firstHandShowing_17 rfl (lv_at hl 2 rfl) ?_
          exact rd_iret hx hb hr hlk dX9_firstHandShowing_18 (by rw [hL, fsx_hit hkn c14])
  refine lv_iconst (v := 0) hx hb dX9_firstHandShowing_0 (by decide) ?_
  refine lv_istore_n (lv' := [(3, .int 0), (0, .ref w0), (1, .long v)]) hx hb dX9_firstHandShowing_1 rfl hl (by decide) rfl (fun ls hl => ?_)
  exact J_2 (25 - 0 + 1) 0 (by first | assumption | omega | rfl) rfl (Nat.lt_succ_self _) ls (lv_sub hl [1, 2, 0] rfl)

set_option maxHeartbeats 4000000 in
set_option maxRecDepth 100000 in
theorem c_X9_found (l : Launch) (G : Gv) (w0 : Nat) (t0 : Nat) (r0 : Nat) (o0 : Nat) (s0 : Nat) (z0 : Nat) (b0 : Nat) (p0 : Nat) (u0 : Nat) (sc : Int64) (sv : Nat) (g0 : Nat) (nr : Nat) (nc : Nat) (a0 : Nat) (a1 : Nat) (a2 : Nat) (a3 : Nat) (a4 : Nat) (C : Nat → Int32) (B : Nat → Int32) (F : Nat → Int32) (K : Nat → Int32) (n : Nat) (h0 : Nat) (h1 : Nat) (h2 : Nat) (h3 : Nat) (Yr : Nat → Int32) (Dn : Nat → Int32) (Rt : Nat → Int32) (q : Nat) (yv : Nat) (w : Int32) (hg1 : 2 ≤ nr ∧ nr ≤ 8) (hg2 : 2 ≤ nc ∧ nc ≤ 8) (hn : n ≤ 10) (hq : q ≤ 5) (hyv : yv ≤ 98) : Rd l yX9_found cX9_found 8 (some .int) (rmz 6 145) G [.ref w0, .int w] [(w0, .inr (9, [.ref t0, .ref r0, .ref o0, .ref s0, .ref z0, .ref b0, .ref p0, .ref u0, .long sc, .int (nI sv)])), (o0, .inr (1, [.ref g0, .ref a0, .ref h0])), (g0, .inr (2, [.int (nI nr), .int (nI nc)])), (a0, .inr (4, [.ref a1, .ref a2, .ref a3, .ref a4, .int (nI n), .int (nI yv)])), (a1, .inl (kI G, 10, .inl C)), (a2, .inl (kI G, 10, .inl B)), (a3, .inl (kI G, 10, .inl F)), (a4, .inl (kI G, 10, .inl K)), (h0, .inr (0, [.ref h1, .ref h2, .ref h3, .int (nI q)])), (h1, .inl (kI G, 5, .inl Yr)), (h2, .inl (kI G, 5, .inl Dn)), (h3, .inl (kI G, 5, .inl Rt))] (.int (if zo w then (if w = 0 then (fdA nr nc C F K n sc (yv + 1)).1 else (fdA nr nc C F K n sc (yv + 1)).2) else -1)) := by
  refine Rd.ofW (by decide) (Nat.le_of_ble_eq_true rfl) ?_
  intro p e s m below meth c ls hx hb hml hr hown hts hlk hP hE hl
  have hl : lv_has ls 8 [(0, .ref w0), (1, .int w)] := hl
  have J_28 : ∀ (n_ : Nat) (k : Nat) (hi : Int32) (fi : Int32) (dr : Int64) (ha : Int32) (hz : zo w = true) (hk : k ≤ yv + 1) (hh : ha = hsA nr nc sc dr 25) (hF : (hi, fi) = fdA nr nc C F K n sc k) (hm_28 : yv + 1 - k < n_), ∀ ls : Array Slot, lv_has ls 8 [(0, .ref w0), (1, .int w), (2, .int hi), (3, .int fi), (4, .long dr), (6, .int ha), (7, .int (nI k))] → WR p l e (rmz 6 145) s m [.ref w0, .int w] below meth c (.int (if zo w then (if w = 0 then (fdA nr nc C F K n sc (yv + 1)).1 else (fdA nr nc C F K n sc (yv + 1)).2) else -1)) (F0 m 28 ls []) := by
    intro n_
    induction n_ with
    | zero =>
      intro k hi fi dr ha hz hk hh hF hm_28
      exact absurd hm_28 (Nat.not_lt_zero _)
    | succ n_ ih_28 =>
      intro k hi fi dr ha hz hk hh hF hm_28 ls hl
      have J_77 : ∀ (dr2 : Int64) (ha2 : Int32) (hkn : k ≤ yv) (h77 : dr2 = drC nr nc C F K (nI k) n) (e77 : ha2 = hsA nr nc sc (drC nr nc C F K (nI k) n) 25), ∀ ls : Array Slot, lv_has ls 8 [(0, .ref w0), (1, .int w), (2, .int hi), (3, .int fi), (4, .long dr2), (6, .int ha2), (7, .int (nI k))] → WR p l e (rmz 6 145) s m [.ref w0, .int w] below meth c (.int (if zo w then (if w = 0 then (fdA nr nc C F K n sc (yv + 1)).1 else (fdA nr nc C F K n sc (yv + 1)).2) else -1)) (F0 m 77 ls []) := by
        intro dr2 ha2 hkn h77 e77 ls hl
        have hh : ha2 = hsA nr nc sc dr2 25 := by rw [e77, h77]
        refine lv_iload_n hx hb dX9_found_77 rfl (lv_at hl 2 rfl) ?_
        refine lv_if_ne (tgt := 99) hx hb dX9_found_78 (by decide) (fun c78 => ?_) (fun c78 => ?_)
        · refine lv_iload_n hx hb dX9_found_99 rfl (lv_at hl 2 rfl) ?_
          refine lv_iload hx hb dX9_found_100 (lv_at hl 5 rfl) ?_
          refine lv_iadd hx hb dX9_found_102 ?_
          refine lv_istore_n (lv' := [(2, .int (hi + ha2)), (0, .ref w0), (1, .int w), (3, .int fi), (4, .long dr2), (6, .int ha2), (7, .int (nI k))]) hx hb dX9_found_103 rfl hl (by decide) rfl (fun ls hl => ?_)
          refine lv_iinc (v := nI (k + 1)) (lv' := [(7, .int (nI (k + 1))), (2, .int (hi + ha2)), (0, .ref w0), (1, .int w), (3, .int fi), (4, .long dr2), (6, .int ha2)]) hx hb dX9_found_104 hl (k := 6) rfl (nI_1 k) (by decide) rfl (fun ls hl => ?_)
          refine lv_goto (tgt := 28) hx hb dX9_found_107 (by decide) ?_
          have hF0 := hF
          rw [fdA] at hF0
          exact ih_28 (k + 1) (hi + ha2) fi dr2 ha2 (by first | assumption | omega | rfl) (by first | assumption | omega | rfl) (by first | exact hh | (rw [← h77]; exact hh) | rfl | assumption) (by rw [fdA, it_s]; simp only [← hF0, ← e77]; simp [c78]) (by omega) ls (lv_sub hl [2, 3, 1, 4, 5, 6, 0] rfl)
        · refine lv_iload hx hb dX9_found_81 (lv_at hl 5 rfl) ?_
          refine lv_if_le (tgt := 99) hx hb dX9_found_83 (by decide) (fun c83 => ?_) (fun c83 => ?_)
          · refine lv_iload_n hx hb dX9_found_99 rfl (lv_at hl 2 rfl) ?_
            refine lv_iload hx hb dX9_found_100 (lv_at hl 5 rfl) ?_
            refine lv_iadd hx hb dX9_found_102 ?_
            refine lv_istore_n (lv' := [(2, .int (hi + ha2)), (0, .ref w0), (1, .int w), (3, .int fi), (4, .long dr2), (6, .int ha2), (7, .int (nI k))]) hx hb dX9_found_103 rfl hl (by decide) rfl (fun ls hl => ?_)
            refine lv_iinc (v := nI (k + 1)) (lv' := [(7, .int (nI (k + 1))), (2, .int (hi + ha2)), (0, .ref w0), (1, .int w), (3, .int fi), (4, .long dr2), (6, .int ha2)]) hx hb dX9_found_104 hl (k := 6) rfl (nI_1 k) (by decide) rfl (fun ls hl => ?_)
            refine lv_goto (tgt := 28) hx hb dX9_found_107 (by decide) ?_
            have hF0 := hF
            rw [fdA] at hF0
            exact ih_28 (k + 1) (hi + ha2) fi dr2 ha2 (by first | assumption | omega | rfl) (by first | assumption | omega | rfl) (by first | exact hh | (rw [← h77]; exact hh) | rfl | assumption) (by rw [fdA, it_s]; simp only [← hF0, ← e77]; simp [c78, c83]) (by omega) ls (lv_sub hl [2, 3, 1, 4, 5, 6, 0] rfl)
          · refine lv_bipush (v := 25) hx hb dX9_found_86 (by decide) ?_
            refine lv_iload hx hb dX9_found_88 (lv_at hl 6 rfl) ?_
            refine lv_imul hx hb dX9_found_90 ?_
            refine lv_aload_n hx hb dX9_found_91 rfl (lv_at hl 0 rfl) ?_
            refine lv_lload hx hb dX9_found_92 (lv_at hl 4 rfl) ?_
            refine rd_callV (As := [.long dr2]) (rest := [.int (25 * (nI k))]) hx hb hml hown hts hE hl.1 (c_X9_firstHandShowing l G w0 t0 r0 o0 s0 z0 b0 p0 u0 sc sv g0 nr nc a0 a1 a2 a3 a4 C B F K n (nI yv) h0 h1 h2 h3 Yr Dn Rt q dr2 (by first | assumption | omega) (by first | assumption | omega)) (cw_X9_265 hts) ⟨(Nat.le_of_ble_eq_true rfl), (Nat.le_of_ble_eq_true rfl)⟩ ⟨Nat.zero_le _, Nat.zero_le _⟩ rfl (sub_P hP [0, 1, 2, 3, 4, 5, 6, 7, 8, 9, 10, 11] rfl) rfl rfl rfl rfl (Nat.le_of_ble_eq_true rfl) dX9_found_94 ?_
            rw [h77]
            refine lv_iadd hx hb dX9_found_97 ?_
            refine lv_istore_n (lv' := [(3, .int ((25 * (nI k)) + (fhA nr nc sc (drC nr nc C F K (nI k) n)))), (0, .ref w0), (1, .int w), (2, .int hi), (4, .long dr2), (6, .int ha2), (7, .int (nI k))]) hx hb dX9_found_98 rfl hl (by decide) rfl (fun ls hl => ?_)
            refine lv_iload_n hx hb dX9_found_99 rfl (lv_at hl 3 rfl) ?_
            refine lv_iload hx hb dX9_found_100 (lv_at hl 5 rfl) ?_
            refine lv_iadd hx hb dX9_found_102 ?_
            refine lv_istore_n (lv' := [(2, .int (hi + ha2)), (3, .int ((25 * (nI k)) + (fhA nr nc sc (drC nr nc C F K (nI k) n)))), (0, .ref w0), (1, .int w), (4, .long dr2), (6, .int ha2), (7, .int (nI k))]) hx hb dX9_found_103 rfl hl (by decide) rfl (fun ls hl => ?_)
            refine lv_iinc (v := nI (k + 1)) (lv' := [(7, .int (nI (k + 1))), (2, .int (hi + ha2)), (3, .int ((25 * (nI k)) + (fhA nr nc sc (drC nr nc C F K (nI k) n)))), (0, .ref w0), (1, .int w), (4, .long dr2), (6, .int ha2)]) hx hb dX9_found_104 hl (k := 6) rfl (nI_1 k) (by decide) rfl (fun ls hl => ?_)
            refine lv_goto (tgt := 28) hx hb dX9_found_107 (by decide) ?_
            have hF0 := hF
            rw [fdA] at hF0
            exact ih_28 (k + 1) (hi + ha2) ((25 * (nI k)) + (fhA nr nc sc (drC nr nc C F K (nI k) n))) dr2 ha2 (by first | assumption | omega | rfl) (by first | assumption | omega | rfl) (by first | exact hh | (rw [← h77]; exact hh) | rfl | assumption) (by rw [fdA, it_s]; simp only [← hF0, ← e77]; simp [c78, c83]) (by omega) ls (lv_sub hl [3, 4, 1, 2, 5, 6, 0] rfl)
      refine lv_iload hx hb dX9_found_28 (lv_at hl 6 rfl) ?_
      refine lv_aload_n hx hb dX9_found_30 rfl (lv_at hl 0 rfl) ?_
      refine va_get hx hb hts inlX9 hown hE.1 hP 0 rfl rfl 2 (by decide) (fl_X9_26 hts) (fun _ h9 => h9) rfl dX9_found_31 ?_
      refine va_getN hx hb hts inlX1 hown hE.1 hP 1 rfl rfl 1 (by decide) (nf_X9_100 hE.2.1) (fun _ h9 => h9) rfl dX9_found_34 ?_
      refine va_getN hx hb hts inlX4 hown hE.1 hP 3 rfl rfl 5 (by decide) (nf_X9_120 hE.2.1) (fun _ h9 => h9) rfl dX9_found_37 ?_
      refine lv_icmp_gt (tgt := 110) hx hb dX9_found_40 (by decide) (fun c40 => ?_) (fun c40 => ?_)
      · have hkn : k = yv + 1 := by have := gt_of_nI (by omega) (by omega) c40; omega
        refine lv_iload_n hx hb dX9_found_110 rfl (lv_at hl 1 rfl) ?_
        refine lv_if_ne (tgt := 118) hx hb dX9_found_111 (by decide) (fun c111 => ?_) (fun c111 => ?_)
        · refine lv_iload_n hx hb dX9_found_118 rfl (lv_at hl 3 rfl) ?_
          exact rd_iret hx hb hr hlk dX9_found_119 (by rw [if_pos hz, ← hkn, ← hF]; simp [c40, c111])
        · refine lv_iload_n hx hb dX9_found_114 rfl (lv_at hl 2 rfl) ?_
          refine lv_goto (tgt := 119) hx hb dX9_found_115 (by decide) ?_
          exact rd_iret hx hb hr hlk dX9_found_119 (by rw [if_pos hz, ← hkn, ← hF]; simp [c40, c111])
      · have hkn : k ≤ yv := ngt_of_nI (by omega) (by omega) c40
        refine lv_lload hx hb dX9_found_43 (lv_at hl 4 rfl) ?_
        refine lv_aload_n hx hb dX9_found_45 rfl (lv_at hl 0 rfl) ?_
        refine va_get hx hb hts inlX9 hown hE.1 hP 0 rfl rfl 2 (by decide) (fl_X9_26 hts) (fun _ h9 => h9) rfl dX9_found_46 ?_
        refine lv_iload hx hb dX9_found_49 (lv_at hl 6 rfl) ?_
        refine rd_callV (As := [.int (nI k)]) (rest := [.long dr]) hx hb hml hown hts hE hl.1 (c_X1_drawnCells l G o0 g0 nr nc a0 a1 a2 a3 a4 C B F K n (nI yv) h0 h1 h2 h3 Yr Dn Rt q (nI k) (by first | assumption | omega) (by first | assumption | omega) (by first | assumption | omega) (by first | assumption | omega)) (cw_X9_210 hts) ⟨(Nat.le_of_ble_eq_true rfl), (Nat.le_of_ble_eq_true rfl)⟩ ⟨Nat.zero_le _, Nat.zero_le _⟩ rfl (sub_P hP [1, 2, 3, 4, 5, 6, 7, 8, 9, 10, 11] rfl) rfl rfl rfl rfl (Nat.le_of_ble_eq_true rfl) dX9_found_51 ?_
        refine W.lcmp hx hb dX9_found_54 ?_
        refine lv_if_eq (tgt := 77) hx hb dX9_found_55 (by decide) (fun c55 => ?_) (fun c55 => ?_)
        · have c55 := lgc_eq.mp c55
          exact J_77 dr ha (by first | assumption | omega | rfl) (by first | rfl | assumption) (by rw [hh, c55]) ls (lv_sub hl [0, 1, 2, 3, 4, 5, 6] rfl)
        · have c55 := lgc_ne.mp c55
          refine lv_aload_n hx hb dX9_found_58 rfl (lv_at hl 0 rfl) ?_
          refine va_get hx hb hts inlX9 hown hE.1 hP 0 rfl rfl 2 (by decide) (fl_X9_26 hts) (fun _ h9 => h9) rfl dX9_found_59 ?_
          refine lv_iload hx hb dX9_found_62 (lv_at hl 6 rfl) ?_
          refine rd_callV (As := [.int (nI k)]) (rest := []) hx hb hml hown hts hE hl.1 (c_X1_drawnCells l G o0 g0 nr nc a0 a1 a2 a3 a4 C B F K n (nI yv) h0 h1 h2 h3 Yr Dn Rt q (nI k) (by first | assumption | omega) (by first | assumption | omega) (by first | assumption | omega) (by first | assumption | omega)) (cw_X9_210 hts) ⟨(Nat.le_of_ble_eq_true rfl), (Nat.le_of_ble_eq_true rfl)⟩ ⟨Nat.zero_le _, Nat.zero_le _⟩ rfl (sub_P hP [1, 2, 3, 4, 5, 6, 7, 8, 9, 10, 11] rfl) rfl rfl rfl rfl (Nat.le_of_ble_eq_true rfl) dX9_found_64 ?_
          refine lv_lstore (lv' := [(4, .long (drC nr nc C F K (nI k) n)), (0, .ref w0), (1, .int w), (2, .int hi), (3, .int fi), (6, .int ha), (7, .int (nI k))]) hx hb dX9_found_67 hl (by decide) rfl (fun ls hl => ?_)
          refine lv_aload_n hx hb dX9_found_69 rfl (lv_at hl 1 rfl) ?_
          refine lv_lload hx hb dX9_found_70 (lv_at hl 0 rfl) ?_
          refine rd_callV (As := [.long (drC nr nc C F K (nI k) n)]) (rest := []) hx hb hml hown hts hE hl.1 (c_X9_handsShowing l G w0 t0 r0 o0 s0 z0 b0 p0 u0 sc sv g0 nr nc a0 a1 a2 a3 a4 C B F K n (nI yv) h0 h1 h2 h3 Yr Dn Rt q (drC nr nc C F K (nI k) n) (by first | assumption | omega) (by first | assumption | omega)) (cw_X9_262 hts) ⟨(Nat.le_of_ble_eq_true rfl), (Nat.le_of_ble_eq_true rfl)⟩ ⟨Nat.zero_le _, Nat.zero_le _⟩ rfl (sub_P hP [0, 1, 2, 3, 4, 5, 6, 7, 8, 9, 10, 11] rfl) rfl rfl rfl rfl (Nat.le_of_ble_eq_true rfl) dX9_found_72 ?_
          refine lv_istore (lv' := [(6, .int (hsA nr nc sc (drC nr nc C F K (nI k) n) 25)), (4, .long (drC nr nc C F K (nI k) n)), (0, .ref w0), (1, .int w), (2, .int hi), (3, .int fi), (7, .int (nI k))]) hx hb dX9_found_75 hl (by decide) rfl (fun ls hl => ?_)
          exact J_77 (drC nr nc C F K (nI k) n) (hsA nr nc sc (drC nr nc C F K (nI k) n) 25) (by first | assumption | omega | rfl) (by first | rfl | assumption) rfl ls (lv_sub hl [2, 3, 4, 5, 1, 0, 6] rfl)
  refine lv_iload_n hx hb dX9_found_0 rfl (lv_at hl 1 rfl) ?_
  refine rd_callS (As := [.int w]) (rest := []) hx hb hml hown hts hE hl.1 (c_X9_isZeroOrOne l G w ) (cs_X9_236 hts) ⟨(Nat.le_of_ble_eq_true rfl), (Nat.le_of_ble_eq_true rfl)⟩ ⟨Nat.zero_le _, Nat.zero_le _⟩ rfl (sub_P hP [] rfl) rfl (Nat.le_of_ble_eq_true rfl) dX9_found_1 ?_
  refine lv_if_ne (tgt := 9) hx hb dX9_found_4 (by decide) (fun c4 => ?_) (fun c4 => ?_)
  · have c4 := zb_n0.mp c4
    refine lv_iconst (v := 0) hx hb dX9_found_9 (by decide) ?_
    refine lv_istore_n (lv' := [(2, .int 0), (0, .ref w0), (1, .int w)]) hx hb dX9_found_10 rfl hl (by decide) rfl (fun ls hl => ?_)
    refine lv_bipush (v := -4) hx hb dX9_found_11 (by decide) ?_
    refine lv_istore_n (lv' := [(3, .int (-4)), (2, .int 0), (0, .ref w0), (1, .int w)]) hx hb dX9_found_13 rfl hl (by decide) rfl (fun ls hl => ?_)
    refine lv_lconst (v := 0) hx hb dX9_found_14 (by decide) ?_
    refine lv_lstore (lv' := [(4, .long 0), (3, .int (-4)), (2, .int 0), (0, .ref w0), (1, .int w)]) hx hb dX9_found_15 hl (by decide) rfl (fun ls hl => ?_)
    refine lv_aload_n hx hb dX9_found_17 rfl (lv_at hl 3 rfl) ?_
    refine lv_lload hx hb dX9_found_18 (lv_at hl 0 rfl) ?_
    refine rd_callV (As := [.long 0]) (rest := []) hx hb hml hown hts hE hl.1 (c_X9_handsShowing l G w0 t0 r0 o0 s0 z0 b0 p0 u0 sc sv g0 nr nc a0 a1 a2 a3 a4 C B F K n (nI yv) h0 h1 h2 h3 Yr Dn Rt q 0 (by first | assumption | omega) (by first | assumption | omega)) (cw_X9_262 hts) ⟨(Nat.le_of_ble_eq_true rfl), (Nat.le_of_ble_eq_true rfl)⟩ ⟨Nat.zero_le _, Nat.zero_le _⟩ rfl (sub_P hP [0, 1, 2, 3, 4, 5, 6, 7, 8, 9, 10, 11] rfl) rfl rfl rfl rfl (Nat.le_of_ble_eq_true rfl) dX9_found_20 ?_
    refine lv_istore (lv' := [(6, .int (hsA nr nc sc 0 25)), (4, .long 0), (3, .int (-4)), (2, .int 0), (0, .ref w0), (1, .int w)]) hx hb dX9_found_23 hl (by decide) rfl (fun ls hl => ?_)
    refine lv_iconst (v := 0) hx hb dX9_found_25 (by decide) ?_
    refine lv_istore (lv' := [(7, .int 0), (6, .int (hsA nr nc sc 0 25)), (4, .long 0), (3, .int (-4)), (2, .int 0), (0, .ref w0), (1, .int w)]) hx hb dX9_found_26 hl (by decide) rfl (fun ls hl => ?_)
    exact J_28 (yv + 1 - 0 + 1) 0 0 (-4) 0 (hsA nr nc sc 0 25) c4 (by first | assumption | omega | rfl) rfl rfl (Nat.lt_succ_self _) ls (lv_sub hl [5, 6, 4, 3, 2, 1, 0] rfl)
  · have c4 := zb_0.mp c4
    refine lv_iconst (v := -1) hx hb dX9_found_7 (by decide) ?_
    exact rd_iret hx hb hr hlk dX9_found_8 (by simp [c4])

set_option maxHeartbeats 4000000 in
set_option maxRecDepth 100000 in
theorem c_X9_count (l : Launch) (G : Gv) (w0 : Nat) (t0 : Nat) (r0 : Nat) (o0 : Nat) (s0 : Nat) (z0 : Nat) (b0 : Nat) (p0 : Nat) (u0 : Nat) (sc : Int64) (sv : Nat) (g0 : Nat) (nr : Nat) (nc : Nat) (a0 : Nat) (a1 : Nat) (a2 : Nat) (a3 : Nat) (a4 : Nat) (C : Nat → Int32) (B : Nat → Int32) (F : Nat → Int32) (K : Nat → Int32) (n : Nat) (y : Int32) (h0 : Nat) (h1 : Nat) (h2 : Nat) (h3 : Nat) (Yr : Nat → Int32) (Dn : Nat → Int32) (Rt : Nat → Int32) (q : Nat) (s1 : Nat) (sn : Nat) (z1 : Nat) (zn : Nat) (t1 : Nat) (Sg : Nat → Int32) (tn : Nat) (w : Int32) (hg1 : 2 ≤ nr ∧ nr ≤ 8) (hg2 : 2 ≤ nc ∧ nc ≤ 8) (hn : n ≤ 10) (hq : q ≤ 5) : Rd l yX9_count cX9_count 2 (some .int) (rmz 4 87) G [.ref w0, .int w] [(w0, .inr (9, [.ref t0, .ref r0, .ref o0, .ref s0, .ref z0, .ref b0, .ref p0, .ref u0, .long sc, .int (nI sv)])), (o0, .inr (1, [.ref g0, .ref a0, .ref h0])), (g0, .inr (2, [.int (nI nr), .int (nI nc)])), (a0, .inr (4, [.ref a1, .ref a2, .ref a3, .ref a4, .int (nI n), .int y])), (a1, .inl (kI G, 10, .inl C)), (a2, .inl (kI G, 10, .inl B)), (a3, .inl (kI G, 10, .inl F)), (a4, .inl (kI G, 10, .inl K)), (h0, .inr (0, [.ref h1, .ref h2, .ref h3, .int (nI q)])), (h1, .inl (kI G, 5, .inl Yr)), (h2, .inl (kI G, 5, .inl Dn)), (h3, .inl (kI G, 5, .inl Rt)), (s0, .inr (7, [.ref s1, .int (nI sn)])), (z0, .inr (7, [.ref z1, .int (nI zn)])), (t0, .inr (3, [.ref t1, .int (nI tn)])), (t1, .inl (kC G, 200, .inl Sg))] (.int (ctR nr nc C B F n y q sv sn zn tn w)) := by
  refine Rd.ofW (by decide) (Nat.le_of_ble_eq_true rfl) ?_
  intro p e s m below meth c ls hx hb hml hr hown hts hlk hP hE hl
  have hl : lv_has ls 2 [(0, .ref w0), (1, .int w)] := hl
  refine lv_iload_n hx hb dX9_count_0 rfl (lv_at hl 1 rfl) ?_
  by_cases e1_0 : w = 0
  · refine lv_tableIn (off := 55) (tgt := 56) hx hb dX9_count_1 (by rw [e1_0]; decide) (by rw [e1_0]; decide) (by rw [e1_0]; rfl) (by decide) ?_
    refine lv_aload_n hx hb dX9_count_56 rfl (lv_at hl 0 rfl) ?_
    refine va_get hx hb hts inlX9 hown hE.1 hP 0 rfl rfl 2 (by decide) (fl_X9_26 hts) (fun _ h9 => h9) rfl dX9_count_57 ?_
    refine va_getN hx hb hts inlX1 hown hE.1 hP 1 rfl rfl 0 (by decide) (nf_X9_91 hE.2.1) (fun _ h9 => h9) rfl dX9_count_60 ?_
    refine rd_callV (As := []) (rest := []) hx hb hml hown hts hE hl.1 (c_X2_cells l G g0 nr nc ) (cw_X9_95 hts) ⟨(Nat.le_of_ble_eq_true rfl), (Nat.le_of_ble_eq_true rfl)⟩ ⟨Nat.zero_le _, Nat.zero_le _⟩ rfl (sub_P hP [2] rfl) rfl rfl rfl rfl (Nat.le_of_ble_eq_true rfl) dX9_count_63 ?_
    exact rd_iret hx hb hr hlk dX9_count_66 (by first | rfl | (simp [zb, e1_0, ctR]; done))
  by_cases e1_1 : w = 1
  · refine lv_tableIn (off := 66) (tgt := 67) hx hb dX9_count_1 (by rw [e1_1]; decide) (by rw [e1_1]; decide) (by rw [e1_1]; rfl) (by decide) ?_
    refine lv_aload_n hx hb dX9_count_67 rfl (lv_at hl 0 rfl) ?_
    refine va_get hx hb hts inlX9 hown hE.1 hP 0 rfl rfl 2 (by decide) (fl_X9_26 hts) (fun _ h9 => h9) rfl dX9_count_68 ?_
    refine va_getN hx hb hts inlX1 hown hE.1 hP 1 rfl rfl 1 (by decide) (nf_X9_100 hE.2.1) (fun _ h9 => h9) rfl dX9_count_71 ?_
    refine rd_callV (As := []) (rest := []) hx hb hml hown hts hE hl.1 (c_X4_size l G a0 a1 a2 a3 a4 C B F K n y ) (cw_X9_271 hts) ⟨(Nat.le_of_ble_eq_true rfl), (Nat.le_of_ble_eq_true rfl)⟩ ⟨Nat.zero_le _, Nat.zero_le _⟩ rfl (sub_P hP [3, 4, 5, 6, 7] rfl) rfl rfl rfl rfl (Nat.le_of_ble_eq_true rfl) dX9_count_74 ?_
    exact rd_iret hx hb hr hlk dX9_count_77 (by first | rfl | (simp [zb, e1_0, e1_1, ctR]; done))
  by_cases e1_2 : w = 2
  · refine lv_tableIn (off := 77) (tgt := 78) hx hb dX9_count_1 (by rw [e1_2]; decide) (by rw [e1_2]; decide) (by rw [e1_2]; rfl) (by decide) ?_
    refine lv_aload_n hx hb dX9_count_78 rfl (lv_at hl 0 rfl) ?_
    refine va_get hx hb hts inlX9 hown hE.1 hP 0 rfl rfl 2 (by decide) (fl_X9_26 hts) (fun _ h9 => h9) rfl dX9_count_79 ?_
    refine va_getN hx hb hts inlX1 hown hE.1 hP 1 rfl rfl 2 (by decide) (nf_X9_147 hE.2.1) (fun _ h9 => h9) rfl dX9_count_82 ?_
    refine rd_callV (As := []) (rest := []) hx hb hml hown hts hE hl.1 (c_X0_size l G h0 h1 h2 h3 Yr Dn Rt q ) (cw_X9_245 hts) ⟨(Nat.le_of_ble_eq_true rfl), (Nat.le_of_ble_eq_true rfl)⟩ ⟨Nat.zero_le _, Nat.zero_le _⟩ rfl (sub_P hP [8, 9, 10, 11] rfl) rfl rfl rfl rfl (Nat.le_of_ble_eq_true rfl) dX9_count_85 ?_
    exact rd_iret hx hb hr hlk dX9_count_88 (by first | rfl | (simp [zb, e1_0, e1_1, e1_2, ctR]; done))
  by_cases e1_3 : w = 3
  · refine lv_tableIn (off := 88) (tgt := 89) hx hb dX9_count_1 (by rw [e1_3]; decide) (by rw [e1_3]; decide) (by rw [e1_3]; rfl) (by decide) ?_
    refine lv_aload_n hx hb dX9_count_89 rfl (lv_at hl 0 rfl) ?_
    refine va_get hx hb hts inlX9 hown hE.1 hP 0 rfl rfl 2 (by decide) (fl_X9_26 hts) (fun _ h9 => h9) rfl dX9_count_90 ?_
    refine va_getN hx hb hts inlX1 hown hE.1 hP 1 rfl rfl 1 (by decide) (nf_X9_100 hE.2.1) (fun _ h9 => h9) rfl dX9_count_93 ?_
    refine va_getN hx hb hts inlX4 hown hE.1 hP 3 rfl rfl 5 (by decide) (nf_X9_120 hE.2.1) (fun _ h9 => h9) rfl dX9_count_96 ?_
    exact rd_iret hx hb hr hlk dX9_count_99 (by first | rfl | (simp [zb, e1_0, e1_1, e1_2, e1_3, ctR]; done))
  by_cases e1_4 : w = 4
  · refine lv_tableIn (off := 99) (tgt := 100) hx hb dX9_count_1 (by rw [e1_4]; decide) (by rw [e1_4]; decide) (by rw [e1_4]; rfl) (by decide) ?_
    refine lv_aload_n hx hb dX9_count_100 rfl (lv_at hl 0 rfl) ?_
    refine va_get hx hb hts inlX9 hown hE.1 hP 0 rfl rfl 2 (by decide) (fl_X9_26 hts) (fun _ h9 => h9) rfl dX9_count_101 ?_
    refine va_getN hx hb hts inlX1 hown hE.1 hP 1 rfl rfl 1 (by decide) (nf_X9_100 hE.2.1) (fun _ h9 => h9) rfl dX9_count_104 ?_
    refine rd_callV (As := []) (rest := []) hx hb hml hown hts hE hl.1 (c_X4_countStanding l G a0 a1 a2 a3 a4 C B F K n y (by first | assumption | omega)) (cw_X9_293 hts) ⟨(Nat.le_of_ble_eq_true rfl), (Nat.le_of_ble_eq_true rfl)⟩ ⟨Nat.zero_le _, Nat.zero_le _⟩ rfl (sub_P hP [3, 4, 5, 6, 7] rfl) rfl rfl rfl rfl (Nat.le_of_ble_eq_true rfl) dX9_count_107 ?_
    exact rd_iret hx hb hr hlk dX9_count_110 (by first | rfl | (simp [zb, e1_0, e1_1, e1_2, e1_3, e1_4, ctR]; done))
  by_cases e1_5 : w = 5
  · refine lv_tableIn (off := 110) (tgt := 111) hx hb dX9_count_1 (by rw [e1_5]; decide) (by rw [e1_5]; decide) (by rw [e1_5]; rfl) (by decide) ?_
    refine lv_aload_n hx hb dX9_count_111 rfl (lv_at hl 0 rfl) ?_
    refine va_get hx hb hts inlX9 hown hE.1 hP 0 rfl rfl 2 (by decide) (fl_X9_26 hts) (fun _ h9 => h9) rfl dX9_count_112 ?_
    refine va_getN hx hb hts inlX1 hown hE.1 hP 1 rfl rfl 1 (by decide) (nf_X9_100 hE.2.1) (fun _ h9 => h9) rfl dX9_count_115 ?_
    refine rd_callV (As := []) (rest := []) hx hb hml hown hts hE hl.1 (c_X4_countLost l G a0 a1 a2 a3 a4 C B F K n y (by first | assumption | omega)) (cw_X9_296 hts) ⟨(Nat.le_of_ble_eq_true rfl), (Nat.le_of_ble_eq_true rfl)⟩ ⟨Nat.zero_le _, Nat.zero_le _⟩ rfl (sub_P hP [3, 4, 5, 6, 7] rfl) rfl rfl rfl rfl (Nat.le_of_ble_eq_true rfl) dX9_count_118 ?_
    exact rd_iret hx hb hr hlk dX9_count_121 (by first | rfl | (simp [zb, e1_0, e1_1, e1_2, e1_3, e1_4, e1_5, ctR]; done))
  by_cases e1_6 : w = 6
  · refine lv_tableIn (off := 121) (tgt := 122) hx hb dX9_count_1 (by rw [e1_6]; decide) (by rw [e1_6]; decide) (by rw [e1_6]; rfl) (by decide) ?_
    refine lv_aload_n hx hb dX9_count_122 rfl (lv_at hl 0 rfl) ?_
    refine va_get hx hb hts inlX9 hown hE.1 hP 0 rfl rfl 9 (by decide) (fl_X9_249 hts) (fun _ h9 => h9) rfl dX9_count_123 ?_
    exact rd_iret hx hb hr hlk dX9_count_126 (by first | rfl | (simp [zb, e1_0, e1_1, e1_2, e1_3, e1_4, e1_5, e1_6, ctR]; done))
  by_cases e1_7 : w = 7
  · refine lv_tableIn (off := 126) (tgt := 127) hx hb dX9_count_1 (by rw [e1_7]; decide) (by rw [e1_7]; decide) (by rw [e1_7]; rfl) (by decide) ?_
    refine lv_aload_n hx hb dX9_count_127 rfl (lv_at hl 0 rfl) ?_
    refine va_get hx hb hts inlX9 hown hE.1 hP 0 rfl rfl 3 (by decide) (fl_X9_35 hts) (fun _ h9 => h9) rfl dX9_count_128 ?_
    refine rd_callV (As := []) (rest := []) hx hb hml hown hts hE hl.1 (c_X7_size_o l G s0 s1 sn ) (cw_X9_193 hts) ⟨(Nat.le_of_ble_eq_true rfl), (Nat.le_of_ble_eq_true rfl)⟩ ⟨Nat.zero_le _, Nat.zero_le _⟩ rfl (sub_P hP [12] rfl) rfl rfl rfl rfl (Nat.le_of_ble_eq_true rfl) dX9_count_131 ?_
    exact rd_iret hx hb hr hlk dX9_count_134 (by first | rfl | (simp [zb, e1_0, e1_1, e1_2, e1_3, e1_4, e1_5, e1_6, e1_7, ctR]; done))
  by_cases e1_8 : w = 8
  · refine lv_tableIn (off := 134) (tgt := 135) hx hb dX9_count_1 (by rw [e1_8]; decide) (by rw [e1_8]; decide) (by rw [e1_8]; rfl) (by decide) ?_
    refine lv_aload_n hx hb dX9_count_135 rfl (lv_at hl 0 rfl) ?_
    refine va_get hx hb hts inlX9 hown hE.1 hP 0 rfl rfl 4 (by decide) (fl_X9_39 hts) (fun _ h9 => h9) rfl dX9_count_136 ?_
    refine rd_callV (As := []) (rest := []) hx hb hml hown hts hE hl.1 (c_X7_size_o l G z0 z1 zn ) (cw_X9_193 hts) ⟨(Nat.le_of_ble_eq_true rfl), (Nat.le_of_ble_eq_true rfl)⟩ ⟨Nat.zero_le _, Nat.zero_le _⟩ rfl (sub_P hP [13] rfl) rfl rfl rfl rfl (Nat.le_of_ble_eq_true rfl) dX9_count_139 ?_
    exact rd_iret hx hb hr hlk dX9_count_142 (by first | rfl | (simp [zb, e1_0, e1_1, e1_2, e1_3, e1_4, e1_5, e1_6, e1_7, e1_8, ctR]; done))
  by_cases e1_9 : w = 9
  · refine lv_tableIn (off := 142) (tgt := 143) hx hb dX9_count_1 (by rw [e1_9]; decide) (by rw [e1_9]; decide) (by rw [e1_9]; rfl) (by decide) ?_
    refine lv_aload_n hx hb dX9_count_143 rfl (lv_at hl 0 rfl) ?_
    refine va_get hx hb hts inlX9 hown hE.1 hP 0 rfl rfl 0 (by decide) (fl_X9_12 hts) (fun _ h9 => h9) rfl dX9_count_144 ?_
    refine rd_callV (As := []) (rest := []) hx hb hml hown hts hE hl.1 (c_X3_length l G t0 t1 Sg tn ) (cw_X9_86 hts) ⟨(Nat.le_of_ble_eq_true rfl), (Nat.le_of_ble_eq_true rfl)⟩ ⟨Nat.zero_le _, Nat.zero_le _⟩ rfl (sub_P hP [14, 15] rfl) rfl rfl rfl rfl (Nat.le_of_ble_eq_true rfl) dX9_count_147 ?_
    exact rd_iret hx hb hr hlk dX9_count_150 (by first | rfl | (simp [zb, e1_0, e1_1, e1_2, e1_3, e1_4, e1_5, e1_6, e1_7, e1_8, e1_9, ctR]; done))
  refine lv_tableOut (tgt := 151) hx hb dX9_count_1 (sw_out10 e1_0 e1_1 e1_2 e1_3 e1_4 e1_5 e1_6 e1_7 e1_8 e1_9) (by decide) ?_
  refine lv_iconst (v := -1) hx hb dX9_count_151 (by decide) ?_
  exact rd_iret hx hb hr hlk dX9_count_152 (by first | rfl | (simp [zb, e1_0, e1_1, e1_2, e1_3, e1_4, e1_5, e1_6, e1_7, e1_8, e1_9, ctR]; done))
