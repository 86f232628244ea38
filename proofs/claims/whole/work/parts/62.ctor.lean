/-! constructors -/

set_option maxHeartbeats 4000000 in
set_option maxRecDepth 100000 in
theorem c_X0_init (l : Launch) (G : Gv) (h0 : Nat)  : Ct l yX0_init cX0_init 1 none (rmc 1 3 15 20) G [.ref h0] [(h0, .inr (0, [.null, .null, .null, .int 0]))] (fun v9 w9 => v9 = none ∧ ∃ (h1 : Nat) (h2 : Nat) (h3 : Nat), w9 = [(h0, .inr (0, [.ref h1, .ref h2, .ref h3, .int 0])), (h1, .inl (kI G, 5, .inl (fun _ => 0))), (h2, .inl (kI G, 5, .inl (fun _ => 0))), (h3, .inl (kI G, 5, .inl (fun _ => 0)))]) := by
  refine Ct.ofW (by decide) (Nat.le_of_ble_eq_true rfl) ?_
  intro p e s m below meth c ls A hx hb hml hr hown hts hlk hnm hP hD hA hE hS hl
  obtain ⟨H, eH⟩ : ∃ H : Heap, H = s.heap := ⟨_, rfl⟩
  obtain ⟨locs, eL⟩ : ∃ ll : List Loc, ll = [] := ⟨_, rfl⟩
  rw [← eH] at hP
  have hS : va_S A s.heap H locs := by rw [eH, eL]; exact hS
  show WC p l e _ s m _ below meth c G A _ s.heap [] 0 0 _
  rw [← eH, ← eL]
  clear eH eL
  have hl : lv_has ls 1 [(0, .ref h0)] := hl
  refine lv_aload_n hx hb dX0_init_0 rfl (lv_at hl 0 rfl) ?_
  refine W.objInit hx hb hown (ml_X0_3 hts) (im_objectInit hts) (cd_objectInit hts) rfl (by rw [hml]; exact hl.1) rfl dX0_init_1 (Nat.le_of_ble_eq_true rfl) (Nat.le_of_ble_eq_true rfl) ?_
  show WC p l e _ s m _ below meth c G A _ H locs 0 0 (F0 m 4 ls [])
  refine lv_aload_n hx hb dX0_init_4 rfl (lv_at hl 0 rfl) ?_
  refine lv_iconst (v := 5) hx hb dX0_init_5 (by decide) ?_
  refine ct_newI (N := 5) hx hb (ac_int hts) hE hP hD hS hA (by decide) rfl (Nat.le_of_ble_eq_true rfl) (Nat.le_of_ble_eq_true rfl) (Nat.le_of_ble_eq_true rfl) dX0_init_6 (fun x6 H hP hD hS => ?_)
  have hP : va_P G.1 vwCl [(h0, .inr (0, [.null, .null, .null, .int 0])), (x6, .inl (kI G, 5, .inl (fun _ => 0)))] H := hP
  have hD : va_D A [(h0, .inr (0, [.null, .null, .null, .int 0])), (x6, .inl (kI G, 5, .inl (fun _ => 0)))] := hD
  refine W.widen (k := 1) (n := 5) (Nat.le_of_ble_eq_true rfl) (Nat.le_of_ble_eq_true rfl) ?_
  refine va_putF (v := .ref x6) (ty := .array .int) hx hb hts inlX0 tyX0 tyX0_ok nmX0 hown hE.1 hP hD hS 0 rfl rfl 0 (by decide) (fl_X0_9 hts) (fun _ h9 => h9) rfl hnm rfl (by decide +kernel) rfl rfl (Nat.le_of_ble_eq_true rfl) dX0_init_8 (fun H locs hP hD hS => ?_)
  have hP : va_P G.1 vwCl [(h0, .inr (0, [.ref x6, .null, .null, .int 0])), (x6, .inl (kI G, 5, .inl (fun _ => 0)))] H := hP
  have hD : va_D A [(h0, .inr (0, [.ref x6, .null, .null, .int 0])), (x6, .inl (kI G, 5, .inl (fun _ => 0)))] := hD
  refine lv_aload_n hx hb dX0_init_11 rfl (lv_at hl 0 rfl) ?_
  refine lv_iconst (v := 5) hx hb dX0_init_12 (by decide) ?_
  refine ct_newI (N := 5) hx hb (ac_int hts) hE hP hD hS hA (by decide) rfl (Nat.le_of_ble_eq_true rfl) (Nat.le_of_ble_eq_true rfl) (Nat.le_of_ble_eq_true rfl) dX0_init_13 (fun x13 H hP hD hS => ?_)
  have hP : va_P G.1 vwCl [(h0, .inr (0, [.ref x6, .null, .null, .int 0])), (x6, .inl (kI G, 5, .inl (fun _ => 0))), (x13, .inl (kI G, 5, .inl (fun _ => 0)))] H := hP
  have hD : va_D A [(h0, .inr (0, [.ref x6, .null, .null, .int 0])), (x6, .inl (kI G, 5, .inl (fun _ => 0))), (x13, .inl (kI G, 5, .inl (fun _ => 0)))] := hD
  refine W.widen (k := 2) (n := 10) (Nat.le_of_ble_eq_true rfl) (Nat.le_of_ble_eq_true rfl) ?_
  refine va_putF (v := .ref x13) (ty := .array .int) hx hb hts inlX0 tyX0 tyX0_ok nmX0 hown hE.1 hP hD hS 0 rfl rfl 1 (by decide) (fl_X0_15 hts) (fun _ h9 => h9) rfl hnm rfl (by decide +kernel) rfl rfl (Nat.le_of_ble_eq_true rfl) dX0_init_15 (fun H locs hP hD hS => ?_)
  have hP : va_P G.1 vwCl [(h0, .inr (0, [.ref x6, .ref x13, .null, .int 0])), (x6, .inl (kI G, 5, .inl (fun _ => 0))), (x13, .inl (kI G, 5, .inl (fun _ => 0)))] H := hP
  have hD : va_D A [(h0, .inr (0, [.ref x6, .ref x13, .null, .int 0])), (x6, .inl (kI G, 5, .inl (fun _ => 0))), (x13, .inl (kI G, 5, .inl (fun _ => 0)))] := hD
  refine lv_aload_n hx hb dX0_init_18 rfl (lv_at hl 0 rfl) ?_
  refine lv_iconst (v := 5) hx hb dX0_init_19 (by decide) ?_
  refine ct_newI (N := 5) hx hb (ac_int hts) hE hP hD hS hA (by decide) rfl (Nat.le_of_ble_eq_true rfl) (Nat.le_of_ble_eq_true rfl) (Nat.le_of_ble_eq_true rfl) dX0_init_20 (fun x20 H hP hD hS => ?_)
  have hP : va_P G.1 vwCl [(h0, .inr (0, [.ref x6, .ref x13, .null, .int 0])), (x6, .inl (kI G, 5, .inl (fun _ => 0))), (x13, .inl (kI G, 5, .inl (fun _ => 0))), (x20, .inl (kI G, 5, .inl (fun _ => 0)))] H := hP
  have hD : va_D A [(h0, .inr (0, [.ref x6, .ref x13, .null, .int 0])), (x6, .inl (kI G, 5, .inl (fun _ => 0))), (x13, .inl (kI G, 5, .inl (fun _ => 0))), (x20, .inl (kI G, 5, .inl (fun _ => 0)))] := hD
  refine W.widen (k := 3) (n := 15) (Nat.le_of_ble_eq_true rfl) (Nat.le_of_ble_eq_true rfl) ?_
  refine va_putF (v := .ref x20) (ty := .array .int) hx hb hts inlX0 tyX0 tyX0_ok nmX0 hown hE.1 hP hD hS 0 rfl rfl 2 (by decide) (fl_X0_18 hts) (fun _ h9 => h9) rfl hnm rfl (by decide +kernel) rfl rfl (Nat.le_of_ble_eq_true rfl) dX0_init_22 (fun H locs hP hD hS => ?_)
  have hP : va_P G.1 vwCl [(h0, .inr (0, [.ref x6, .ref x13, .ref x20, .int 0])), (x6, .inl (kI G, 5, .inl (fun _ => 0))), (x13, .inl (kI G, 5, .inl (fun _ => 0))), (x20, .inl (kI G, 5, .inl (fun _ => 0)))] H := hP
  have hD : va_D A [(h0, .inr (0, [.ref x6, .ref x13, .ref x20, .int 0])), (x6, .inl (kI G, 5, .inl (fun _ => 0))), (x13, .inl (kI G, 5, .inl (fun _ => 0))), (x20, .inl (kI G, 5, .inl (fun _ => 0)))] := hD
  refine W.widen (k := 3) (n := 15) (Nat.le_of_ble_eq_true rfl) (Nat.le_of_ble_eq_true rfl) ?_
  exact ct_vret hx hb hr hlk dX0_init_25 hP hD hS (by exact ⟨rfl, _, _, _, rfl⟩)

set_option maxHeartbeats 4000000 in
set_option maxRecDepth 100000 in
theorem c_X2_init (l : Launch) (G : Gv) (g0 : Nat)  : Ct l yX2_init cX2_init 1 none (rmc 1 0 0 20) G [.ref g0] [(g0, .inr (2, [.int 0, .int 0]))] (one none [(g0, .inr (2, [.int 5, .int 5]))]) := by
  refine Ct.ofW (by decide) (Nat.le_of_ble_eq_true rfl) ?_
  intro p e s m below meth c ls A hx hb hml hr hown hts hlk hnm hP hD hA hE hS hl
  obtain ⟨H, eH⟩ : ∃ H : Heap, H = s.heap := ⟨_, rfl⟩
  obtain ⟨locs, eL⟩ : ∃ ll : List Loc, ll = [] := ⟨_, rfl⟩
  rw [← eH] at hP
  have hS : va_S A s.heap H locs := by rw [eH, eL]; exact hS
  show WC p l e _ s m _ below meth c G A _ s.heap [] 0 0 _
  rw [← eH, ← eL]
  clear eH eL
  have hl : lv_has ls 1 [(0, .ref g0)] := hl
  refine lv_aload_n hx hb dX2_init_0 rfl (lv_at hl 0 rfl) ?_
  refine W.objInit hx hb hown (ml_X2_3 hts) (im_objectInit hts) (cd_objectInit hts) rfl (by rw [hml]; exact hl.1) rfl dX2_init_1 (Nat.le_of_ble_eq_true rfl) (Nat.le_of_ble_eq_true rfl) ?_
  show WC p l e _ s m _ below meth c G A _ H locs 0 0 (F0 m 4 ls [])
  refine lv_aload_n hx hb dX2_init_4 rfl (lv_at hl 0 rfl) ?_
  refine lv_iconst (v := 5) hx hb dX2_init_5 (by decide) ?_
  refine va_put (v := .int 5) (ty := .int) hx hb hts inlX2 tyX2 tyX2_ok nmX2 hown hE.1 hP hD hS 0 rfl rfl 0 (by decide) (fl_X2_9 hts) (fun _ h9 => h9) rfl (by decide +kernel) rfl rfl (Nat.le_of_ble_eq_true rfl) dX2_init_6 (fun H locs hP hD hS => ?_)
  have hP : va_P G.1 vwCl [(g0, .inr (2, [.int 5, .int 0]))] H := hP
  have hD : va_D A [(g0, .inr (2, [.int 5, .int 0]))] := hD
  refine lv_aload_n hx hb dX2_init_9 rfl (lv_at hl 0 rfl) ?_
  refine lv_iconst (v := 5) hx hb dX2_init_10 (by decide) ?_
  refine va_put (v := .int 5) (ty := .int) hx hb hts inlX2 tyX2 tyX2_ok nmX2 hown hE.1 hP hD hS 0 rfl rfl 1 (by decide) (fl_X2_15 hts) (fun _ h9 => h9) rfl (by decide +kernel) rfl rfl (Nat.le_of_ble_eq_true rfl) dX2_init_11 (fun H locs hP hD hS => ?_)
  have hP : va_P G.1 vwCl [(g0, .inr (2, [.int 5, .int 5]))] H := hP
  have hD : va_D A [(g0, .inr (2, [.int 5, .int 5]))] := hD
  refine W.widen (k := 0) (n := 0) (Nat.le_of_ble_eq_true rfl) (Nat.le_of_ble_eq_true rfl) ?_
  exact ct_vret hx hb hr hlk dX2_init_14 hP hD hS (by first | exact ⟨rfl, rfl⟩ | (simp [one]; done))

set_option maxHeartbeats 4000000 in
set_option maxRecDepth 100000 in
theorem c_X3_init (l : Launch) (G : Gv) (t0 : Nat)  : Ct l yX3_init cX3_init 1 none (rmc 1 1 200 20) G [.ref t0] [(t0, .inr (3, [.null, .int 0]))] (fun v9 w9 => v9 = none ∧ ∃ (t1 : Nat), w9 = [(t0, .inr (3, [.ref t1, .int 0])), (t1, .inl (kC G, 200, .inl (fun _ => 0)))]) := by
  refine Ct.ofW (by decide) (Nat.le_of_ble_eq_true rfl) ?_
  intro p e s m below meth c ls A hx hb hml hr hown hts hlk hnm hP hD hA hE hS hl
  obtain ⟨H, eH⟩ : ∃ H : Heap, H = s.heap := ⟨_, rfl⟩
  obtain ⟨locs, eL⟩ : ∃ ll : List Loc, ll = [] := ⟨_, rfl⟩
  rw [← eH] at hP
  have hS : va_S A s.heap H locs := by rw [eH, eL]; exact hS
  show WC p l e _ s m _ below meth c G A _ s.heap [] 0 0 _
  rw [← eH, ← eL]
  clear eH eL
  have hl : lv_has ls 1 [(0, .ref t0)] := hl
  refine lv_aload_n hx hb dX3_init_0 rfl (lv_at hl 0 rfl) ?_
  refine W.objInit hx hb hown (ml_X3_3 hts) (im_objectInit hts) (cd_objectInit hts) rfl (by rw [hml]; exact hl.1) rfl dX3_init_1 (Nat.le_of_ble_eq_true rfl) (Nat.le_of_ble_eq_true rfl) ?_
  show WC p l e _ s m _ below meth c G A _ H locs 0 0 (F0 m 4 ls [])
  refine lv_aload_n hx hb dX3_init_4 rfl (lv_at hl 0 rfl) ?_
  refine lv_sipush (v := 200) hx hb dX3_init_5 (by decide) ?_
  refine ct_newC (N := 200) hx hb (ac_char hts) hE hP hD hS hA (by decide) rfl (Nat.le_of_ble_eq_true rfl) (Nat.le_of_ble_eq_true rfl) (Nat.le_of_ble_eq_true rfl) dX3_init_8 (fun x8 H hP hD hS => ?_)
  have hP : va_P G.1 vwCl [(t0, .inr (3, [.null, .int 0])), (x8, .inl (kC G, 200, .inl (fun _ => 0)))] H := hP
  have hD : va_D A [(t0, .inr (3, [.null, .int 0])), (x8, .inl (kC G, 200, .inl (fun _ => 0)))] := hD
  refine W.widen (k := 1) (n := 200) (Nat.le_of_ble_eq_true rfl) (Nat.le_of_ble_eq_true rfl) ?_
  refine va_putF (v := .ref x8) (ty := .array .char) hx hb hts inlX3 tyX3 tyX3_ok nmX3 hown hE.1 hP hD hS 0 rfl rfl 0 (by decide) (fl_X3_9 hts) (fun _ h9 => h9) rfl hnm rfl (by decide +kernel) rfl rfl (Nat.le_of_ble_eq_true rfl) dX3_init_10 (fun H locs hP hD hS => ?_)
  have hP : va_P G.1 vwCl [(t0, .inr (3, [.ref x8, .int 0])), (x8, .inl (kC G, 200, .inl (fun _ => 0)))] H := hP
  have hD : va_D A [(t0, .inr (3, [.ref x8, .int 0])), (x8, .inl (kC G, 200, .inl (fun _ => 0)))] := hD
  refine W.widen (k := 1) (n := 200) (Nat.le_of_ble_eq_true rfl) (Nat.le_of_ble_eq_true rfl) ?_
  exact ct_vret hx hb hr hlk dX3_init_13 hP hD hS (by exact ⟨rfl, _, rfl⟩)

set_option maxHeartbeats 4000000 in
set_option maxRecDepth 100000 in
theorem c_X4_init (l : Launch) (G : Gv) (a0 : Nat)  : Ct l yX4_init cX4_init 1 none (rmc 1 4 40 20) G [.ref a0] [(a0, .inr (4, [.null, .null, .null, .null, .int 0, .int 0]))] (fun v9 w9 => v9 = none ∧ ∃ (a1 : Nat) (a2 : Nat) (a3 : Nat) (a4 : Nat), w9 = [(a0, .inr (4, [.ref a1, .ref a2, .ref a3, .ref a4, .int 0, .int 0])), (a1, .inl (kI G, 10, .inl (fun _ => 0))), (a2, .inl (kI G, 10, .inl (fun _ => 0))), (a3, .inl (kI G, 10, .inl (fun _ => 0))), (a4, .inl (kI G, 10, .inl (fun _ => 0)))]) := by
  refine Ct.ofW (by decide) (Nat.le_of_ble_eq_true rfl) ?_
  intro p e s m below meth c ls A hx hb hml hr hown hts hlk hnm hP hD hA hE hS hl
  obtain ⟨H, eH⟩ : ∃ H : Heap, H = s.heap := ⟨_, rfl⟩
  obtain ⟨locs, eL⟩ : ∃ ll : List Loc, ll = [] := ⟨_, rfl⟩
  rw [← eH] at hP
  have hS : va_S A s.heap H locs := by rw [eH, eL]; exact hS
  show WC p l e _ s m _ below meth c G A _ s.heap [] 0 0 _
  rw [← eH, ← eL]
  clear eH eL
  have hl : lv_has ls 1 [(0, .ref a0)] := hl
  refine lv_aload_n hx hb dX4_init_0 rfl (lv_at hl 0 rfl) ?_
  refine W.objInit hx hb hown (ml_X4_3 hts) (im_objectInit hts) (cd_objectInit hts) rfl (by rw [hml]; exact hl.1) rfl dX4_init_1 (Nat.le_of_ble_eq_true rfl) (Nat.le_of_ble_eq_true rfl) ?_
  show WC p l e _ s m _ below meth c G A _ H locs 0 0 (F0 m 4 ls [])
  refine lv_aload_n hx hb dX4_init_4 rfl (lv_at hl 0 rfl) ?_
  refine lv_bipush (v := 10) hx hb dX4_init_5 (by decide) ?_
  refine ct_newI (N := 10) hx hb (ac_int hts) hE hP hD hS hA (by decide) rfl (Nat.le_of_ble_eq_true rfl) (Nat.le_of_ble_eq_true rfl) (Nat.le_of_ble_eq_true rfl) dX4_init_7 (fun x7 H hP hD hS => ?_)
  have hP : va_P G.1 vwCl [(a0, .inr (4, [.null, .null, .null, .null, .int 0, .int 0])), (x7, .inl (kI G, 10, .inl (fun _ => 0)))] H := hP
  have hD : va_D A [(a0, .inr (4, [.null, .null, .null, .null, .int 0, .int 0])), (x7, .inl (kI G, 10, .inl (fun _ => 0)))] := hD
  refine W.widen (k := 1) (n := 10) (Nat.le_of_ble_eq_true rfl) (Nat.le_of_ble_eq_true rfl) ?_
  refine va_putF (v := .ref x7) (ty := .array .int) hx hb hts inlX4 tyX4 tyX4_ok nmX4 hown hE.1 hP hD hS 0 rfl rfl 0 (by decide) (fl_X4_9 hts) (fun _ h9 => h9) rfl hnm rfl (by decide +kernel) rfl rfl (Nat.le_of_ble_eq_true rfl) dX4_init_9 (fun H locs hP hD hS => ?_)
  have hP : va_P G.1 vwCl [(a0, .inr (4, [.ref x7, .null, .null, .null, .int 0, .int 0])), (x7, .inl (kI G, 10, .inl (fun _ => 0)))] H := hP
  have hD : va_D A [(a0, .inr (4, [.ref x7, .null, .null, .null, .int 0, .int 0])), (x7, .inl (kI G, 10, .inl (fun _ => 0)))] := hD
  refine lv_aload_n hx hb dX4_init_12 rfl (lv_at hl 0 rfl) ?_
  refine lv_bipush (v := 10) hx hb dX4_init_13 (by decide) ?_
  refine ct_newI (N := 10) hx hb (ac_int hts) hE hP hD hS hA (by decide) rfl (Nat.le_of_ble_eq_true rfl) (Nat.le_of_ble_eq_true rfl) (Nat.le_of_ble_eq_true rfl) dX4_init_15 (fun x15 H hP hD hS => ?_)
  have hP : va_P G.1 vwCl [(a0, .inr (4, [.ref x7, .null, .null, .null, .int 0, .int 0])), (x7, .inl (kI G, 10, .inl (fun _ => 0))), (x15, .inl (kI G, 10, .inl (fun _ => 0)))] H := hP
  have hD : va_D A [(a0, .inr (4, [.ref x7, .null, .null, .null, .int 0, .int 0])), (x7, .inl (kI G, 10, .inl (fun _ => 0))), (x15, .inl (kI G, 10, .inl (fun _ => 0)))] := hD
  refine W.widen (k := 2) (n := 20) (Nat.le_of_ble_eq_true rfl) (Nat.le_of_ble_eq_true rfl) ?_
  refine va_putF (v := .ref x15) (ty := .array .int) hx hb hts inlX4 tyX4 tyX4_ok nmX4 hown hE.1 hP hD hS 0 rfl rfl 1 (by decide) (fl_X4_15 hts) (fun _ h9 => h9) rfl hnm rfl (by decide +kernel) rfl rfl (Nat.le_of_ble_eq_true rfl) dX4_init_17 (fun H locs hP hD hS => ?_)
  have hP : va_P G.1 vwCl [(a0, .inr (4, [.ref x7, .ref x15, .null, .null, .int 0, .int 0])), (x7, .inl (kI G, 10, .inl (fun _ => 0))), (x15, .inl (kI G, 10, .inl (fun _ => 0)))] H := hP
  have hD : va_D A [(a0, .inr (4, [.ref x7, .ref x15, .null, .null, .int 0, .int 0])), (x7, .inl (kI G, 10, .inl (fun _ => 0))), (x15, .inl (kI G, 10, .inl (fun _ => 0)))] := hD
  refine lv_aload_n hx hb dX4_init_20 rfl (lv_at hl 0 rfl) ?_
  refine lv_bipush (v := 10) hx hb dX4_init_21 (by decide) ?_
  refine ct_newI (N := 10) hx hb (ac_int hts) hE hP hD hS hA (by decide) rfl (Nat.le_of_ble_eq_true rfl) (Nat.le_of_ble_eq_true rfl) (Nat.le_of_ble_eq_true rfl) dX4_init_23 (fun x23 H hP hD hS => ?_)
  have hP : va_P G.1 vwCl [(a0, .inr (4, [.ref x7, .ref x15, .null, .null, .int 0, .int 0])), (x7, .inl (kI G, 10, .inl (fun _ => 0))), (x15, .inl (kI G, 10, .inl (fun _ => 0))), (x23, .inl (kI G, 10, .inl (fun _ => 0)))] H := hP
  have hD : va_D A [(a0, .inr (4, [.ref x7, .ref x15, .null, .null, .int 0, .int 0])), (x7, .inl (kI G, 10, .inl (fun _ => 0))), (x15, .inl (kI G, 10, .inl (fun _ => 0))), (x23, .inl (kI G, 10, .inl (fun _ => 0)))] := hD
  refine W.widen (k := 3) (n := 30) (Nat.le_of_ble_eq_true rfl) (Nat.le_of_ble_eq_true rfl) ?_
  refine va_putF (v := .ref x23) (ty := .array .int) hx hb hts inlX4 tyX4 tyX4_ok nmX4 hown hE.1 hP hD hS 0 rfl rfl 2 (by decide) (fl_X4_18 hts) (fun _ h9 => h9) rfl hnm rfl (by decide +kernel) rfl rfl (Nat.le_of_ble_eq_true rfl) dX4_init_25 (fun H locs hP hD hS => ?_)
  have hP : va_P G.1 vwCl [(a0, .inr (4, [.ref x7, .ref x15, .ref x23, .null, .int 0, .int 0])), (x7, .inl (kI G, 10, .inl (fun _ => 0))), (x15, .inl (kI G, 10, .inl (fun _ => 0))), (x23, .inl (kI G, 10, .inl (fun _ => 0)))] H := hP
  have hD : va_D A [(a0, .inr (4, [.ref x7, .ref x15, .ref x23, .null, .int 0, .int 0])), (x7, .inl (kI G, 10, .inl (fun _ => 0))), (x15, .inl (kI G, 10, .inl (fun _ => 0))), (x23, .inl (kI G, 10, .inl (fun _ => 0)))] := hD
  refine lv_aload_n hx hb dX4_init_28 rfl (lv_at hl 0 rfl) ?_
  refine lv_bipush (v := 10) hx hb dX4_init_29 (by decide) ?_
  refine ct_newI (N := 10) hx hb (ac_int hts) hE hP hD hS hA (by decide) rfl (Nat.le_of_ble_eq_true rfl) (Nat.le_of_ble_eq_true rfl) (Nat.le_of_ble_eq_true rfl) dX4_init_31 (fun x31 H hP hD hS => ?_)
  have hP : va_P G.1 vwCl [(a0, .inr (4, [.ref x7, .ref x15, .ref x23, .null, .int 0, .int 0])), (x7, .inl (kI G, 10, .inl (fun _ => 0))), (x15, .inl (kI G, 10, .inl (fun _ => 0))), (x23, .inl (kI G, 10, .inl (fun _ => 0))), (x31, .inl (kI G, 10, .inl (fun _ => 0)))] H := hP
  have hD : va_D A [(a0, .inr (4, [.ref x7, .ref x15, .ref x23, .null, .int 0, .int 0])), (x7, .inl (kI G, 10, .inl (fun _ => 0))), (x15, .inl (kI G, 10, .inl (fun _ => 0))), (x23, .inl (kI G, 10, .inl (fun _ => 0))), (x31, .inl (kI G, 10, .inl (fun _ => 0)))] := hD
  refine W.widen (k := 4) (n := 40) (Nat.le_of_ble_eq_true rfl) (Nat.le_of_ble_eq_true rfl) ?_
  refine va_putF (v := .ref x31) (ty := .array .int) hx hb hts inlX4 tyX4 tyX4_ok nmX4 hown hE.1 hP hD hS 0 rfl rfl 3 (by decide) (fl_X4_21 hts) (fun _ h9 => h9) rfl hnm rfl (by decide +kernel) rfl rfl (Nat.le_of_ble_eq_true rfl) dX4_init_33 (fun H locs hP hD hS => ?_)
  have hP : va_P G.1 vwCl [(a0, .inr (4, [.ref x7, .ref x15, .ref x23, .ref x31, .int 0, .int 0])), (x7, .inl (kI G, 10, .inl (fun _ => 0))), (x15, .inl (kI G, 10, .inl (fun _ => 0))), (x23, .inl (kI G, 10, .inl (fun _ => 0))), (x31, .inl (kI G, 10, .inl (fun _ => 0)))] H := hP
  have hD : va_D A [(a0, .inr (4, [.ref x7, .ref x15, .ref x23, .ref x31, .int 0, .int 0])), (x7, .inl (kI G, 10, .inl (fun _ => 0))), (x15, .inl (kI G, 10, .inl (fun _ => 0))), (x23, .inl (kI G, 10, .inl (fun _ => 0))), (x31, .inl (kI G, 10, .inl (fun _ => 0)))] := hD
  refine W.widen (k := 4) (n := 40) (Nat.le_of_ble_eq_true rfl) (Nat.le_of_ble_eq_true rfl) ?_
  exact ct_vret hx hb hr hlk dX4_init_36 hP hD hS (by exact ⟨rfl, _, _, _, _, rfl⟩)

set_option maxHeartbeats 4000000 in
set_option maxRecDepth 100000 in
theorem c_X5_init (l : Launch) (G : Gv) (p0 : Nat)  : Ct l yX5_init cX5_init 1 none (rmc 1 3 192 20) G [.ref p0] [(p0, .inr (5, [.null, .null, .null, .long 0, .int 0, .int 0]))] (fun v9 w9 => v9 = none ∧ ∃ (p1 : Nat) (p2 : Nat) (p3 : Nat), w9 = [(p0, .inr (5, [.ref p1, .ref p2, .ref p3, .long 0, .int 0, .int 0])), (p1, .inl (kI G, 64, .inl (fun _ => 0))), (p2, .inl (kI G, 64, .inl (fun _ => 0))), (p3, .inl (kI G, 64, .inl (fun _ => 0)))]) := by
  refine Ct.ofW (by decide) (Nat.le_of_ble_eq_true rfl) ?_
  intro p e s m below meth c ls A hx hb hml hr hown hts hlk hnm hP hD hA hE hS hl
  obtain ⟨H, eH⟩ : ∃ H : Heap, H = s.heap := ⟨_, rfl⟩
  obtain ⟨locs, eL⟩ : ∃ ll : List Loc, ll = [] := ⟨_, rfl⟩
  rw [← eH] at hP
  have hS : va_S A s.heap H locs := by rw [eH, eL]; exact hS
  show WC p l e _ s m _ below meth c G A _ s.heap [] 0 0 _
  rw [← eH, ← eL]
  clear eH eL
  have hl : lv_has ls 1 [(0, .ref p0)] := hl
  refine lv_aload_n hx hb dX5_init_0 rfl (lv_at hl 0 rfl) ?_
  refine W.objInit hx hb hown (ml_X5_3 hts) (im_objectInit hts) (cd_objectInit hts) rfl (by rw [hml]; exact hl.1) rfl dX5_init_1 (Nat.le_of_ble_eq_true rfl) (Nat.le_of_ble_eq_true rfl) ?_
  show WC p l e _ s m _ below meth c G A _ H locs 0 0 (F0 m 4 ls [])
  refine lv_aload_n hx hb dX5_init_4 rfl (lv_at hl 0 rfl) ?_
  refine lv_bipush (v := 64) hx hb dX5_init_5 (by decide) ?_
  refine ct_newI (N := 64) hx hb (ac_int hts) hE hP hD hS hA (by decide) rfl (Nat.le_of_ble_eq_true rfl) (Nat.le_of_ble_eq_true rfl) (Nat.le_of_ble_eq_true rfl) dX5_init_7 (fun x7 H hP hD hS => ?_)
  have hP : va_P G.1 vwCl [(p0, .inr (5, [.null, .null, .null, .long 0, .int 0, .int 0])), (x7, .inl (kI G, 64, .inl (fun _ => 0)))] H := hP
  have hD : va_D A [(p0, .inr (5, [.null, .null, .null, .long 0, .int 0, .int 0])), (x7, .inl (kI G, 64, .inl (fun _ => 0)))] := hD
  refine W.widen (k := 1) (n := 64) (Nat.le_of_ble_eq_true rfl) (Nat.le_of_ble_eq_true rfl) ?_
  refine va_putF (v := .ref x7) (ty := .array .int) hx hb hts inlX5 tyX5 tyX5_ok nmX5 hown hE.1 hP hD hS 0 rfl rfl 0 (by decide) (fl_X5_9 hts) (fun _ h9 => h9) rfl hnm rfl (by decide +kernel) rfl rfl (Nat.le_of_ble_eq_true rfl) dX5_init_9 (fun H locs hP hD hS => ?_)
  have hP : va_P G.1 vwCl [(p0, .inr (5, [.ref x7, .null, .null, .long 0, .int 0, .int 0])), (x7, .inl (kI G, 64, .inl (fun _ => 0)))] H := hP
  have hD : va_D A [(p0, .inr (5, [.ref x7, .null, .null, .long 0, .int 0, .int 0])), (x7, .inl (kI G, 64, .inl (fun _ => 0)))] := hD
  refine lv_aload_n hx hb dX5_init_12 rfl (lv_at hl 0 rfl) ?_
  refine lv_bipush (v := 64) hx hb dX5_init_13 (by decide) ?_
  refine ct_newI (N := 64) hx hb (ac_int hts) hE hP hD hS hA (by decide) rfl (Nat.le_of_ble_eq_true rfl) (Nat.le_of_ble_eq_true rfl) (Nat.le_of_ble_eq_true rfl) dX5_init_15 (fun x15 H hP hD hS => ?_)
  have hP : va_P G.1 vwCl [(p0, .inr (5, [.ref x7, .null, .null, .long 0, .int 0, .int 0])), (x7, .inl (kI G, 64, .inl (fun _ => 0))), (x15, .inl (kI G, 64, .inl (fun _ => 0)))] H := hP
  have hD : va_D A [(p0, .inr (5, [.ref x7, .null, .null, .long 0, .int 0, .int 0])), (x7, .inl (kI G, 64, .inl (fun _ => 0))), (x15, .inl (kI G, 64, .inl (fun _ => 0)))] := hD
  refine W.widen (k := 2) (n := 128) (Nat.le_of_ble_eq_true rfl) (Nat.le_of_ble_eq_true rfl) ?_
  refine va_putF (v := .ref x15) (ty := .array .int) hx hb hts inlX5 tyX5 tyX5_ok nmX5 hown hE.1 hP hD hS 0 rfl rfl 1 (by decide) (fl_X5_15 hts) (fun _ h9 => h9) rfl hnm rfl (by decide +kernel) rfl rfl (Nat.le_of_ble_eq_true rfl) dX5_init_17 (fun H locs hP hD hS => ?_)
  have hP : va_P G.1 vwCl [(p0, .inr (5, [.ref x7, .ref x15, .null, .long 0, .int 0, .int 0])), (x7, .inl (kI G, 64, .inl (fun _ => 0))), (x15, .inl (kI G, 64, .inl (fun _ => 0)))] H := hP
  have hD : va_D A [(p0, .inr (5, [.ref x7, .ref x15, .null, .long 0, .int 0, .int 0])), (x7, .inl (kI G, 64, .inl (fun _ => 0))), (x15, .inl (kI G, 64, .inl (fun _ => 0)))] := hD
  refine lv_aload_n hx hb dX5_init_20 rfl (lv_at hl 0 rfl) ?_
  refine lv_bipush (v := 64) hx hb dX5_init_21 (by decide) ?_
  refine ct_newI (N := 64) hx hb (ac_int hts) hE hP hD hS hA (by decide) rfl (Nat.le_of_ble_eq_true rfl) (Nat.le_of_ble_eq_true rfl) (Nat.le_of_ble_eq_true rfl) dX5_init_23 (fun x23 H hP hD hS => ?_)
  have hP : va_P G.1 vwCl [(p0, .inr (5, [.ref x7, .ref x15, .null, .long 0, .int 0, .int 0])), (x7, .inl (kI G, 64, .inl (fun _ => 0))), (x15, .inl (kI G, 64, .inl (fun _ => 0))), (x23, .inl (kI G, 64, .inl (fun _ => 0)))] H := hP
  have hD : va_D A [(p0, .inr (5, [.ref x7, .ref x15, .null, .long 0, .int 0, .int 0])), (x7, .inl (kI G, 64, .inl (fun _ => 0))), (x15, .inl (kI G, 64, .inl (fun _ => 0))), (x23, .inl (kI G, 64, .inl (fun _ => 0)))] := hD
  refine W.widen (k := 3) (n := 192) (Nat.le_of_ble_eq_true rfl) (Nat.le_of_ble_eq_true rfl) ?_
  refine va_putF (v := .ref x23) (ty := .array .int) hx hb hts inlX5 tyX5 tyX5_ok nmX5 hown hE.1 hP hD hS 0 rfl rfl 2 (by decide) (fl_X5_18 hts) (fun _ h9 => h9) rfl hnm rfl (by decide +kernel) rfl rfl (Nat.le_of_ble_eq_true rfl) dX5_init_25 (fun H locs hP hD hS => ?_)
  have hP : va_P G.1 vwCl [(p0, .inr (5, [.ref x7, .ref x15, .ref x23, .long 0, .int 0, .int 0])), (x7, .inl (kI G, 64, .inl (fun _ => 0))), (x15, .inl (kI G, 64, .inl (fun _ => 0))), (x23, .inl (kI G, 64, .inl (fun _ => 0)))] H := hP
  have hD : va_D A [(p0, .inr (5, [.ref x7, .ref x15, .ref x23, .long 0, .int 0, .int 0])), (x7, .inl (kI G, 64, .inl (fun _ => 0))), (x15, .inl (kI G, 64, .inl (fun _ => 0))), (x23, .inl (kI G, 64, .inl (fun _ => 0)))] := hD
  refine W.widen (k := 3) (n := 192) (Nat.le_of_ble_eq_true rfl) (Nat.le_of_ble_eq_true rfl) ?_
  exact ct_vret hx hb hr hlk dX5_init_28 hP hD hS (by exact ⟨rfl, _, _, _, rfl⟩)

set_option maxHeartbeats 4000000 in
set_option maxRecDepth 100000 in
theorem c_X8_init (l : Launch) (G : Gv) (u0 : Nat)  : Ct l yX8_init cX8_init 1 none (rmc 1 2 2056 20) G [.ref u0] [(u0, .inr (8, [.null, .null, .int 0, .int 0]))] (fun v9 w9 => v9 = none ∧ ∃ (u1 : Nat) (u2 : Nat), w9 = [(u0, .inr (8, [.ref u1, .ref u2, .int 0, .int 0])), (u1, .inl (kI G, 8, .inl (fun _ => 0))), (u2, .inl (kI G, 2048, .inl (fun _ => 0)))]) := by
  refine Ct.ofW (by decide) (Nat.le_of_ble_eq_true rfl) ?_
  intro p e s m below meth c ls A hx hb hml hr hown hts hlk hnm hP hD hA hE hS hl
  obtain ⟨H, eH⟩ : ∃ H : Heap, H = s.heap := ⟨_, rfl⟩
  obtain ⟨locs, eL⟩ : ∃ ll : List Loc, ll = [] := ⟨_, rfl⟩
  rw [← eH] at hP
  have hS : va_S A s.heap H locs := by rw [eH, eL]; exact hS
  show WC p l e _ s m _ below meth c G A _ s.heap [] 0 0 _
  rw [← eH, ← eL]
  clear eH eL
  have hl : lv_has ls 1 [(0, .ref u0)] := hl
  refine lv_aload_n hx hb dX8_init_0 rfl (lv_at hl 0 rfl) ?_
  refine W.objInit hx hb hown (ml_X8_3 hts) (im_objectInit hts) (cd_objectInit hts) rfl (by rw [hml]; exact hl.1) rfl dX8_init_1 (Nat.le_of_ble_eq_true rfl) (Nat.le_of_ble_eq_true rfl) ?_
  show WC p l e _ s m _ below meth c G A _ H locs 0 0 (F0 m 4 ls [])
  refine lv_aload_n hx hb dX8_init_4 rfl (lv_at hl 0 rfl) ?_
  refine lv_bipush (v := 8) hx hb dX8_init_5 (by decide) ?_
  refine ct_newI (N := 8) hx hb (ac_int hts) hE hP hD hS hA (by decide) rfl (Nat.le_of_ble_eq_true rfl) (Nat.le_of_ble_eq_true rfl) (Nat.le_of_ble_eq_true rfl) dX8_init_7 (fun x7 H hP hD hS => ?_)
  have hP : va_P G.1 vwCl [(u0, .inr (8, [.null, .null, .int 0, .int 0])), (x7, .inl (kI G, 8, .inl (fun _ => 0)))] H := hP
  have hD : va_D A [(u0, .inr (8, [.null, .null, .int 0, .int 0])), (x7, .inl (kI G, 8, .inl (fun _ => 0)))] := hD
  refine W.widen (k := 1) (n := 8) (Nat.le_of_ble_eq_true rfl) (Nat.le_of_ble_eq_true rfl) ?_
  refine va_putF (v := .ref x7) (ty := .array .int) hx hb hts inlX8 tyX8 tyX8_ok nmX8 hown hE.1 hP hD hS 0 rfl rfl 0 (by decide) (fl_X8_9 hts) (fun _ h9 => h9) rfl hnm rfl (by decide +kernel) rfl rfl (Nat.le_of_ble_eq_true rfl) dX8_init_9 (fun H locs hP hD hS => ?_)
  have hP : va_P G.1 vwCl [(u0, .inr (8, [.ref x7, .null, .int 0, .int 0])), (x7, .inl (kI G, 8, .inl (fun _ => 0)))] H := hP
  have hD : va_D A [(u0, .inr (8, [.ref x7, .null, .int 0, .int 0])), (x7, .inl (kI G, 8, .inl (fun _ => 0)))] := hD
  refine lv_aload_n hx hb dX8_init_12 rfl (lv_at hl 0 rfl) ?_
  refine lv_sipush (v := 2048) hx hb dX8_init_13 (by decide) ?_
  refine ct_newI (N := 2048) hx hb (ac_int hts) hE hP hD hS hA (by decide) rfl (Nat.le_of_ble_eq_true rfl) (Nat.le_of_ble_eq_true rfl) (Nat.le_of_ble_eq_true rfl) dX8_init_16 (fun x16 H hP hD hS => ?_)
  have hP : va_P G.1 vwCl [(u0, .inr (8, [.ref x7, .null, .int 0, .int 0])), (x7, .inl (kI G, 8, .inl (fun _ => 0))), (x16, .inl (kI G, 2048, .inl (fun _ => 0)))] H := hP
  have hD : va_D A [(u0, .inr (8, [.ref x7, .null, .int 0, .int 0])), (x7, .inl (kI G, 8, .inl (fun _ => 0))), (x16, .inl (kI G, 2048, .inl (fun _ => 0)))] := hD
  refine W.widen (k := 2) (n := 2056) (Nat.le_of_ble_eq_true rfl) (Nat.le_of_ble_eq_true rfl) ?_
  refine va_putF (v := .ref x16) (ty := .array .int) hx hb hts inlX8 tyX8 tyX8_ok nmX8 hown hE.1 hP hD hS 0 rfl rfl 1 (by decide) (fl_X8_15 hts) (fun _ h9 => h9) rfl hnm rfl (by decide +kernel) rfl rfl (Nat.le_of_ble_eq_true rfl) dX8_init_18 (fun H locs hP hD hS => ?_)
  have hP : va_P G.1 vwCl [(u0, .inr (8, [.ref x7, .ref x16, .int 0, .int 0])), (x7, .inl (kI G, 8, .inl (fun _ => 0))), (x16, .inl (kI G, 2048, .inl (fun _ => 0)))] H := hP
  have hD : va_D A [(u0, .inr (8, [.ref x7, .ref x16, .int 0, .int 0])), (x7, .inl (kI G, 8, .inl (fun _ => 0))), (x16, .inl (kI G, 2048, .inl (fun _ => 0)))] := hD
  refine W.widen (k := 2) (n := 2056) (Nat.le_of_ble_eq_true rfl) (Nat.le_of_ble_eq_true rfl) ?_
  exact ct_vret hx hb hr hlk dX8_init_21 hP hD hS (by exact ⟨rfl, _, _, rfl⟩)

set_option maxHeartbeats 4000000 in
set_option maxRecDepth 100000 in
theorem c_X1_init (l : Launch) (G : Gv) (o0 : Nat)  : Ct l yX1_init cX1_init 1 none (rmc 2 10 67 40) G [.ref o0] [(o0, .inr (1, [.null, .null, .null]))] (fun v9 w9 => v9 = none ∧ ∃ (g0 : Nat) (a0 : Nat) (a1 : Nat) (a2 : Nat) (a3 : Nat) (a4 : Nat) (h0 : Nat) (h1 : Nat) (h2 : Nat) (h3 : Nat), w9 = [(o0, .inr (1, [.ref g0, .ref a0, .ref h0])), (g0, .inr (2, [.int 5, .int 5])), (a0, .inr (4, [.ref a1, .ref a2, .ref a3, .ref a4, .int 0, .int 0])), (a1, .inl (kI G, 10, .inl (fun _ => 0))), (a2, .inl (kI G, 10, .inl (fun _ => 0))), (a3, .inl (kI G, 10, .inl (fun _ => 0))), (a4, .inl (kI G, 10, .inl (fun _ => 0))), (h0, .inr (0, [.ref h1, .ref h2, .ref h3, .int 0])), (h1, .inl (kI G, 5, .inl (fun _ => 0))), (h2, .inl (kI G, 5, .inl (fun _ => 0))), (h3, .inl (kI G, 5, .inl (fun _ => 0)))]) := by
  refine Ct.ofW (by decide) (Nat.le_of_ble_eq_true rfl) ?_
  intro p e s m below meth c ls A hx hb hml hr hown hts hlk hnm hP hD hA hE hS hl
  obtain ⟨H, eH⟩ : ∃ H : Heap, H = s.heap := ⟨_, rfl⟩
  obtain ⟨locs, eL⟩ : ∃ ll : List Loc, ll = [] := ⟨_, rfl⟩
  rw [← eH] at hP
  have hS : va_S A s.heap H locs := by rw [eH, eL]; exact hS
  show WC p l e _ s m _ below meth c G A _ s.heap [] 0 0 _
  rw [← eH, ← eL]
  clear eH eL
  have hl : lv_has ls 1 [(0, .ref o0)] := hl
  refine lv_aload_n hx hb dX1_init_0 rfl (lv_at hl 0 rfl) ?_
  refine W.objInit hx hb hown (ml_X1_3 hts) (im_objectInit hts) (cd_objectInit hts) rfl (by rw [hml]; exact hl.1) rfl dX1_init_1 (Nat.le_of_ble_eq_true rfl) (Nat.le_of_ble_eq_true rfl) ?_
  show WC p l e _ s m _ below meth c G A _ H locs 0 0 (F0 m 4 ls [])
  refine lv_aload_n hx hb dX1_init_4 rfl (lv_at hl 0 rfl) ?_
  refine va_new (ci := 2) (fs := [.int 0, .int 0]) (C := RX2) (T := TX2) (N := 2) hx hb hts inlX2 tyX2 tyX2_ok hown (cl_X1_9 hts) (it_X2 hts) (in_RX2 hts) hE.1 hP hD hS hA rfl (fun j hj => by rcases (show j = 0 ∨ j = 1 by omega) with rfl | rfl <;> rfl) (Nat.le_of_ble_eq_true rfl) (Nat.le_of_ble_eq_true rfl) dX1_init_5 (fun x5 H hP hD hS => ?_)
  have hP : va_P G.1 vwCl [(o0, .inr (1, [.null, .null, .null])), (x5, .inr (2, [.int 0, .int 0]))] H := hP
  have hD : va_D A [(o0, .inr (1, [.null, .null, .null])), (x5, .inr (2, [.int 0, .int 0]))] := hD
  refine W.widen (k := 1) (n := 2) (Nat.le_of_ble_eq_true rfl) (Nat.le_of_ble_eq_true rfl) ?_
  refine lv_dup hx hb dX1_init_8 rfl ?_
  refine ct_callI (wr := [(o0, .inr (1, [.null, .null, .null]))]) (As := []) (rest := [.ref x5, .ref o0]) hx hb hml hown hts hE hA hl.1 hP hD hS (c_X2_init l G x5) (cm_X1_11 hts) ⟨(Nat.le_of_ble_eq_true rfl), (Nat.le_of_ble_eq_true rfl)⟩ ⟨(Nat.le_of_ble_eq_true rfl), (Nat.le_of_ble_eq_true rfl)⟩ rfl [1] [0] rfl rfl ⟨by decide, by decide, by decide⟩ rfl (Nat.le_of_ble_eq_true rfl) dX1_init_9 (fun v9 w9 H locs hpo hP hD hS => ?_)
  obtain ⟨rfl, rfl⟩ := hpo
  have hP := sub_P (wc := [(o0, .inr (1, [.null, .null, .null])), (x5, .inr (2, [.int 5, .int 5]))]) hP [0, 1] rfl
  have hD := hD.sub (ws' := [(o0, .inr (1, [.null, .null, .null])), (x5, .inr (2, [.int 5, .int 5]))]) [0, 1] (by decide) rfl
  refine W.widen (k := 1) (n := 2) (Nat.le_of_ble_eq_true rfl) (Nat.le_of_ble_eq_true rfl) ?_
  show WC p l e _ s m _ below meth c G A _ H locs 1 2 (F0 m 12 ls [.ref x5, .ref o0])
  refine va_putF (v := .ref x5) (ty := .object "OnlyWhatIsLost$Grid") hx hb hts inlX1 tyX1 tyX1_ok nmX1 hown hE.1 hP hD hS 0 rfl rfl 0 (by decide) (fl_X1_12 hts) (fun _ h9 => h9) rfl hnm rfl (by decide +kernel) rfl rfl (Nat.le_of_ble_eq_true rfl) dX1_init_12 (fun H locs hP hD hS => ?_)
  have hP : va_P G.1 vwCl [(o0, .inr (1, [.ref x5, .null, .null])), (x5, .inr (2, [.int 5, .int 5]))] H := hP
  have hD : va_D A [(o0, .inr (1, [.ref x5, .null, .null])), (x5, .inr (2, [.int 5, .int 5]))] := hD
  refine lv_aload_n hx hb dX1_init_15 rfl (lv_at hl 0 rfl) ?_
  refine va_new (ci := 4) (fs := [.null, .null, .null, .null, .int 0, .int 0]) (C := RX4) (T := TX4) (N := 6) hx hb hts inlX4 tyX4 tyX4_ok hown (cl_X1_18 hts) (it_X4 hts) (in_RX4 hts) hE.1 hP hD hS hA rfl (fun j hj => by rcases (show j = 0 ∨ j = 1 ∨ j = 2 ∨ j = 3 ∨ j = 4 ∨ j = 5 by omega) with rfl | rfl | rfl | rfl | rfl | rfl <;> rfl) (Nat.le_of_ble_eq_true rfl) (Nat.le_of_ble_eq_true rfl) dX1_init_16 (fun x16 H hP hD hS => ?_)
  have hP : va_P G.1 vwCl [(o0, .inr (1, [.ref x5, .null, .null])), (x5, .inr (2, [.int 5, .int 5])), (x16, .inr (4, [.null, .null, .null, .null, .int 0, .int 0]))] H := hP
  have hD : va_D A [(o0, .inr (1, [.ref x5, .null, .null])), (x5, .inr (2, [.int 5, .int 5])), (x16, .inr (4, [.null, .null, .null, .null, .int 0, .int 0]))] := hD
  refine W.widen (k := 2) (n := 8) (Nat.le_of_ble_eq_true rfl) (Nat.le_of_ble_eq_true rfl) ?_
  refine lv_dup hx hb dX1_init_19 rfl ?_
  refine ct_callI (wr := [(o0, .inr (1, [.ref x5, .null, .null])), (x5, .inr (2, [.int 5, .int 5]))]) (As := []) (rest := [.ref x16, .ref o0]) hx hb hml hown hts hE hA hl.1 hP hD hS (c_X4_init l G x16) (cm_X1_20 hts) ⟨(Nat.le_of_ble_eq_true rfl), (Nat.le_of_ble_eq_true rfl)⟩ ⟨(Nat.le_of_ble_eq_true rfl), (Nat.le_of_ble_eq_true rfl)⟩ rfl [2] [0, 1] rfl rfl ⟨by decide, by decide, by decide⟩ rfl (Nat.le_of_ble_eq_true rfl) dX1_init_20 (fun v9 w9 H locs hpo hP hD hS => ?_)
  obtain ⟨rfl, x20, x20_1, x20_2, x20_3, rfl⟩ := hpo
  have hP := sub_P (wc := [(o0, .inr (1, [.ref x5, .null, .null])), (x5, .inr (2, [.int 5, .int 5])), (x16, .inr (4, [.ref x20, .ref x20_1, .ref x20_2, .ref x20_3, .int 0, .int 0])), (x20, .inl (kI G, 10, .inl (fun _ => 0))), (x20_1, .inl (kI G, 10, .inl (fun _ => 0))), (x20_2, .inl (kI G, 10, .inl (fun _ => 0))), (x20_3, .inl (kI G, 10, .inl (fun _ => 0)))]) hP [0, 1, 2, 3, 4, 5, 6] rfl
  have hD := hD.sub (ws' := [(o0, .inr (1, [.ref x5, .null, .null])), (x5, .inr (2, [.int 5, .int 5])), (x16, .inr (4, [.ref x20, .ref x20_1, .ref x20_2, .ref x20_3, .int 0, .int 0])), (x20, .inl (kI G, 10, .inl (fun _ => 0))), (x20_1, .inl (kI G, 10, .inl (fun _ => 0))), (x20_2, .inl (kI G, 10, .inl (fun _ => 0))), (x20_3, .inl (kI G, 10, .inl (fun _ => 0)))]) [0, 1, 2, 3, 4, 5, 6] (by decide) rfl
  refine W.widen (k := 6) (n := 48) (Nat.le_of_ble_eq_true rfl) (Nat.le_of_ble_eq_true rfl) ?_
  show WC p l e _ s m _ below meth c G A _ H locs 6 48 (F0 m 23 ls [.ref x16, .ref o0])
  refine va_putF (v := .ref x16) (ty := .object "OnlyWhatIsLost$Moment") hx hb hts inlX1 tyX1 tyX1_ok nmX1 hown hE.1 hP hD hS 0 rfl rfl 1 (by decide) (fl_X1_21 hts) (fun _ h9 => h9) rfl hnm rfl (by decide +kernel) rfl rfl (Nat.le_of_ble_eq_true rfl) dX1_init_23 (fun H locs hP hD hS => ?_)
  have hP : va_P G.1 vwCl [(o0, .inr (1, [.ref x5, .ref x16, .null])), (x5, .inr (2, [.int 5, .int 5])), (x16, .inr (4, [.ref x20, .ref x20_1, .ref x20_2, .ref x20_3, .int 0, .int 0])), (x20, .inl (kI G, 10, .inl (fun _ => 0))), (x20_1, .inl (kI G, 10, .inl (fun _ => 0))), (x20_2, .inl (kI G, 10, .inl (fun _ => 0))), (x20_3, .inl (kI G, 10, .inl (fun _ => 0)))] H := hP
  have hD : va_D A [(o0, .inr (1, [.ref x5, .ref x16, .null])), (x5, .inr (2, [.int 5, .int 5])), (x16, .inr (4, [.ref x20, .ref x20_1, .ref x20_2, .ref x20_3, .int 0, .int 0])), (x20, .inl (kI G, 10, .inl (fun _ => 0))), (x20_1, .inl (kI G, 10, .inl (fun _ => 0))), (x20_2, .inl (kI G, 10, .inl (fun _ => 0))), (x20_3, .inl (kI G, 10, .inl (fun _ => 0)))] := hD
  refine lv_aload_n hx hb dX1_init_26 rfl (lv_at hl 0 rfl) ?_
  refine va_new (ci := 0) (fs := [.null, .null, .null, .int 0]) (C := RX0) (T := TX0) (N := 4) hx hb hts inlX0 tyX0 tyX0_ok hown (cl_X1_25 hts) (it_X0 hts) (in_RX0 hts) hE.1 hP hD hS hA rfl (fun j hj => by rcases (show j = 0 ∨ j = 1 ∨ j = 2 ∨ j = 3 by omega) with rfl | rfl | rfl | rfl <;> rfl) (Nat.le_of_ble_eq_true rfl) (Nat.le_of_ble_eq_true rfl) dX1_init_27 (fun x27 H hP hD hS => ?_)
  have hP : va_P G.1 vwCl [(o0, .inr (1, [.ref x5, .ref x16, .null])), (x5, .inr (2, [.int 5, .int 5])), (x16, .inr (4, [.ref x20, .ref x20_1, .ref x20_2, .ref x20_3, .int 0, .int 0])), (x20, .inl (kI G, 10, .inl (fun _ => 0))), (x20_1, .inl (kI G, 10, .inl (fun _ => 0))), (x20_2, .inl (kI G, 10, .inl (fun _ => 0))), (x20_3, .inl (kI G, 10, .inl (fun _ => 0))), (x27, .inr (0, [.null, .null, .null, .int 0]))] H := hP
  have hD : va_D A [(o0, .inr (1, [.ref x5, .ref x16, .null])), (x5, .inr (2, [.int 5, .int 5])), (x16, .inr (4, [.ref x20, .ref x20_1, .ref x20_2, .ref x20_3, .int 0, .int 0])), (x20, .inl (kI G, 10, .inl (fun _ => 0))), (x20_1, .inl (kI G, 10, .inl (fun _ => 0))), (x20_2, .inl (kI G, 10, .inl (fun _ => 0))), (x20_3, .inl (kI G, 10, .inl (fun _ => 0))), (x27, .inr (0, [.null, .null, .null, .int 0]))] := hD
  refine W.widen (k := 7) (n := 52) (Nat.le_of_ble_eq_true rfl) (Nat.le_of_ble_eq_true rfl) ?_
  refine lv_dup hx hb dX1_init_30 rfl ?_
  refine ct_callI (wr := [(o0, .inr (1, [.ref x5, .ref x16, .null])), (x5, .inr (2, [.int 5, .int 5])), (x16, .inr (4, [.ref x20, .ref x20_1, .ref x20_2, .ref x20_3, .int 0, .int 0])), (x20, .inl (kI G, 10, .inl (fun _ => 0))), (x20_1, .inl (kI G, 10, .inl (fun _ => 0))), (x20_2, .inl (kI G, 10, .inl (fun _ => 0))), (x20_3, .inl (kI G, 10, .inl (fun _ => 0)))]) (As := []) (rest := [.ref x27, .ref o0]) hx hb hml hown hts hE hA hl.1 hP hD hS (c_X0_init l G x27) (cm_X1_27 hts) ⟨(Nat.le_of_ble_eq_true rfl), (Nat.le_of_ble_eq_true rfl)⟩ ⟨(Nat.le_of_ble_eq_true rfl), (Nat.le_of_ble_eq_true rfl)⟩ rfl [7] [0, 1, 2, 3, 4, 5, 6] rfl rfl ⟨by decide, by decide, by decide⟩ rfl (Nat.le_of_ble_eq_true rfl) dX1_init_31 (fun v9 w9 H locs hpo hP hD hS => ?_)
  obtain ⟨rfl, x31, x31_1, x31_2, rfl⟩ := hpo
  have hP := sub_P (wc := [(o0, .inr (1, [.ref x5, .ref x16, .null])), (x5, .inr (2, [.int 5, .int 5])), (x16, .inr (4, [.ref x20, .ref x20_1, .ref x20_2, .ref x20_3, .int 0, .int 0])), (x20, .inl (kI G, 10, .inl (fun _ => 0))), (x20_1, .inl (kI G, 10, .inl (fun _ => 0))), (x20_2, .inl (kI G, 10, .inl (fun _ => 0))), (x20_3, .inl (kI G, 10, .inl (fun _ => 0))), (x27, .inr (0, [.ref x31, .ref x31_1, .ref x31_2, .int 0])), (x31, .inl (kI G, 5, .inl (fun _ => 0))), (x31_1, .inl (kI G, 5, .inl (fun _ => 0))), (x31_2, .inl (kI G, 5, .inl (fun _ => 0)))]) hP [0, 1, 2, 3, 4, 5, 6, 7, 8, 9, 10] rfl
  have hD := hD.sub (ws' := [(o0, .inr (1, [.ref x5, .ref x16, .null])), (x5, .inr (2, [.int 5, .int 5])), (x16, .inr (4, [.ref x20, .ref x20_1, .ref x20_2, .ref x20_3, .int 0, .int 0])), (x20, .inl (kI G, 10, .inl (fun _ => 0))), (x20_1, .inl (kI G, 10, .inl (fun _ => 0))), (x20_2, .inl (kI G, 10, .inl (fun _ => 0))), (x20_3, .inl (kI G, 10, .inl (fun _ => 0))), (x27, .inr (0, [.ref x31, .ref x31_1, .ref x31_2, .int 0])), (x31, .inl (kI G, 5, .inl (fun _ => 0))), (x31_1, .inl (kI G, 5, .inl (fun _ => 0))), (x31_2, .inl (kI G, 5, .inl (fun _ => 0)))]) [0, 1, 2, 3, 4, 5, 6, 7, 8, 9, 10] (by decide) rfl
  refine W.widen (k := 10) (n := 67) (Nat.le_of_ble_eq_true rfl) (Nat.le_of_ble_eq_true rfl) ?_
  show WC p l e _ s m _ below meth c G A _ H locs 10 67 (F0 m 34 ls [.ref x27, .ref o0])
  refine va_putF (v := .ref x27) (ty := .object "OnlyWhatIsLost$Charts") hx hb hts inlX1 tyX1 tyX1_ok nmX1 hown hE.1 hP hD hS 0 rfl rfl 2 (by decide) (fl_X1_28 hts) (fun _ h9 => h9) rfl hnm rfl (by decide +kernel) rfl rfl (Nat.le_of_ble_eq_true rfl) dX1_init_34 (fun H locs hP hD hS => ?_)
  have hP : va_P G.1 vwCl [(o0, .inr (1, [.ref x5, .ref x16, .ref x27])), (x5, .inr (2, [.int 5, .int 5])), (x16, .inr (4, [.ref x20, .ref x20_1, .ref x20_2, .ref x20_3, .int 0, .int 0])), (x20, .inl (kI G, 10, .inl (fun _ => 0))), (x20_1, .inl (kI G, 10, .inl (fun _ => 0))), (x20_2, .inl (kI G, 10, .inl (fun _ => 0))), (x20_3, .inl (kI G, 10, .inl (fun _ => 0))), (x27, .inr (0, [.ref x31, .ref x31_1, .ref x31_2, .int 0])), (x31, .inl (kI G, 5, .inl (fun _ => 0))), (x31_1, .inl (kI G, 5, .inl (fun _ => 0))), (x31_2, .inl (kI G, 5, .inl (fun _ => 0)))] H := hP
  have hD : va_D A [(o0, .inr (1, [.ref x5, .ref x16, .ref x27])), (x5, .inr (2, [.int 5, .int 5])), (x16, .inr (4, [.ref x20, .ref x20_1, .ref x20_2, .ref x20_3, .int 0, .int 0])), (x20, .inl (kI G, 10, .inl (fun _ => 0))), (x20_1, .inl (kI G, 10, .inl (fun _ => 0))), (x20_2, .inl (kI G, 10, .inl (fun _ => 0))), (x20_3, .inl (kI G, 10, .inl (fun _ => 0))), (x27, .inr (0, [.ref x31, .ref x31_1, .ref x31_2, .int 0])), (x31, .inl (kI G, 5, .inl (fun _ => 0))), (x31_1, .inl (kI G, 5, .inl (fun _ => 0))), (x31_2, .inl (kI G, 5, .inl (fun _ => 0)))] := hD
  refine W.widen (k := 10) (n := 67) (Nat.le_of_ble_eq_true rfl) (Nat.le_of_ble_eq_true rfl) ?_
  exact ct_vret hx hb hr hlk dX1_init_37 hP hD hS (by exact ⟨rfl, _, _, _, _, _, _, _, _, _, _, rfl⟩)

set_option maxHeartbeats 4000000 in
set_option maxRecDepth 100000 in
theorem c_X6_init (l : Launch) (G : Gv) (r0 : Nat)  : Ct l yX6_init cX6_init 1 none (rmc 3 12 74 60) G [.ref r0] [(r0, .inr (6, [.null, .null]))] (fun v9 w9 => v9 = none ∧ ∃ (d0 : Nat) (g0 : Nat) (a0 : Nat) (a1 : Nat) (a2 : Nat) (a3 : Nat) (a4 : Nat) (h0 : Nat) (h1 : Nat) (h2 : Nat) (h3 : Nat) (j0 : Nat), w9 = [(r0, .inr (6, [.ref d0, .ref j0])), (d0, .inr (1, [.ref g0, .ref a0, .ref h0])), (g0, .inr (2, [.int 5, .int 5])), (a0, .inr (4, [.ref a1, .ref a2, .ref a3, .ref a4, .int 0, .int 0])), (a1, .inl (kI G, 10, .inl (fun _ => 0))), (a2, .inl (kI G, 10, .inl (fun _ => 0))), (a3, .inl (kI G, 10, .inl (fun _ => 0))), (a4, .inl (kI G, 10, .inl (fun _ => 0))), (h0, .inr (0, [.ref h1, .ref h2, .ref h3, .int 0])), (h1, .inl (kI G, 5, .inl (fun _ => 0))), (h2, .inl (kI G, 5, .inl (fun _ => 0))), (h3, .inl (kI G, 5, .inl (fun _ => 0))), (j0, .inl (kI G, 4, .inl (fun _ => 0)))]) := by
  refine Ct.ofW (by decide) (Nat.le_of_ble_eq_true rfl) ?_
  intro p e s m below meth c ls A hx hb hml hr hown hts hlk hnm hP hD hA hE hS hl
  obtain ⟨H, eH⟩ : ∃ H : Heap, H = s.heap := ⟨_, rfl⟩
  obtain ⟨locs, eL⟩ : ∃ ll : List Loc, ll = [] := ⟨_, rfl⟩
  rw [← eH] at hP
  have hS : va_S A s.heap H locs := by rw [eH, eL]; exact hS
  show WC p l e _ s m _ below meth c G A _ s.heap [] 0 0 _
  rw [← eH, ← eL]
  clear eH eL
  have hl : lv_has ls 1 [(0, .ref r0)] := hl
  refine lv_aload_n hx hb dX6_init_0 rfl (lv_at hl 0 rfl) ?_
  refine W.objInit hx hb hown (ml_X6_3 hts) (im_objectInit hts) (cd_objectInit hts) rfl (by rw [hml]; exact hl.1) rfl dX6_init_1 (Nat.le_of_ble_eq_true rfl) (Nat.le_of_ble_eq_true rfl) ?_
  show WC p l e _ s m _ below meth c G A _ H locs 0 0 (F0 m 4 ls [])
  refine lv_aload_n hx hb dX6_init_4 rfl (lv_at hl 0 rfl) ?_
  refine va_new (ci := 1) (fs := [.null, .null, .null]) (C := RX1) (T := TX1) (N := 3) hx hb hts inlX1 tyX1 tyX1_ok hown (cl_X6_9 hts) (it_X1 hts) (in_RX1 hts) hE.1 hP hD hS hA rfl (fun j hj => by rcases (show j = 0 ∨ j = 1 ∨ j = 2 by omega) with rfl | rfl | rfl <;> rfl) (Nat.le_of_ble_eq_true rfl) (Nat.le_of_ble_eq_true rfl) dX6_init_5 (fun x5 H hP hD hS => ?_)
  have hP : va_P G.1 vwCl [(r0, .inr (6, [.null, .null])), (x5, .inr (1, [.null, .null, .null]))] H := hP
  have hD : va_D A [(r0, .inr (6, [.null, .null])), (x5, .inr (1, [.null, .null, .null]))] := hD
  refine W.widen (k := 1) (n := 3) (Nat.le_of_ble_eq_true rfl) (Nat.le_of_ble_eq_true rfl) ?_
  refine lv_dup hx hb dX6_init_8 rfl ?_
  refine ct_callI (wr := [(r0, .inr (6, [.null, .null]))]) (As := []) (rest := [.ref x5, .ref r0]) hx hb hml hown hts hE hA hl.1 hP hD hS (c_X1_init l G x5) (cm_X6_11 hts) ⟨(Nat.le_of_ble_eq_true rfl), (Nat.le_of_ble_eq_true rfl)⟩ ⟨(Nat.le_of_ble_eq_true rfl), (Nat.le_of_ble_eq_true rfl)⟩ rfl [1] [0] rfl rfl ⟨by decide, by decide, by decide⟩ rfl (Nat.le_of_ble_eq_true rfl) dX6_init_9 (fun v9 w9 H locs hpo hP hD hS => ?_)
  obtain ⟨rfl, x9, x9_1, x9_2, x9_3, x9_4, x9_5, x9_6, x9_7, x9_8, x9_9, rfl⟩ := hpo
  have hP := sub_P (wc := [(r0, .inr (6, [.null, .null])), (x5, .inr (1, [.ref x9, .ref x9_1, .ref x9_6])), (x9, .inr (2, [.int 5, .int 5])), (x9_1, .inr (4, [.ref x9_2, .ref x9_3, .ref x9_4, .ref x9_5, .int 0, .int 0])), (x9_2, .inl (kI G, 10, .inl (fun _ => 0))), (x9_3, .inl (kI G, 10, .inl (fun _ => 0))), (x9_4, .inl (kI G, 10, .inl (fun _ => 0))), (x9_5, .inl (kI G, 10, .inl (fun _ => 0))), (x9_6, .inr (0, [.ref x9_7, .ref x9_8, .ref x9_9, .int 0])), (x9_7, .inl (kI G, 5, .inl (fun _ => 0))), (x9_8, .inl (kI G, 5, .inl (fun _ => 0))), (x9_9, .inl (kI G, 5, .inl (fun _ => 0)))]) hP [0, 1, 2, 3, 4, 5, 6, 7, 8, 9, 10, 11] rfl
  have hD := hD.sub (ws' := [(r0, .inr (6, [.null, .null])), (x5, .inr (1, [.ref x9, .ref x9_1, .ref x9_6])), (x9, .inr (2, [.int 5, .int 5])), (x9_1, .inr (4, [.ref x9_2, .ref x9_3, .ref x9_4, .ref x9_5, .int 0, .int 0])), (x9_2, .inl (kI G, 10, .inl (fun _ => 0))), (x9_3, .inl (kI G, 10, .inl (fun _ => 0))), (x9_4, .inl (kI G, 10, .inl (fun _ => 0))), (x9_5, .inl (kI G, 10, .inl (fun _ => 0))), (x9_6, .inr (0, [.ref x9_7, .ref x9_8, .ref x9_9, .int 0])), (x9_7, .inl (kI G, 5, .inl (fun _ => 0))), (x9_8, .inl (kI G, 5, .inl (fun _ => 0))), (x9_9, .inl (kI G, 5, .inl (fun _ => 0)))]) [0, 1, 2, 3, 4, 5, 6, 7, 8, 9, 10, 11] (by decide) rfl
  refine W.widen (k := 11) (n := 70) (Nat.le_of_ble_eq_true rfl) (Nat.le_of_ble_eq_true rfl) ?_
  show WC p l e _ s m _ below meth c G A _ H locs 11 70 (F0 m 12 ls [.ref x5, .ref r0])
  refine va_putF (v := .ref x5) (ty := .object "OnlyWhatIsLost$Country") hx hb hts inlX6 tyX6 tyX6_ok nmX6 hown hE.1 hP hD hS 0 rfl rfl 0 (by decide) (fl_X6_12 hts) (fun _ h9 => h9) rfl hnm rfl (by decide +kernel) rfl rfl (Nat.le_of_ble_eq_true rfl) dX6_init_12 (fun H locs hP hD hS => ?_)
  have hP : va_P G.1 vwCl [(r0, .inr (6, [.ref x5, .null])), (x5, .inr (1, [.ref x9, .ref x9_1, .ref x9_6])), (x9, .inr (2, [.int 5, .int 5])), (x9_1, .inr (4, [.ref x9_2, .ref x9_3, .ref x9_4, .ref x9_5, .int 0, .int 0])), (x9_2, .inl (kI G, 10, .inl (fun _ => 0))), (x9_3, .inl (kI G, 10, .inl (fun _ => 0))), (x9_4, .inl (kI G, 10, .inl (fun _ => 0))), (x9_5, .inl (kI G, 10, .inl (fun _ => 0))), (x9_6, .inr (0, [.ref x9_7, .ref x9_8, .ref x9_9, .int 0])), (x9_7, .inl (kI G, 5, .inl (fun _ => 0))), (x9_8, .inl (kI G, 5, .inl (fun _ => 0))), (x9_9, .inl (kI G, 5, .inl (fun _ => 0)))] H := hP
  have hD : va_D A [(r0, .inr (6, [.ref x5, .null])), (x5, .inr (1, [.ref x9, .ref x9_1, .ref x9_6])), (x9, .inr (2, [.int 5, .int 5])), (x9_1, .inr (4, [.ref x9_2, .ref x9_3, .ref x9_4, .ref x9_5, .int 0, .int 0])), (x9_2, .inl (kI G, 10, .inl (fun _ => 0))), (x9_3, .inl (kI G, 10, .inl (fun _ => 0))), (x9_4, .inl (kI G, 10, .inl (fun _ => 0))), (x9_5, .inl (kI G, 10, .inl (fun _ => 0))), (x9_6, .inr (0, [.ref x9_7, .ref x9_8, .ref x9_9, .int 0])), (x9_7, .inl (kI G, 5, .inl (fun _ => 0))), (x9_8, .inl (kI G, 5, .inl (fun _ => 0))), (x9_9, .inl (kI G, 5, .inl (fun _ => 0)))] := hD
  refine lv_aload_n hx hb dX6_init_15 rfl (lv_at hl 0 rfl) ?_
  refine lv_iconst (v := 4) hx hb dX6_init_16 (by decide) ?_
  refine ct_newI (N := 4) hx hb (ac_int hts) hE hP hD hS hA (by decide) rfl (Nat.le_of_ble_eq_true rfl) (Nat.le_of_ble_eq_true rfl) (Nat.le_of_ble_eq_true rfl) dX6_init_17 (fun x17 H hP hD hS => ?_)
  have hP : va_P G.1 vwCl [(r0, .inr (6, [.ref x5, .null])), (x5, .inr (1, [.ref x9, .ref x9_1, .ref x9_6])), (x9, .inr (2, [.int 5, .int 5])), (x9_1, .inr (4, [.ref x9_2, .ref x9_3, .ref x9_4, .ref x9_5, .int 0, .int 0])), (x9_2, .inl (kI G, 10, .inl (fun _ => 0))), (x9_3, .inl (kI G, 10, .inl (fun _ => 0))), (x9_4, .inl (kI G, 10, .inl (fun _ => 0))), (x9_5, .inl (kI G, 10, .inl (fun _ => 0))), (x9_6, .inr (0, [.ref x9_7, .ref x9_8, .ref x9_9, .int 0])), (x9_7, .inl (kI G, 5, .inl (fun _ => 0))), (x9_8, .inl (kI G, 5, .inl (fun _ => 0))), (x9_9, .inl (kI G, 5, .inl (fun _ => 0))), (x17, .inl (kI G, 4, .inl (fun _ => 0)))] H := hP
  have hD : va_D A [(r0, .inr (6, [.ref x5, .null])), (x5, .inr (1, [.ref x9, .ref x9_1, .ref x9_6])), (x9, .inr (2, [.int 5, .int 5])), (x9_1, .inr (4, [.ref x9_2, .ref x9_3, .ref x9_4, .ref x9_5, .int 0, .int 0])), (x9_2, .inl (kI G, 10, .inl (fun _ => 0))), (x9_3, .inl (kI G, 10, .inl (fun _ => 0))), (x9_4, .inl (kI G, 10, .inl (fun _ => 0))), (x9_5, .inl (kI G, 10, .inl (fun _ => 0))), (x9_6, .inr (0, [.ref x9_7, .ref x9_8, .ref x9_9, .int 0])), (x9_7, .inl (kI G, 5, .inl (fun _ => 0))), (x9_8, .inl (kI G, 5, .inl (fun _ => 0))), (x9_9, .inl (kI G, 5, .inl (fun _ => 0))), (x17, .inl (kI G, 4, .inl (fun _ => 0)))] := hD
  refine W.widen (k := 12) (n := 74) (Nat.le_of_ble_eq_true rfl) (Nat.le_of_ble_eq_true rfl) ?_
  refine va_putF (v := .ref x17) (ty := .array .int) hx hb hts inlX6 tyX6 tyX6_ok nmX6 hown hE.1 hP hD hS 0 rfl rfl 1 (by decide) (fl_X6_18 hts) (fun _ h9 => h9) rfl hnm rfl (by decide +kernel) rfl rfl (Nat.le_of_ble_eq_true rfl) dX6_init_19 (fun H locs hP hD hS => ?_)
  have hP : va_P G.1 vwCl [(r0, .inr (6, [.ref x5, .ref x17])), (x5, .inr (1, [.ref x9, .ref x9_1, .ref x9_6])), (x9, .inr (2, [.int 5, .int 5])), (x9_1, .inr (4, [.ref x9_2, .ref x9_3, .ref x9_4, .ref x9_5, .int 0, .int 0])), (x9_2, .inl (kI G, 10, .inl (fun _ => 0))), (x9_3, .inl (kI G, 10, .inl (fun _ => 0))), (x9_4, .inl (kI G, 10, .inl (fun _ => 0))), (x9_5, .inl (kI G, 10, .inl (fun _ => 0))), (x9_6, .inr (0, [.ref x9_7, .ref x9_8, .ref x9_9, .int 0])), (x9_7, .inl (kI G, 5, .inl (fun _ => 0))), (x9_8, .inl (kI G, 5, .inl (fun _ => 0))), (x9_9, .inl (kI G, 5, .inl (fun _ => 0))), (x17, .inl (kI G, 4, .inl (fun _ => 0)))] H := hP
  have hD : va_D A [(r0, .inr (6, [.ref x5, .ref x17])), (x5, .inr (1, [.ref x9, .ref x9_1, .ref x9_6])), (x9, .inr (2, [.int 5, .int 5])), (x9_1, .inr (4, [.ref x9_2, .ref x9_3, .ref x9_4, .ref x9_5, .int 0, .int 0])), (x9_2, .inl (kI G, 10, .inl (fun _ => 0))), (x9_3, .inl (kI G, 10, .inl (fun _ => 0))), (x9_4, .inl (kI G, 10, .inl (fun _ => 0))), (x9_5, .inl (kI G, 10, .inl (fun _ => 0))), (x9_6, .inr (0, [.ref x9_7, .ref x9_8, .ref x9_9, .int 0])), (x9_7, .inl (kI G, 5, .inl (fun _ => 0))), (x9_8, .inl (kI G, 5, .inl (fun _ => 0))), (x9_9, .inl (kI G, 5, .inl (fun _ => 0))), (x17, .inl (kI G, 4, .inl (fun _ => 0)))] := hD
  refine W.widen (k := 12) (n := 74) (Nat.le_of_ble_eq_true rfl) (Nat.le_of_ble_eq_true rfl) ?_
  exact ct_vret hx hb hr hlk dX6_init_22 hP hD hS (by exact ⟨rfl, _, _, _, _, _, _, _, _, _, _, _, _, rfl⟩)
