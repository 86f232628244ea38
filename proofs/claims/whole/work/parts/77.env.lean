/-! where the law begins: the environment -/
theorem nest_in : ∀ w ∈ nestW, w ∈ lw_tbl := in_by [78, 92, 98, 104, 109, 111, 119, 129, 146, 164, 165, 167, 168, 170, 171, 180, 188, 200, 209, 212, 237, 538, 597, 602, 604, 684, 702, 712, 714] (by decide +kernel)
theorem nest_tab : nestW.all Cond.onTables = true := by decide +kernel
theorem txt_in : ∀ j, j < 72 → (Cond.eq (.elem (.field (.string "OnlyWhatIsLost" 63) "java/lang/String" "value" "[B") (.int (Int32.ofNat j))) (.int (bFL.getD j 0))) ∈ flatC (Jvm.Cond.and given_1 narrow_1) := by decide +kernel
theorem dn_in : ∀ j, j < 4 → (Cond.eq (.elem (.static "OnlyWhatIsLost" "DOWN_BY" "[I") (.int (Int32.ofNat j))) (.int (dnBy j))) ∈ flatC (Jvm.Cond.and given_1 narrow_1) := by decide +kernel
theorem rt_in : ∀ j, j < 4 → (Cond.eq (.elem (.static "OnlyWhatIsLost" "RIGHT_BY" "[I") (.int (Int32.ofNat j))) (.int (rtBy j))) ∈ flatC (Jvm.Cond.and given_1 narrow_1) := by decide +kernel
def clF (L : List ClassId) : Nat → ClassId := fun k => L.getD k 0
def slF (L : List (Nat → Nat)) : Nat → Nat → Nat := fun k => L.getD k (fun _ => 0)
theorem arr_of {args : Array Value} {s : State} {ty : FieldType} (h : (Cond.arrayClass ty).before args s = true) (hp : ∀ C, ty ≠ .object C) : ∃ cA : ClassId, ArrOfT s cA ty ∧ va_RA s cA ty := by
  obtain ⟨cA, kA, comp, h1, h2, h3⟩ := Cond.arrayClass_spec h
  refine ⟨cA, fun n z => ⟨fun k h => (by cases h), kA, h2, comp, h3⟩, ?_⟩
  cases ty with
  | object C => exact absurd rfl (hp C)
  | _ => exact h1
theorem arr_M {args : Array Value} {s : State} {C : String} (h : (Cond.arrayOver (.object C)).before args s = true) : ∃ cA : ClassId, ArrOfT s cA (.object C) ∧ va_RA s cA (.object C) := by
  obtain ⟨comp, cA, kA, h1, h2, h3, h4, h5⟩ := Cond.arrayOver_spec h
  exact ⟨cA, fun n z => ⟨fun k h => (by cases h), kA, h3, comp, h4⟩, kA, comp, h3, h4, h1, h5⟩
theorem ref_of {args : Array Value} {s : State} {tm : Term} (h : (Cond.isRef tm).before args s = true) : tm.eval args s none [] s = some .null ∨ ∃ a : Nat, tm.eval args s none [] s = some (.ref a) := by
  obtain ⟨v, h1, h2⟩ := Cond.isRef_spec h
  cases v with
  | null => exact Or.inl h1
  | ref a => exact Or.inr ⟨a, h1⟩
  | _ => simp [Value.isRef] at h2
theorem tab_of {args : Array Value} {s : State} {C n d : String} {f : Nat → Int32} (hl : (Cond.laysStatic C n d).before args s = true) (hini : (Cond.initialized C).before args s = true) (harr : (Cond.arrayOf (.static C n d) .int).before args s = true) (hlen : (Cond.eq (.length (.static C n d)) (.int 4)).before args s = true) (hel : ∀ j, j < 4 → (Cond.eq (.elem (.static C n d) (.int (Int32.ofNat j))) (.int (f j))).before args s = true) : ∃ t : Nat, va_Z C n d (.ref t) (fun q => s.heap.size ≤ q) s s.heap ∧ va_T .int t 4 (fun j => .int (f j)) (fun q => s.heap.size ≤ q) s s.heap := by
  obtain ⟨t, h1, h2⟩ := va_Tof (N := 4) (f := fun j => .int (f j)) (A := fun q => s.heap.size ≤ q) (by decide) harr (va_eqt hlen) (fun j hj => va_eqt (hel j hj)) (fun a h => Nat.not_le.mpr h)
  exact ⟨t, va_Zof hl hini h1 (fun a h => Nat.not_le.mpr h), h2⟩
set_option maxHeartbeats 4000000 in
set_option maxRecDepth 100000 in
theorem env_start {s : State} {b : Nat} (hts : ∀ w ∈ lw_tbl, w.before #[Value.ref b] s = true) (hgv : (Jvm.Cond.and given_1 narrow_1).before #[Value.ref b] s = true) : ∃ G : Gv, Ev G (fun q => s.heap.size ≤ q) s s.heap ∧ Sv G (fun q => s.heap.size ≤ q) s s.heap ∧ vk_R RX9 63 tFL (G.2.2 2) s := by
  have hw : ∀ w ∈ wsL_law, w.before #[Value.ref b] s = true := fun w h => hts w (iw_all w h)
  have hs := flat_of_before _ hgv
  obtain ⟨cX0, iX0, kX0⟩ := u_known (C := RX0) (T := TX0) (N := 4) (n := 4) hw inlX0 (it_X0 hw)
  obtain ⟨cX1, iX1, kX1⟩ := u_known (C := RX1) (T := TX1) (N := 3) (n := 3) hw inlX1 (it_X1 hw)
  obtain ⟨cX2, iX2, kX2⟩ := u_known (C := RX2) (T := TX2) (N := 2) (n := 2) hw inlX2 (it_X2 hw)
  obtain ⟨cX3, iX3, kX3⟩ := u_known (C := RX3) (T := TX3) (N := 2) (n := 2) hw inlX3 (it_X3 hw)
  obtain ⟨cX4, iX4, kX4⟩ := u_known (C := RX4) (T := TX4) (N := 6) (n := 6) hw inlX4 (it_X4 hw)
  obtain ⟨cX5, iX5, kX5⟩ := u_known (C := RX5) (T := TX5) (N := 6) (n := 6) hw inlX5 (it_X5 hw)
  obtain ⟨cX6, iX6, kX6⟩ := u_known (C := RX6) (T := TX6) (N := 2) (n := 2) hw inlX6 (it_X6 hw)
  obtain ⟨cX7, iX7, kX7⟩ := u_known (C := RX7) (T := TX7) (N := 2) (n := 2) hw inlX7 (it_X7 hw)
  obtain ⟨cX8, iX8, kX8⟩ := u_known (C := RX8) (T := TX8) (N := 4) (n := 4) hw inlX8 (it_X8 hw)
  obtain ⟨cX9, iX9, kX9⟩ := u_known (C := RX9) (T := TX9) (N := 10) (n := 10) hw inlX9 (it_X9 hw)
  obtain ⟨cX10, iX10, kX10⟩ := u_known (C := RX10) (T := TX10) (N := 21) (n := 21) hw inlX10 (it_X10 hw)
  obtain ⟨cI, aI1, aI2⟩ := arr_of (ac_int hw) (fun _ h => by cases h)
  obtain ⟨cC, aC1, aC2⟩ := arr_of (ac_char hw) (fun _ h => by cases h)
  obtain ⟨cB, aB1, aB2⟩ := arr_of (ac_byte hw) (fun _ h => by cases h)
  obtain ⟨cM, aM1, aM2⟩ := arr_M (C := "OnlyWhatIsLost$Moment") (hts (.arrayOver (.object "OnlyWhatIsLost$Moment")) (List.mem_of_getElem? (i := 199) (by decide +kernel)))
  obtain ⟨tD, zD, vD⟩ := tab_of (f := dnBy) (hts (.laysStatic "OnlyWhatIsLost" "DOWN_BY" "[I") (List.mem_of_getElem? (i := 713) (by decide +kernel))) (in_RX9 hw) (hs _ (by decide +kernel)) (hs _ (by decide +kernel)) (fun j hj => hs _ (dn_in j hj))
  obtain ⟨tR, zR, vR⟩ := tab_of (f := rtBy) (hts (.laysStatic "OnlyWhatIsLost" "RIGHT_BY" "[I") (List.mem_of_getElem? (i := 715) (by decide +kernel))) (in_RX9 hw) (hs _ (by decide +kernel)) (hs _ (by decide +kernel)) (fun j hj => hs _ (rt_in j hj))
  obtain ⟨adK, adV, hS, hK⟩ := vk_Sof (s := s) (args := #[Value.ref b]) (N := 1) (tm := fun _ => .string "OnlyWhatIsLost" 63) (len := [72]) (byt := [bFL]) (A := fun q => s.heap.size ≤ q) (fun i hi => by rw [show i = 0 by omega]; decide) (fun i hi => hs _ (by decide +kernel)) (fun i hi => hs _ (by decide +kernel)) (fun i hi => hs _ (by decide +kernel)) (fun i hi => by rw [show i = 0 by omega]; exact hs _ (by decide +kernel)) (fun i hi j hj => by
      rw [show i = 0 by omega] at hj ⊢
      exact hs _ (txt_in j hj)) (fun i j hi hj h => absurd (show i = j by omega) h) (fun a h => Nat.not_le.mpr h)
  have hF := ref_of (tm := .static "jdk/internal/util/Preconditions" "SIOOBE_FORMATTER" "Ljava/util/function/BiFunction;") (hs _ (by decide +kernel))
  have zC := va_Zof (A := fun q => s.heap.size ≤ q) (hts (.laysStatic "java/lang/String" "COMPACT_STRINGS" "Z") (List.mem_of_getElem? (i := 264) (by decide +kernel))) (hts (.initialized "java/lang/String") (List.mem_of_getElem? (i := 61) (by decide +kernel))) (va_eqt (hs (.eq (.static "java/lang/String" "COMPACT_STRINGS" "Z") (.int 1)) (by decide +kernel))) (fun a h => Nat.not_le.mpr h)
  have zF : va_Z "jdk/internal/util/Preconditions" "SIOOBE_FORMATTER" "Ljava/util/function/BiFunction;" .null (fun q => s.heap.size ≤ q) s s.heap ∨ ∃ a : Nat, va_Z "jdk/internal/util/Preconditions" "SIOOBE_FORMATTER" "Ljava/util/function/BiFunction;" (.ref a) (fun q => s.heap.size ≤ q) s s.heap := by
    have hq : ∀ v, (Term.static "jdk/internal/util/Preconditions" "SIOOBE_FORMATTER" "Ljava/util/function/BiFunction;").eval #[Value.ref b] s none [] s = some v → va_Z "jdk/internal/util/Preconditions" "SIOOBE_FORMATTER" "Ljava/util/function/BiFunction;" v (fun q => s.heap.size ≤ q) s s.heap := fun v hv => va_Zof (hts (.laysStatic "jdk/internal/util/Preconditions" "SIOOBE_FORMATTER" "Ljava/util/function/BiFunction;") (List.mem_of_getElem? (i := 280) (by decide +kernel))) (hts (.initialized "jdk/internal/util/Preconditions") (List.mem_of_getElem? (i := 63) (by decide +kernel))) hv (fun a h => Nat.not_le.mpr h)
    rcases hF with h | ⟨a, h⟩
    · exact Or.inl (hq _ h)
    · exact Or.inr ⟨a, hq _ h⟩
  refine ⟨((clF [cX0, cX1, cX2, cX3, cX4, cX5, cX6, cX7, cX8, cX9, cX10], slF [iX0, iX1, iX2, iX3, iX4, iX5, iX6, iX7, iX8, iX9, iX10]), clF [cI, cC, cB, cM], fun k => [tD, tR, adK 0, adV 0].getD k 0), ⟨⟨fun k q hq => ?_, fun k q hq => ?_⟩, fun w h => va_Nw.of (List.all_eq_true.mp nest_tab w h) (hts w (nest_in w h)), va_AO.of (hts (.arrayOver (.object "OnlyWhatIsLost$Moment")) (List.mem_of_getElem? (i := 199) (by decide +kernel))), ⟨zD, vD⟩, ⟨zR, vR⟩⟩, ⟨⟨fun i hi => ?_, fun i j hi hj _ => by omega⟩, zC, zF⟩, vk_R.of (hts (.stringRef "OnlyWhatIsLost" 63 tFL) (List.mem_of_getElem? (i := 254) (by decide +kernel))) (hK 0 (by decide))⟩
  · match k, hq with
    | 0, hq => cases hq; exact kX0
    | 1, hq => cases hq; exact kX1
    | 2, hq => cases hq; exact kX2
    | 3, hq => cases hq; exact kX3
    | 4, hq => cases hq; exact kX4
    | 5, hq => cases hq; exact kX5
    | 6, hq => cases hq; exact kX6
    | 7, hq => cases hq; exact kX7
    | 8, hq => cases hq; exact kX8
    | 9, hq => cases hq; exact kX9
    | 10, hq => cases hq; exact kX10
    | k + 11, hq => simp [vwCl] at hq
  · match k, hq with
    | 0, hq => cases hq; exact ⟨aI1, aI2⟩
    | 1, hq => cases hq; exact ⟨aC1, aC2⟩
    | 2, hq => cases hq; exact ⟨aB1, aB2⟩
    | 3, hq => cases hq; exact ⟨aM1, aM2⟩
    | k + 4, hq => simp [tysG] at hq
  · have h0 := hS.1 0 (by decide)
    rw [show i = 0 by omega]
    exact h0
