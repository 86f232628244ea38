/-! the loop of the law -/
set_option maxHeartbeats 4000000 in
set_option maxRecDepth 100000 in
theorem law_loop {p : Program} {l : Launch} {e : Env} {s : State} {m : MethodId} {below : List Frame} {meth : Method} {c : Code} {b L : Nat} {xs : Nat → Int32} {G : Gv} {ν μ : Nat → Nat} (hC : LC p s m meth c b L xs G (fun q => s.heap.size ≤ q)) (hL : L ≤ 2048) : ∀ (f i : Nat), L < i + f → i ≤ 4000 → ∀ (sc : Int64) (sv : Nat) (tn : Nat) (Sg : Nat → Int32) (nb : Nat → Int32) (er : Nat) (ec : Nat) (eC : Nat → Int32) (eB : Nat → Int32) (eF : Nat → Int32) (eK : Nat → Int32) (en : Nat) (ey : Int32) (eY : Nat → Int32) (eD : Nat → Int32) (eR : Nat → Int32) (eq : Nat) (nr : Nat) (nc : Nat) (C : Nat → Int32) (B : Nat → Int32) (F : Nat → Int32) (K : Nat → Int32) (n : Nat) (y : Int32) (Yr : Nat → Int32) (Dn : Nat → Int32) (Rt : Nat → Int32) (q : Nat) (sn : Nat) (ad : Nat → Nat → Nat) (CC : Nat → Nat → Int32) (BB : Nat → Nat → Int32) (FF : Nat → Nat → Int32) (KK : Nat → Nat → Int32) (NN : Nat → Nat) (YY : Nat → Int32) (zn : Nat) (bd : Nat → Nat → Nat) (DC : Nat → Nat → Int32) (DB : Nat → Nat → Int32) (DF : Nat → Nat → Int32) (DK : Nat → Nat → Int32) (DN : Nat → Nat) (DY : Nat → Int32) (C2 : Nat → Int32) (B2 : Nat → Int32) (F2 : Nat → Int32) (K2 : Nat → Int32) (n2 : Nat) (y2 : Int32) (Pr : Nat → Int32) (Rs : Nat → Int32) (Qu : Nat → Int32) (qd : Int64) (hd : Nat) (wt : Nat) (Sp : Nat → Int32) (Be : Nat → Int32) (ts : Int32) (un : Nat) (tx : Nat → Int32) (ro : Nat → Int32) (co : Nat → Int32) (mp : Nat → Int32) (my : Nat → Int32) (md : Nat → Int32) (mr : Nat → Int32) (dr : Nat → Int32) (nw : Nat → Int32) (tk : Nat → Int32) (cs : Nat → Int32) (sa : Nat → Int32) (go : Nat → Int32) (to : Nat → Int32) (dm : Nat) (at_ : Nat) (so : Bool) (H : Heap) (locs : List Loc) (ls : Array Slot), va_P G.1 vwCl (wX G ν sc sv tn Sg nb er ec eC eB eF eK en ey eY eD eR eq nr nc C B F K n y Yr Dn Rt q sn ad CC BB FF KK NN YY zn bd DC DB DF DK DN DY C2 B2 F2 K2 n2 y2 Pr Rs Qu qd hd wt Sp Be ts un ++ wM G μ tx ro co mp my md mr dr nw tk cs sa go to tn dm at_ so sn zn sv) H → va_D (fun q => s.heap.size ≤ q) (wX G ν sc sv tn Sg nb er ec eC eB eF eK en ey eY eD eR eq nr nc C B F K n y Yr Dn Rt q sn ad CC BB FF KK NN YY zn bd DC DB DF DK DN DY C2 B2 F2 K2 n2 y2 Pr Rs Qu qd hd wt Sp Be ts un ++ wM G μ tx ro co mp my md mr dr nw tk cs sa go to tn dm at_ so sn zn sv) → TeR Sg tn tx tn → GrR nr nc Yr Dn Rt q ro co mp my md mr → MoR nr nc C B F K n y nw 0 → (sn ≤ 8 ∧ sn = sn ∧ ShR nr nc CC BB FF KK NN YY sn nw 42) → (zn ≤ 2 ∧ zn = zn ∧ ShR nr nc DC DB DF DK DN DY zn nw 378) → SeR sc sv sa sv → va_S (fun q => s.heap.size ≤ q) s.heap H locs → lv_has ls 4 [(0, .ref b), (1, .ref (ν 0)), (2, .ref (μ 0)), (3, .int (nI i))] → WL p l e s m below meth c b H locs (F0 m 18 ls []) := by
  intro f
  induction f with
  | zero =>
    intro i hf hi sc sv tn Sg nb er ec eC eB eF eK en ey eY eD eR eq nr nc C B F K n y Yr Dn Rt q sn ad CC BB FF KK NN YY zn bd DC DB DF DK DN DY C2 B2 F2 K2 n2 y2 Pr Rs Qu qd hd wt Sp Be ts un tx ro co mp my md mr dr nw tk cs sa go to dm at_ so H locs ls hP hD hT hG hM hSh hKp hSe hS hl
    obtain ⟨hx, hb, hr, hml, hown, hts, hX, hbl, hlk, hE, hA, hbA⟩ := id hC
    refine lv_iload_n hx hb dL_law_18 rfl (lv_at hl 3 rfl) ?_
    refine lv_aload_n hx hb dL_law_19 rfl (lv_at hl 0 rfl) ?_
    refine va_slen hx hb hX hbl hbA hS dL_law_20 ?_
    refine lv_iconst (v := 4) hx hb dL_law_21 (by decide) ?_
    refine lv_isub hx hb dL_law_22 ?_
    have e0 : (nI L - 4).toInt = (L : Int) - 4 := pk_sub_toInt (b := 4) (by omega) (by decide)
    refine lv_icmp_gt (tgt := 906) hx hb dL_law_23 (by decide) (fun _ => ?_) (fun z => ?_)
    · refine lv_iconst (v := 1) hx hb dL_law_906 (by decide) ?_
      refine va_forget (fun q hq => hS.2.2 q hq) ?_
      refine W.widen (k := 600000) (n := 7302250) (Nat.le_of_ble_eq_true rfl) (Nat.le_of_ble_eq_true rfl) ?_
      exact lw_ret hx hb hr hlk dL_law_907
    · refine absurd (Int32.lt_iff_toInt_lt.mpr ?_) z
      show (nI L - 4).toInt < (nI i).toInt
      rw [e0, nI_toInt (by omega)]
      omega
  | succ f ih =>
    intro i hf hi sc sv tn Sg nb er ec eC eB eF eK en ey eY eD eR eq nr nc C B F K n y Yr Dn Rt q sn ad CC BB FF KK NN YY zn bd DC DB DF DK DN DY C2 B2 F2 K2 n2 y2 Pr Rs Qu qd hd wt Sp Be ts un tx ro co mp my md mr dr nw tk cs sa go to dm at_ so H locs ls hP hD hT hG hM hSh hKp hSe hS hl
    obtain ⟨hx, hb, hr, hml, hown, hts, hX, hbl, hlk, hE, hA, hbA⟩ := id hC
    refine lv_iload_n hx hb dL_law_18 rfl (lv_at hl 3 rfl) ?_
    refine lv_aload_n hx hb dL_law_19 rfl (lv_at hl 0 rfl) ?_
    refine va_slen hx hb hX hbl hbA hS dL_law_20 ?_
    refine lv_iconst (v := 4) hx hb dL_law_21 (by decide) ?_
    refine lv_isub hx hb dL_law_22 ?_
    have e0 : (nI L - 4).toInt = (L : Int) - 4 := pk_sub_toInt (b := 4) (by omega) (by decide)
    refine lv_icmp_gt (tgt := 906) hx hb dL_law_23 (by decide) (fun _ => ?_) (fun z => ?_)
    · refine lv_iconst (v := 1) hx hb dL_law_906 (by decide) ?_
      refine va_forget (fun q hq => hS.2.2 q hq) ?_
      refine W.widen (k := 600000) (n := 7302250) (Nat.le_of_ble_eq_true rfl) (Nat.le_of_ble_eq_true rfl) ?_
      exact lw_ret hx hb hr hlk dL_law_907
    · have hi4 : i + 4 ≤ L := by
        rcases Nat.lt_or_ge L (i + 4) with q | q
        · refine absurd (Int32.lt_iff_toInt_lt.mpr ?_) z
          show (nI L - 4).toInt < (nI i).toInt
          rw [e0, nI_toInt (by omega)]
          omega
        · exact q
      have Kt : Kp p l e s m below meth c b i G ν μ (fun q => s.heap.size ≤ q) := by
        intro sc sv tn Sg nb er ec eC eB eF eK en ey eY eD eR eq nr nc C B F K n y Yr Dn Rt q sn ad CC BB FF KK NN YY zn bd DC DB DF DK DN DY C2 B2 F2 K2 n2 y2 Pr Rs Qu qd hd wt Sp Be ts un tx ro co mp my md mr dr nw tk cs sa go to ty dm at_ so de ke sm H locs ls hP hD hT hG hM hSh hKp hSe hS hl
        have e1 : tn = ty := hT.2.1.symm
        subst e1
        have e2 : sn = de := hSh.2.1.symm
        subst e2
        have e3 : zn = ke := hKp.2.1.symm
        subst e3
        have e4 : sv = sm := hSe.2.1.symm
        subst e4
        refine lv_iinc (v := nI (i + 4)) (lv' := [(3, .int (nI (i + 4))), (0, .ref b), (1, .ref (ν 0)), (2, .ref (μ 0))]) hx hb dL_law_900 hl (k := 3) rfl (nI_add i 4) (by decide) rfl (fun ls hl => ?_)
        refine lv_goto (tgt := 18) hx hb dL_law_903 (by decide) ?_
        exact ih (i + 4) (by omega) (by omega) sc sv tn Sg nb er ec eC eB eF eK en ey eY eD eR eq nr nc C B F K n y Yr Dn Rt q sn ad CC BB FF KK NN YY zn bd DC DB DF DK DN DY C2 B2 F2 K2 n2 y2 Pr Rs Qu qd hd wt Sp Be ts un tx ro co mp my md mr dr nw tk cs sa go to dm at_ so H locs ls hP hD hT hG hM hSh hKp hSe hS (lv_sub hl [1, 2, 3, 0] rfl)
      refine lv_aload_n hx hb dL_law_26 rfl (lv_at hl 0 rfl) ?_
      refine lv_iload_n hx hb dL_law_27 rfl (lv_at hl 3 rfl) ?_
      refine va_sld hx hb hX hbl hbA hS (vp_in_nI (by omega) (by omega)) dL_law_28 ?_
      rw [nI_clamp (show i < 2 ^ 31 by omega)]
      refine lv_bipush (v := 31) hx hb dL_law_29 (by decide) ?_
      refine lv_iand hx hb dL_law_31 ?_
      generalize xs i &&& 31 = z9
      by_cases e0 : z9 = 0
      · refine lv_tableIn (off := 128) (tgt := 160) hx hb dL_law_32 (by rw [e0]; decide) (by rw [e0]; decide) (by rw [e0]; rfl) (by decide) ?_
        exact law_write hC hL hi4 hP hD hT hG hM hSh hKp hSe hS hl Kt
      by_cases e1 : z9 = 1
      · refine lv_tableIn (off := 151) (tgt := 183) hx hb dL_law_32 (by rw [e1]; decide) (by rw [e1]; decide) (by rw [e1]; rfl) (by decide) ?_
        exact law_wipe hC hL hi4 hP hD hT hG hM hSh hKp hSe hS hl Kt
      by_cases e2 : z9 = 2
      · refine lv_tableIn (off := 164) (tgt := 196) hx hb dL_law_32 (by rw [e2]; decide) (by rw [e2]; decide) (by rw [e2]; rfl) (by decide) ?_
        exact law_fault hC hL hi4 hP hD hT hG hM hSh hKp hSe hS hl Kt
      by_cases e3 : z9 = 3
      · refine lv_tableIn (off := 177) (tgt := 209) hx hb dL_law_32 (by rw [e3]; decide) (by rw [e3]; decide) (by rw [e3]; rfl) (by decide) ?_
        exact law_lay hC hL hi4 hP hD hT hG hM hSh hKp hSe hS hl Kt
      by_cases e4 : z9 = 4
      · refine lv_tableIn (off := 190) (tgt := 222) hx hb dL_law_32 (by rw [e4]; decide) (by rw [e4]; decide) (by rw [e4]; rfl) (by decide) ?_
        exact law_thing hC hL hi4 hP hD hT hG hM hSh hKp hSe hS hl Kt
      by_cases e5 : z9 = 5
      · refine lv_tableIn (off := 223) (tgt := 255) hx hb dL_law_32 (by rw [e5]; decide) (by rw [e5]; decide) (by rw [e5]; rfl) (by decide) ?_
        exact law_at hC hL hi4 hP hD hT hG hM hSh hKp hSe hS hl Kt
      by_cases e6 : z9 = 6
      · refine lv_tableIn (off := 246) (tgt := 278) hx hb dL_law_32 (by rw [e6]; decide) (by rw [e6]; decide) (by rw [e6]; rfl) (by decide) ?_
        exact law_free hC hL hi4 hP hD hT hG hM hSh hKp hSe hS hl Kt
      by_cases e7 : z9 = 7
      · refine lv_tableIn (off := 279) (tgt := 311) hx hb dL_law_32 (by rw [e7]; decide) (by rw [e7]; decide) (by rw [e7]; rfl) (by decide) ?_
        exact law_map hC hL hi4 hP hD hT hG hM hSh hKp hSe hS hl Kt
      by_cases e8 : z9 = 8
      · refine lv_tableIn (off := 312) (tgt := 344) hx hb dL_law_32 (by rw [e8]; decide) (by rw [e8]; decide) (by rw [e8]; rfl) (by decide) ?_
        exact law_shows hC hL hi4 hP hD hT hG hM hSh hKp hSe hS hl Kt
      by_cases e9 : z9 = 9
      · refine lv_tableIn (off := 345) (tgt := 377) hx hb dL_law_32 (by rw [e9]; decide) (by rw [e9]; decide) (by rw [e9]; rfl) (by decide) ?_
        exact law_pass hC hL hi4 hP hD hT hG hM hSh hKp hSe hS hl Kt
      by_cases e10 : z9 = 10
      · refine lv_tableIn (off := 368) (tgt := 400) hx hb dL_law_32 (by rw [e10]; decide) (by rw [e10]; decide) (by rw [e10]; rfl) (by decide) ?_
        exact law_burn hC hL hi4 hP hD hT hG hM hSh hKp hSe hS hl Kt
      by_cases e11 : z9 = 11
      · refine lv_tableIn (off := 391) (tgt := 423) hx hb dL_law_32 (by rw [e11]; decide) (by rw [e11]; decide) (by rw [e11]; rfl) (by decide) ?_
        exact law_build hC hL hi4 hP hD hT hG hM hSh hKp hSe hS hl Kt
      by_cases e12 : z9 = 12
      · refine lv_tableIn (off := 414) (tgt := 446) hx hb dL_law_32 (by rw [e12]; decide) (by rw [e12]; decide) (by rw [e12]; rfl) (by decide) ?_
        exact law_undo hC hL hi4 hP hD hT hG hM hSh hKp hSe hS hl Kt
      by_cases e13 : z9 = 13
      · refine lv_tableIn (off := 427) (tgt := 459) hx hb dL_law_32 (by rw [e13]; decide) (by rw [e13]; decide) (by rw [e13]; rfl) (by decide) ?_
        exact law_way hC hL hi4 hP hD hT hG hM hSh hKp hSe hS hl Kt
      by_cases e14 : z9 = 14
      · refine lv_tableIn (off := 460) (tgt := 492) hx hb dL_law_32 (by rw [e14]; decide) (by rw [e14]; decide) (by rw [e14]; rfl) (by decide) ?_
        exact law_sure hC hL hi4 hP hD hT hG hM hSh hKp hSe hS hl Kt
      by_cases e15 : z9 = 15
      · refine lv_tableIn (off := 503) (tgt := 535) hx hb dL_law_32 (by rw [e15]; decide) (by rw [e15]; decide) (by rw [e15]; rfl) (by decide) ?_
        exact law_pull hC hL hi4 hP hD hT hG hM hSh hKp hSe hS hl Kt
      by_cases e16 : z9 = 16
      · refine lv_tableIn (off := 562) (tgt := 594) hx hb dL_law_32 (by rw [e16]; decide) (by rw [e16]; decide) (by rw [e16]; rfl) (by decide) ?_
        exact law_wander hC hL hi4 hP hD hT hG hM hSh hKp hSe hS hl Kt
      by_cases e17 : z9 = 17
      · refine lv_tableIn (off := 605) (tgt := 637) hx hb dL_law_32 (by rw [e17]; decide) (by rw [e17]; decide) (by rw [e17]; rfl) (by decide) ?_
        exact law_wrong hC hL hi4 hP hD hT hG hM hSh hKp hSe hS hl Kt
      by_cases e18 : z9 = 18
      · refine lv_tableIn (off := 638) (tgt := 670) hx hb dL_law_32 (by rw [e18]; decide) (by rw [e18]; decide) (by rw [e18]; rfl) (by decide) ?_
        exact law_older hC hL hi4 hP hD hT hG hM hSh hKp hSe hS hl Kt
      by_cases e19 : z9 = 19
      · refine lv_tableIn (off := 651) (tgt := 683) hx hb dL_law_32 (by rw [e19]; decide) (by rw [e19]; decide) (by rw [e19]; rfl) (by decide) ?_
        exact law_seen hC hL hi4 hP hD hT hG hM hSh hKp hSe hS hl Kt
      by_cases e20 : z9 = 20
      · refine lv_tableIn (off := 674) (tgt := 706) hx hb dL_law_32 (by rw [e20]; decide) (by rw [e20]; decide) (by rw [e20]; rfl) (by decide) ?_
        exact law_forget hC hL hi4 hP hD hT hG hM hSh hKp hSe hS hl Kt
      by_cases e21 : z9 = 21
      · refine lv_tableIn (off := 687) (tgt := 719) hx hb dL_law_32 (by rw [e21]; decide) (by rw [e21]; decide) (by rw [e21]; rfl) (by decide) ?_
        exact law_found hC hL hi4 hP hD hT hG hM hSh hKp hSe hS hl Kt
      by_cases e22 : z9 = 22
      · refine lv_tableIn (off := 710) (tgt := 742) hx hb dL_law_32 (by rw [e22]; decide) (by rw [e22]; decide) (by rw [e22]; rfl) (by decide) ?_
        exact law_round hC hL hi4 hP hD hT hG hM hSh hKp hSe hS hl Kt
      by_cases e23 : z9 = 23
      · refine lv_tableIn (off := 733) (tgt := 765) hx hb dL_law_32 (by rw [e23]; decide) (by rw [e23]; decide) (by rw [e23]; rfl) (by decide) ?_
        exact law_fire hC hL hi4 hP hD hT hG hM hSh hKp hSe hS hl Kt
      by_cases e24 : z9 = 24
      · refine lv_tableIn (off := 776) (tgt := 808) hx hb dL_law_32 (by rw [e24]; decide) (by rw [e24]; decide) (by rw [e24]; rfl) (by decide) ?_
        exact law_land hC hL hi4 hP hD hT hG hM hSh hKp hSe hS hl Kt
      by_cases e25 : z9 = 25
      · refine lv_tableIn (off := 819) (tgt := 851) hx hb dL_law_32 (by rw [e25]; decide) (by rw [e25]; decide) (by rw [e25]; rfl) (by decide) ?_
        exact law_keep hC hL hi4 hP hD hT hG hM hSh hKp hSe hS hl Kt
      by_cases e26 : z9 = 26
      · refine lv_tableIn (off := 832) (tgt := 864) hx hb dL_law_32 (by rw [e26]; decide) (by rw [e26]; decide) (by rw [e26]; rfl) (by decide) ?_
        exact law_back hC hL hi4 hP hD hT hG hM hSh hKp hSe hS hl Kt
      by_cases e27 : z9 = 27
      · refine lv_tableIn (off := 845) (tgt := 877) hx hb dL_law_32 (by rw [e27]; decide) (by rw [e27]; decide) (by rw [e27]; rfl) (by decide) ?_
        exact law_count hC hL hi4 hP hD hT hG hM hSh hKp hSe hS hl Kt
      refine lv_tableOut (tgt := 900) hx hb dL_law_32 (sw_out28 e0 e1 e2 e3 e4 e5 e6 e7 e8 e9 e10 e11 e12 e13 e14 e15 e16 e17 e18 e19 e20 e21 e22 e23 e24 e25 e26 e27) (by decide) ?_
      exact Kt sc sv tn Sg nb er ec eC eB eF eK en ey eY eD eR eq nr nc C B F K n y Yr Dn Rt q sn ad CC BB FF KK NN YY zn bd DC DB DF DK DN DY C2 B2 F2 K2 n2 y2 Pr Rs Qu qd hd wt Sp Be ts un tx ro co mp my md mr dr nw tk cs sa go to tn dm at_ so sn zn sv H locs ls hP hD hT hG hM hSh hKp hSe hS hl
