/-! the last cases -/
set_option maxHeartbeats 4000000 in
set_option maxRecDepth 100000 in
theorem law_found {p : Program} {l : Launch} {e : Env} {s : State} {m : MethodId} {below : List Frame} {meth : Method} {c : Code} {b L i : Nat} {xs : Nat → Int32} {G : Gv} {ν μ : Nat → Nat} {A : Nat → Prop} {H : Heap} {locs : List Loc} {ls : Array Slot} {sc : Int64} {sv : Nat} {tn : Nat} {Sg : Nat → Int32} {nb : Nat → Int32} {er : Nat} {ec : Nat} {eC : Nat → Int32} {eB : Nat → Int32} {eF : Nat → Int32} {eK : Nat → Int32} {en : Nat} {ey : Int32} {eY : Nat → Int32} {eD : Nat → Int32} {eR : Nat → Int32} {eq : Nat} {nr : Nat} {nc : Nat} {C : Nat → Int32} {B : Nat → Int32} {F : Nat → Int32} {K : Nat → Int32} {n : Nat} {y : Int32} {Yr : Nat → Int32} {Dn : Nat → Int32} {Rt : Nat → Int32} {q : Nat} {sn : Nat} {ad : Nat → Nat → Nat} {CC : Nat → Nat → Int32} {BB : Nat → Nat → Int32} {FF : Nat → Nat → Int32} {KK : Nat → Nat → Int32} {NN : Nat → Nat} {YY : Nat → Int32} {zn : Nat} {bd : Nat → Nat → Nat} {DC : Nat → Nat → Int32} {DB : Nat → Nat → Int32} {DF : Nat → Nat → Int32} {DK : Nat → Nat → Int32} {DN : Nat → Nat} {DY : Nat → Int32} {C2 : Nat → Int32} {B2 : Nat → Int32} {F2 : Nat → Int32} {K2 : Nat → Int32} {n2 : Nat} {y2 : Int32} {Pr : Nat → Int32} {Rs : Nat → Int32} {Qu : Nat → Int32} {qd : Int64} {hd : Nat} {wt : Nat} {Sp : Nat → Int32} {Be : Nat → Int32} {ts : Int32} {un : Nat} {tx : Nat → Int32} {ro : Nat → Int32} {co : Nat → Int32} {mp : Nat → Int32} {my : Nat → Int32} {md : Nat → Int32} {mr : Nat → Int32} {dr : Nat → Int32} {nw : Nat → Int32} {tk : Nat → Int32} {cs : Nat → Int32} {sa : Nat → Int32} {go : Nat → Int32} {to : Nat → Int32} {dm : Nat} {at_ : Nat} {so : Bool} (hC : LC p s m meth c b L xs G A) (hL : L ≤ 2048) (hi : i + 4 ≤ L) (hP : va_P G.1 vwCl (wX G ν sc sv tn Sg nb er ec eC eB eF eK en ey eY eD eR eq nr nc C B F K n y Yr Dn Rt q sn ad CC BB FF KK NN YY zn bd DC DB DF DK DN DY C2 B2 F2 K2 n2 y2 Pr Rs Qu qd hd wt Sp Be ts un ++ wM G μ tx ro co mp my md mr dr nw tk cs sa go to tn dm at_ so sn zn sv) H) (hD : va_D A (wX G ν sc sv tn Sg nb er ec eC eB eF eK en ey eY eD eR eq nr nc C B F K n y Yr Dn Rt q sn ad CC BB FF KK NN YY zn bd DC DB DF DK DN DY C2 B2 F2 K2 n2 y2 Pr Rs Qu qd hd wt Sp Be ts un ++ wM G μ tx ro co mp my md mr dr nw tk cs sa go to tn dm at_ so sn zn sv)) (hT : TeR Sg tn tx tn) (hG : GrR nr nc Yr Dn Rt q ro co mp my md mr) (hM : MoR nr nc C B F K n y nw 0) (hSh : sn ≤ 8 ∧ sn = sn ∧ ShR nr nc CC BB FF KK NN YY sn nw 42) (hKp : zn ≤ 2 ∧ zn = zn ∧ ShR nr nc DC DB DF DK DN DY zn nw 378) (hSe : SeR sc sv sa sv) (hS : va_S A s.heap H locs) (hl : lv_has ls 4 [(0, .ref b), (1, .ref (ν 0)), (2, .ref (μ 0)), (3, .int (nI i))]) (Kt : Kp p l e s m below meth c b i G ν μ A) : WL p l e s m below meth c b H locs (F0 m 719 ls []) := by
  obtain ⟨hx, hb, hr, hml, hown, hts, hX, hbl, hlk, hE, hA, hbA⟩ := hC
  have ht : tn ≤ 200 := hT.1
  have hnar := hT.2.2.2
  have hsn : sn ≤ 8 := hSh.1
  have hzn : zn ≤ 2 := hKp.1
  have hsv : sv ≤ 12 := hSe.1
  obtain ⟨hg1, hg2, hro, hco, hmp, hq, hvc, hsc⟩ := id hG
  obtain ⟨⟨hn0, hn⟩, hn1, hy0, ⟨yv, hyv2, hyv⟩, hv, hvf, hsm⟩ := id hM
  have hcl := cells_le hg1 hg2
  have hyw : y.toInt < 1000 := by rw [hyv, nI_toInt (by omega)]; omega
  obtain ⟨w, ew⟩ : ∃ v, xs (i + 1) = v := ⟨_, rfl⟩
  subst hyv
  have hfd := (found_same hg1 hg2 hv hsm sc (yv + 1) (by omega)).1
  by_cases h3 : inn w 0 1 = true
  · refine lv_aload_n hx hb dL_law_719 rfl (lv_at hl 1 rfl) ?_
    refine lv_aload_n hx hb dL_law_720 rfl (lv_at hl 0 rfl) ?_
    refine lv_iload_n hx hb dL_law_721 rfl (lv_at hl 3 rfl) ?_
    refine lv_iconst (v := 1) hx hb dL_law_722 (by decide) ?_
    refine lv_iadd hx hb dL_law_723 ?_
    rw [show nI i + (1 : Int32) = nI (i + 1) from nI_add i 1]
    refine va_sld hx hb hX hbl hbA hS (vp_in_nI (by omega) (by omega)) dL_law_724 ?_
    rw [nI_clamp (show i + 1 < 2 ^ 31 by omega), ew]
    refine rd_callL (As := [.int w]) (rest := []) (wX_len _ _ _ _ _ _ _ _ _ _ _ _ _ _ _ _ _ _ _ _ _ _ _ _ _ _ _ _ _ _ _ _ _ _ _ _ _ _ _ _ _ _ _ _ _ _ _ _ _ _ _ _ _ _ _ _ _ _ _ _ _ _ _ ) hx hb hml hown hts hE hl.1 hP hS (f_X9_found l G ν _ _ _ _ _ _ _ _ _ _ _ _ _ _ _ _ _ _ _ _ _ _ _ _ _ _ _ _ _ _ _ _ _ _ _ _ _ _ _ _ _ _ _ _ _ _ _ _ _ _ _ _ _ _ _ _ _ _ _ _ _ _ hg1 hg2 hn hq hyv2) (cw_L_102 hts) ⟨(Nat.le_of_ble_eq_true rfl), (Nat.le_of_ble_eq_true rfl)⟩ ⟨(Nat.le_of_ble_eq_true rfl), (Nat.le_of_ble_eq_true rfl)⟩ rfl rfl rfl rfl rfl (Nat.le_of_ble_eq_true rfl) dL_law_725 ?_
    refine lv_aload_n hx hb dL_law_728 rfl (lv_at hl 2 rfl) ?_
    refine lv_aload_n hx hb dL_law_729 rfl (lv_at hl 0 rfl) ?_
    refine lv_iload_n hx hb dL_law_730 rfl (lv_at hl 3 rfl) ?_
    refine lv_iconst (v := 1) hx hb dL_law_731 (by decide) ?_
    refine lv_iadd hx hb dL_law_732 ?_
    rw [show nI i + (1 : Int32) = nI (i + 1) from nI_add i 1]
    refine va_sld hx hb hX hbl hbA hS (vp_in_nI (by omega) (by omega)) dL_law_733 ?_
    rw [nI_clamp (show i + 1 < 2 ^ 31 by omega), ew]
    refine rd_callR (As := [.int w]) (rest := [.int (if zo w then (if w = 0 then (fdA nr nc C F K n sc (yv + 1)).1 else (fdA nr nc C F K n sc (yv + 1)).2) else -1)]) (wX_len _ _ _ _ _ _ _ _ _ _ _ _ _ _ _ _ _ _ _ _ _ _ _ _ _ _ _ _ _ _ _ _ _ _ _ _ _ _ _ _ _ _ _ _ _ _ _ _ _ _ _ _ _ _ _ _ _ _ _ _ _ _ _ ) (wM_len _ _ _ _ _ _ _ _ _ _ _ _ _ _ _ _ _ _ _ _ _ _ _ ) hx hb hml hown hts hE hl.1 hP hS (c_X10_found_y l G _ _ _ _ _ _ _ _ _ _ _ _ _ _ _ _ _ _ _ _ _ _ _ _ _ _ _ _ _ _ _ _ _ _ _ _ _ _ _ _ _ _ hro hco hg1 hg2 hn1 hn hmp hq h3 hsv hy0 hyv2) (cw_L_105 hts) ⟨(Nat.le_of_ble_eq_true rfl), (Nat.le_of_ble_eq_true rfl)⟩ ⟨(Nat.le_of_ble_eq_true rfl), (Nat.le_of_ble_eq_true rfl)⟩ rfl rfl rfl rfl rfl (Nat.le_of_ble_eq_true rfl) dL_law_734 ?_
    show WL p l e s m below meth c b H locs (F0 m 737 ls [.int (if w = 0 then (fdM nr nc nw n (snM sa sv) (25 * yv + 25)).1 else (fdM nr nc nw n (snM sa sv) (25 * yv + 25)).2), .int (if zo w then (if w = 0 then (fdA nr nc C F K n sc (yv + 1)).1 else (fdA nr nc C F K n sc (yv + 1)).2) else -1)])
    refine lv_icmp_eq (tgt := 900) hx hb dL_law_737 (by decide) (fun _ => ?_) (fun z => absurd (by rw [zo_inn, h3, if_pos rfl, ← hSe.2.2, show 25 * yv + 25 = 25 * (yv + 1) by omega, hfd]) z)
    exact Kt sc sv tn Sg nb er ec eC eB eF eK en ey eY eD eR eq nr nc C B F K n (nI yv) Yr Dn Rt q sn ad CC BB FF KK NN YY zn bd DC DB DF DK DN DY C2 B2 F2 K2 n2 y2 Pr Rs Qu qd hd wt Sp Be ts un tx ro co mp my md mr dr nw tk cs sa go to tn dm at_ so sn zn sv _ _ _ hP hD (hT) (hG) (hM) (hSh) (hKp) (hSe) hS hl
  · refine lv_aload_n hx hb dL_law_719 rfl (lv_at hl 1 rfl) ?_
    refine lv_aload_n hx hb dL_law_720 rfl (lv_at hl 0 rfl) ?_
    refine lv_iload_n hx hb dL_law_721 rfl (lv_at hl 3 rfl) ?_
    refine lv_iconst (v := 1) hx hb dL_law_722 (by decide) ?_
    refine lv_iadd hx hb dL_law_723 ?_
    rw [show nI i + (1 : Int32) = nI (i + 1) from nI_add i 1]
    refine va_sld hx hb hX hbl hbA hS (vp_in_nI (by omega) (by omega)) dL_law_724 ?_
    rw [nI_clamp (show i + 1 < 2 ^ 31 by omega), ew]
    refine rd_callL (As := [.int w]) (rest := []) (wX_len _ _ _ _ _ _ _ _ _ _ _ _ _ _ _ _ _ _ _ _ _ _ _ _ _ _ _ _ _ _ _ _ _ _ _ _ _ _ _ _ _ _ _ _ _ _ _ _ _ _ _ _ _ _ _ _ _ _ _ _ _ _ _ ) hx hb hml hown hts hE hl.1 hP hS (f_X9_found l G ν _ _ _ _ _ _ _ _ _ _ _ _ _ _ _ _ _ _ _ _ _ _ _ _ _ _ _ _ _ _ _ _ _ _ _ _ _ _ _ _ _ _ _ _ _ _ _ _ _ _ _ _ _ _ _ _ _ _ _ _ _ _ hg1 hg2 hn hq hyv2) (cw_L_102 hts) ⟨(Nat.le_of_ble_eq_true rfl), (Nat.le_of_ble_eq_true rfl)⟩ ⟨(Nat.le_of_ble_eq_true rfl), (Nat.le_of_ble_eq_true rfl)⟩ rfl rfl rfl rfl rfl (Nat.le_of_ble_eq_true rfl) dL_law_725 ?_
    refine lv_aload_n hx hb dL_law_728 rfl (lv_at hl 2 rfl) ?_
    refine lv_aload_n hx hb dL_law_729 rfl (lv_at hl 0 rfl) ?_
    refine lv_iload_n hx hb dL_law_730 rfl (lv_at hl 3 rfl) ?_
    refine lv_iconst (v := 1) hx hb dL_law_731 (by decide) ?_
    refine lv_iadd hx hb dL_law_732 ?_
    rw [show nI i + (1 : Int32) = nI (i + 1) from nI_add i 1]
    refine va_sld hx hb hX hbl hbA hS (vp_in_nI (by omega) (by omega)) dL_law_733 ?_
    rw [nI_clamp (show i + 1 < 2 ^ 31 by omega), ew]
    refine rd_callR (As := [.int w]) (rest := [.int (if zo w then (if w = 0 then (fdA nr nc C F K n sc (yv + 1)).1 else (fdA nr nc C F K n sc (yv + 1)).2) else -1)]) (wX_len _ _ _ _ _ _ _ _ _ _ _ _ _ _ _ _ _ _ _ _ _ _ _ _ _ _ _ _ _ _ _ _ _ _ _ _ _ _ _ _ _ _ _ _ _ _ _ _ _ _ _ _ _ _ _ _ _ _ _ _ _ _ _ ) (wM_len _ _ _ _ _ _ _ _ _ _ _ _ _ _ _ _ _ _ _ _ _ _ _ ) hx hb hml hown hts hE hl.1 hP hS (c_X10_found_n l G _ _ _ _ _ _ _ _ _ _ _ _ _ _ _ _ _ _ _ _ _ _ _ _ _ _ _ _ _ _ _ _ _ _ _ _ _ (by simpa using h3)) (cw_L_105 hts) ⟨(Nat.le_of_ble_eq_true rfl), (Nat.le_of_ble_eq_true rfl)⟩ ⟨(Nat.le_of_ble_eq_true rfl), (Nat.le_of_ble_eq_true rfl)⟩ rfl rfl rfl rfl rfl (Nat.le_of_ble_eq_true rfl) dL_law_734 ?_
    show WL p l e s m below meth c b H locs (F0 m 737 ls [.int (-1), .int (if zo w then (if w = 0 then (fdA nr nc C F K n sc (yv + 1)).1 else (fdA nr nc C F K n sc (yv + 1)).2) else -1)])
    refine lv_icmp_eq (tgt := 900) hx hb dL_law_737 (by decide) (fun _ => ?_) (fun z => absurd (by rw [zo_inn, show inn w 0 1 = false by simpa using h3]; rfl) z)
    exact Kt sc sv tn Sg nb er ec eC eB eF eK en ey eY eD eR eq nr nc C B F K n (nI yv) Yr Dn Rt q sn ad CC BB FF KK NN YY zn bd DC DB DF DK DN DY C2 B2 F2 K2 n2 y2 Pr Rs Qu qd hd wt Sp Be ts un tx ro co mp my md mr dr nw tk cs sa go to tn dm at_ so sn zn sv _ _ _ hP hD (hT) (hG) (hM) (hSh) (hKp) (hSe) hS hl

set_option maxHeartbeats 4000000 in
set_option maxRecDepth 100000 in
theorem law_round {p : Program} {l : Launch} {e : Env} {s : State} {m : MethodId} {below : List Frame} {meth : Method} {c : Code} {b L i : Nat} {xs : Nat → Int32} {G : Gv} {ν μ : Nat → Nat} {A : Nat → Prop} {H : Heap} {locs : List Loc} {ls : Array Slot} {sc : Int64} {sv : Nat} {tn : Nat} {Sg : Nat → Int32} {nb : Nat → Int32} {er : Nat} {ec : Nat} {eC : Nat → Int32} {eB : Nat → Int32} {eF : Nat → Int32} {eK : Nat → Int32} {en : Nat} {ey : Int32} {eY : Nat → Int32} {eD : Nat → Int32} {eR : Nat → Int32} {eq : Nat} {nr : Nat} {nc : Nat} {C : Nat → Int32} {B : Nat → Int32} {F : Nat → Int32} {K : Nat → Int32} {n : Nat} {y : Int32} {Yr : Nat → Int32} {Dn : Nat → Int32} {Rt : Nat → Int32} {q : Nat} {sn : Nat} {ad : Nat → Nat → Nat} {CC : Nat → Nat → Int32} {BB : Nat → Nat → Int32} {FF : Nat → Nat → Int32} {KK : Nat → Nat → Int32} {NN : Nat → Nat} {YY : Nat → Int32} {zn : Nat} {bd : Nat → Nat → Nat} {DC : Nat → Nat → Int32} {DB : Nat → Nat → Int32} {DF : Nat → Nat → Int32} {DK : Nat → Nat → Int32} {DN : Nat → Nat} {DY : Nat → Int32} {C2 : Nat → Int32} {B2 : Nat → Int32} {F2 : Nat → Int32} {K2 : Nat → Int32} {n2 : Nat} {y2 : Int32} {Pr : Nat → Int32} {Rs : Nat → Int32} {Qu : Nat → Int32} {qd : Int64} {hd : Nat} {wt : Nat} {Sp : Nat → Int32} {Be : Nat → Int32} {ts : Int32} {un : Nat} {tx : Nat → Int32} {ro : Nat → Int32} {co : Nat → Int32} {mp : Nat → Int32} {my : Nat → Int32} {md : Nat → Int32} {mr : Nat → Int32} {dr : Nat → Int32} {nw : Nat → Int32} {tk : Nat → Int32} {cs : Nat → Int32} {sa : Nat → Int32} {go : Nat → Int32} {to : Nat → Int32} {dm : Nat} {at_ : Nat} {so : Bool} (hC : LC p s m meth c b L xs G A) (hL : L ≤ 2048) (hi : i + 4 ≤ L) (hP : va_P G.1 vwCl (wX G ν sc sv tn Sg nb er ec eC eB eF eK en ey eY eD eR eq nr nc C B F K n y Yr Dn Rt q sn ad CC BB FF KK NN YY zn bd DC DB DF DK DN DY C2 B2 F2 K2 n2 y2 Pr Rs Qu qd hd wt Sp Be ts un ++ wM G μ tx ro co mp my md mr dr nw tk cs sa go to tn dm at_ so sn zn sv) H) (hD : va_D A (wX G ν sc sv tn Sg nb er ec eC eB eF eK en ey eY eD eR eq nr nc C B F K n y Yr Dn Rt q sn ad CC BB FF KK NN YY zn bd DC DB DF DK DN DY C2 B2 F2 K2 n2 y2 Pr Rs Qu qd hd wt Sp Be ts un ++ wM G μ tx ro co mp my md mr dr nw tk cs sa go to tn dm at_ so sn zn sv)) (hT : TeR Sg tn tx tn) (hG : GrR nr nc Yr Dn Rt q ro co mp my md mr) (hM : MoR nr nc C B F K n y nw 0) (hSh : sn ≤ 8 ∧ sn = sn ∧ ShR nr nc CC BB FF KK NN YY sn nw 42) (hKp : zn ≤ 2 ∧ zn = zn ∧ ShR nr nc DC DB DF DK DN DY zn nw 378) (hSe : SeR sc sv sa sv) (hS : va_S A s.heap H locs) (hl : lv_has ls 4 [(0, .ref b), (1, .ref (ν 0)), (2, .ref (μ 0)), (3, .int (nI i))]) (Kt : Kp p l e s m below meth c b i G ν μ A) : WL p l e s m below meth c b H locs (F0 m 742 ls []) := by
  obtain ⟨hx, hb, hr, hml, hown, hts, hX, hbl, hlk, hE, hA, hbA⟩ := hC
  have ht : tn ≤ 200 := hT.1
  have hnar := hT.2.2.2
  have hsn : sn ≤ 8 := hSh.1
  have hzn : zn ≤ 2 := hKp.1
  have hsv : sv ≤ 12 := hSe.1
  obtain ⟨hg1, hg2, hro, hco, hmp, hq, hvc, hsc⟩ := id hG
  obtain ⟨⟨hn0, hn⟩, hn1, hy0, ⟨yv, hyv2, hyv⟩, hv, hvf, hsm⟩ := id hM
  have hcl := cells_le hg1 hg2
  have hyw : y.toInt < 1000 := by rw [hyv, nI_toInt (by omega)]; omega
  obtain ⟨x, ex⟩ : ∃ v, xs (i + 1) = v := ⟨_, rfl⟩
  by_cases h3 : inG nr nc x = true
  · obtain ⟨xc, hxc, e3⟩ := inB_nat h3 (by omega)
    subst e3
    refine lv_aload_n hx hb dL_law_742 rfl (lv_at hl 1 rfl) ?_
    refine lv_aload_n hx hb dL_law_743 rfl (lv_at hl 0 rfl) ?_
    refine lv_iload_n hx hb dL_law_744 rfl (lv_at hl 3 rfl) ?_
    refine lv_iconst (v := 1) hx hb dL_law_745 (by decide) ?_
    refine lv_iadd hx hb dL_law_746 ?_
    rw [show nI i + (1 : Int32) = nI (i + 1) from nI_add i 1]
    refine va_sld hx hb hX hbl hbA hS (vp_in_nI (by omega) (by omega)) dL_law_747 ?_
    rw [nI_clamp (show i + 1 < 2 ^ 31 by omega), ex]
    refine ct_callL (As := [.int (nI xc)]) (rest := []) (wX_len _ _ _ _ _ _ _ _ _ _ _ _ _ _ _ _ _ _ _ _ _ _ _ _ _ _ _ _ _ _ _ _ _ _ _ _ _ _ _ _ _ _ _ _ _ _ _ _ _ _ _ _ _ _ _ _ _ _ _ _ _ _ _ ) (wM_len _ _ _ _ _ _ _ _ _ _ _ _ _ _ _ _ _ _ _ _ _ _ _ ) hx hb hml hown hts hE hA hl.1 hP hD hS (f_X9_round_y l G ν _ _ _ _ _ _ _ _ _ _ _ _ _ _ _ _ _ _ _ _ _ _ _ _ _ _ _ _ _ _ _ _ _ _ _ _ _ _ _ _ _ _ _ _ _ _ _ _ _ _ _ _ _ _ _ _ _ _ _ _ _ _ hg1 hg2 hn hq h3) (cw_L_106 hts) ⟨(Nat.le_of_ble_eq_true rfl), (Nat.le_of_ble_eq_true rfl)⟩ ⟨(Nat.le_of_ble_eq_true rfl), (Nat.le_of_ble_eq_true rfl)⟩ rfl rfl rfl rfl rfl (Nat.le_of_ble_eq_true rfl) dL_law_748 (fun v9 w9 H locs hpo hP hD hS => ?_)
    obtain ⟨rfl, Sp9x, Be9x, un9x, rfl⟩ := hpo
    have hP : va_P G.1 vwCl (wX G ν sc sv tn Sg nb er ec eC eB eF eK en ey eY eD eR eq nr nc C B F K n y Yr Dn Rt q sn ad CC BB FF KK NN YY zn bd DC DB DF DK DN DY C2 B2 F2 K2 n2 y2 Pr Rs Qu qd hd wt Sp9x Be9x (nI xc) un9x ++ wM G μ tx ro co mp my md mr dr nw tk cs sa go to tn dm at_ so sn zn sv) H := swap_P hP
    have hD : va_D A (wX G ν sc sv tn Sg nb er ec eC eB eF eK en ey eY eD eR eq nr nc C B F K n y Yr Dn Rt q sn ad CC BB FF KK NN YY zn bd DC DB DF DK DN DY C2 B2 F2 K2 n2 y2 Pr Rs Qu qd hd wt Sp9x Be9x (nI xc) un9x ++ wM G μ tx ro co mp my md mr dr nw tk cs sa go to tn dm at_ so sn zn sv) := swap_D (n := 15) (k := 93) rfl rfl nd15 nd93 hD
    show WL p l e s m below meth c b H locs (F0 m 751 ls [.int (rdR nc C F n y Sp Be (nI xc))])
    refine lv_aload_n hx hb dL_law_751 rfl (lv_at hl 2 rfl) ?_
    refine lv_aload_n hx hb dL_law_752 rfl (lv_at hl 0 rfl) ?_
    refine lv_iload_n hx hb dL_law_753 rfl (lv_at hl 3 rfl) ?_
    refine lv_iconst (v := 1) hx hb dL_law_754 (by decide) ?_
    refine lv_iadd hx hb dL_law_755 ?_
    rw [show nI i + (1 : Int32) = nI (i + 1) from nI_add i 1]
    refine va_sld hx hb hX hbl hbA hS (vp_in_nI (by omega) (by omega)) dL_law_756 ?_
    rw [nI_clamp (show i + 1 < 2 ^ 31 by omega), ex]
    refine ct_callR (As := [.int (nI xc)]) (rest := [.int (rdR nc C F n y Sp Be (nI xc))]) (wX_len _ _ _ _ _ _ _ _ _ _ _ _ _ _ _ _ _ _ _ _ _ _ _ _ _ _ _ _ _ _ _ _ _ _ _ _ _ _ _ _ _ _ _ _ _ _ _ _ _ _ _ _ _ _ _ _ _ _ _ _ _ _ _ ) (wM_len _ _ _ _ _ _ _ _ _ _ _ _ _ _ _ _ _ _ _ _ _ _ _ ) hx hb hml hown hts hE hA hl.1 hP hD hS (c_X10_round_y l G _ _ _ _ _ _ _ _ _ _ _ _ _ _ _ _ _ _ _ _ _ _ _ _ _ _ _ _ _ _ _ _ _ _ _ _ _ _ _ _ hro hco hg1 hg2 hn1 hn h3) (cw_L_109 hts) ⟨(Nat.le_of_ble_eq_true rfl), (Nat.le_of_ble_eq_true rfl)⟩ ⟨(Nat.le_of_ble_eq_true rfl), (Nat.le_of_ble_eq_true rfl)⟩ rfl rfl rfl rfl rfl (Nat.le_of_ble_eq_true rfl) dL_law_757 (fun v9 w9 H locs hpo hP hD hS => ?_)
    obtain ⟨rfl, go9m, to9m, rfl⟩ := hpo
    have hP : va_P G.1 vwCl (wX G ν sc sv tn Sg nb er ec eC eB eF eK en ey eY eD eR eq nr nc C B F K n y Yr Dn Rt q sn ad CC BB FF KK NN YY zn bd DC DB DF DK DN DY C2 B2 F2 K2 n2 y2 Pr Rs Qu qd hd wt Sp9x Be9x (nI xc) un9x ++ wM G μ tx ro co mp my md mr dr nw tk cs sa go9m to9m tn dm at_ so sn zn sv) H := hP
    have hD : va_D A (wX G ν sc sv tn Sg nb er ec eC eB eF eK en ey eY eD eR eq nr nc C B F K n y Yr Dn Rt q sn ad CC BB FF KK NN YY zn bd DC DB DF DK DN DY C2 B2 F2 K2 n2 y2 Pr Rs Qu qd hd wt Sp9x Be9x (nI xc) un9x ++ wM G μ tx ro co mp my md mr dr nw tk cs sa go9m to9m tn dm at_ so sn zn sv) := hD
    show WL p l e s m below meth c b H locs (F0 m 760 ls [.int (roR nc (cel nw 0) (fal nw 0) n (nw 0) go to (nI xc)), .int (rdR nc C F n y Sp Be (nI xc))])
    refine lv_icmp_eq (tgt := 900) hx hb dL_law_760 (by decide) (fun _ => ?_) (fun z => absurd (by rw [hy0]; exact (round_same hg1 hg2 hv hsm hyw _ _ _ _ hxc).symm) z)
    exact Kt sc sv tn Sg nb er ec eC eB eF eK en ey eY eD eR eq nr nc C B F K n y Yr Dn Rt q sn ad CC BB FF KK NN YY zn bd DC DB DF DK DN DY C2 B2 F2 K2 n2 y2 Pr Rs Qu qd hd wt Sp9x Be9x (nI xc) un9x tx ro co mp my md mr dr nw tk cs sa go9m to9m tn dm at_ so sn zn sv _ _ _ hP hD (hT) (hG) (hM) (hSh) (hKp) (hSe) hS hl
  · refine lv_aload_n hx hb dL_law_742 rfl (lv_at hl 1 rfl) ?_
    refine lv_aload_n hx hb dL_law_743 rfl (lv_at hl 0 rfl) ?_
    refine lv_iload_n hx hb dL_law_744 rfl (lv_at hl 3 rfl) ?_
    refine lv_iconst (v := 1) hx hb dL_law_745 (by decide) ?_
    refine lv_iadd hx hb dL_law_746 ?_
    rw [show nI i + (1 : Int32) = nI (i + 1) from nI_add i 1]
    refine va_sld hx hb hX hbl hbA hS (vp_in_nI (by omega) (by omega)) dL_law_747 ?_
    rw [nI_clamp (show i + 1 < 2 ^ 31 by omega), ex]
    refine rd_callL (As := [.int x]) (rest := []) (wX_len _ _ _ _ _ _ _ _ _ _ _ _ _ _ _ _ _ _ _ _ _ _ _ _ _ _ _ _ _ _ _ _ _ _ _ _ _ _ _ _ _ _ _ _ _ _ _ _ _ _ _ _ _ _ _ _ _ _ _ _ _ _ _ ) hx hb hml hown hts hE hl.1 hP hS (f_X9_round_n l G ν _ _ _ _ _ _ _ _ _ _ _ _ _ _ _ _ _ _ _ _ _ _ _ _ _ _ _ _ _ _ _ _ _ _ _ _ _ _ _ _ _ _ _ _ _ _ _ _ _ _ _ _ _ _ _ _ _ _ _ _ _ _ hg1 hg2 hn hq (by simpa using h3)) (cw_L_106 hts) ⟨(Nat.le_of_ble_eq_true rfl), (Nat.le_of_ble_eq_true rfl)⟩ ⟨(Nat.le_of_ble_eq_true rfl), (Nat.le_of_ble_eq_true rfl)⟩ rfl rfl rfl rfl rfl (Nat.le_of_ble_eq_true rfl) dL_law_748 ?_
    refine lv_aload_n hx hb dL_law_751 rfl (lv_at hl 2 rfl) ?_
    refine lv_aload_n hx hb dL_law_752 rfl (lv_at hl 0 rfl) ?_
    refine lv_iload_n hx hb dL_law_753 rfl (lv_at hl 3 rfl) ?_
    refine lv_iconst (v := 1) hx hb dL_law_754 (by decide) ?_
    refine lv_iadd hx hb dL_law_755 ?_
    rw [show nI i + (1 : Int32) = nI (i + 1) from nI_add i 1]
    refine va_sld hx hb hX hbl hbA hS (vp_in_nI (by omega) (by omega)) dL_law_756 ?_
    rw [nI_clamp (show i + 1 < 2 ^ 31 by omega), ex]
    refine rd_callR (As := [.int x]) (rest := [.int (-1)]) (wX_len _ _ _ _ _ _ _ _ _ _ _ _ _ _ _ _ _ _ _ _ _ _ _ _ _ _ _ _ _ _ _ _ _ _ _ _ _ _ _ _ _ _ _ _ _ _ _ _ _ _ _ _ _ _ _ _ _ _ _ _ _ _ _ ) (wM_len _ _ _ _ _ _ _ _ _ _ _ _ _ _ _ _ _ _ _ _ _ _ _ ) hx hb hml hown hts hE hl.1 hP hS (c_X10_round_n l G _ _ _ _ _ _ _ _ _ _ _ _ _ _ _ _ _ _ _ _ _ _ _ _ _ _ _ _ _ _ _ _ _ _ _ _ _ _ _ _ hro hco hg1 hg2 hn1 hn (by simpa using h3)) (cw_L_109 hts) ⟨(Nat.le_of_ble_eq_true rfl), (Nat.le_of_ble_eq_true rfl)⟩ ⟨(Nat.le_of_ble_eq_true rfl), (Nat.le_of_ble_eq_true rfl)⟩ rfl rfl rfl rfl rfl (Nat.le_of_ble_eq_true rfl) dL_law_757 ?_
    show WL p l e s m below meth c b H locs (F0 m 760 ls [.int (-1), .int (-1)])
    refine lv_icmp_eq (tgt := 900) hx hb dL_law_760 (by decide) (fun _ => ?_) (fun z => absurd (rfl) z)
    exact Kt sc sv tn Sg nb er ec eC eB eF eK en ey eY eD eR eq nr nc C B F K n y Yr Dn Rt q sn ad CC BB FF KK NN YY zn bd DC DB DF DK DN DY C2 B2 F2 K2 n2 y2 Pr Rs Qu qd hd wt Sp Be ts un tx ro co mp my md mr dr nw tk cs sa go to tn dm at_ so sn zn sv _ _ _ hP hD (hT) (hG) (hM) (hSh) (hKp) (hSe) hS hl

set_option maxHeartbeats 4000000 in
set_option maxRecDepth 100000 in
theorem law_fire {p : Program} {l : Launch} {e : Env} {s : State} {m : MethodId} {below : List Frame} {meth : Method} {c : Code} {b L i : Nat} {xs : Nat → Int32} {G : Gv} {ν μ : Nat → Nat} {A : Nat → Prop} {H : Heap} {locs : List Loc} {ls : Array Slot} {sc : Int64} {sv : Nat} {tn : Nat} {Sg : Nat → Int32} {nb : Nat → Int32} {er : Nat} {ec : Nat} {eC : Nat → Int32} {eB : Nat → Int32} {eF : Nat → Int32} {eK : Nat → Int32} {en : Nat} {ey : Int32} {eY : Nat → Int32} {eD : Nat → Int32} {eR : Nat → Int32} {eq : Nat} {nr : Nat} {nc : Nat} {C : Nat → Int32} {B : Nat → Int32} {F : Nat → Int32} {K : Nat → Int32} {n : Nat} {y : Int32} {Yr : Nat → Int32} {Dn : Nat → Int32} {Rt : Nat → Int32} {q : Nat} {sn : Nat} {ad : Nat → Nat → Nat} {CC : Nat → Nat → Int32} {BB : Nat → Nat → Int32} {FF : Nat → Nat → Int32} {KK : Nat → Nat → Int32} {NN : Nat → Nat} {YY : Nat → Int32} {zn : Nat} {bd : Nat → Nat → Nat} {DC : Nat → Nat → Int32} {DB : Nat → Nat → Int32} {DF : Nat → Nat → Int32} {DK : Nat → Nat → Int32} {DN : Nat → Nat} {DY : Nat → Int32} {C2 : Nat → Int32} {B2 : Nat → Int32} {F2 : Nat → Int32} {K2 : Nat → Int32} {n2 : Nat} {y2 : Int32} {Pr : Nat → Int32} {Rs : Nat → Int32} {Qu : Nat → Int32} {qd : Int64} {hd : Nat} {wt : Nat} {Sp : Nat → Int32} {Be : Nat → Int32} {ts : Int32} {un : Nat} {tx : Nat → Int32} {ro : Nat → Int32} {co : Nat → Int32} {mp : Nat → Int32} {my : Nat → Int32} {md : Nat → Int32} {mr : Nat → Int32} {dr : Nat → Int32} {nw : Nat → Int32} {tk : Nat → Int32} {cs : Nat → Int32} {sa : Nat → Int32} {go : Nat → Int32} {to : Nat → Int32} {dm : Nat} {at_ : Nat} {so : Bool} (hC : LC p s m meth c b L xs G A) (hL : L ≤ 2048) (hi : i + 4 ≤ L) (hP : va_P G.1 vwCl (wX G ν sc sv tn Sg nb er ec eC eB eF eK en ey eY eD eR eq nr nc C B F K n y Yr Dn Rt q sn ad CC BB FF KK NN YY zn bd DC DB DF DK DN DY C2 B2 F2 K2 n2 y2 Pr Rs Qu qd hd wt Sp Be ts un ++ wM G μ tx ro co mp my md mr dr nw tk cs sa go to tn dm at_ so sn zn sv) H) (hD : va_D A (wX G ν sc sv tn Sg nb er ec eC eB eF eK en ey eY eD eR eq nr nc C B F K n y Yr Dn Rt q sn ad CC BB FF KK NN YY zn bd DC DB DF DK DN DY C2 B2 F2 K2 n2 y2 Pr Rs Qu qd hd wt Sp Be ts un ++ wM G μ tx ro co mp my md mr dr nw tk cs sa go to tn dm at_ so sn zn sv)) (hT : TeR Sg tn tx tn) (hG : GrR nr nc Yr Dn Rt q ro co mp my md mr) (hM : MoR nr nc C B F K n y nw 0) (hSh : sn ≤ 8 ∧ sn = sn ∧ ShR nr nc CC BB FF KK NN YY sn nw 42) (hKp : zn ≤ 2 ∧ zn = zn ∧ ShR nr nc DC DB DF DK DN DY zn nw 378) (hSe : SeR sc sv sa sv) (hS : va_S A s.heap H locs) (hl : lv_has ls 4 [(0, .ref b), (1, .ref (ν 0)), (2, .ref (μ 0)), (3, .int (nI i))]) (Kt : Kp p l e s m below meth c b i G ν μ A) : WL p l e s m below meth c b H locs (F0 m 765 ls []) := by
  obtain ⟨hx, hb, hr, hml, hown, hts, hX, hbl, hlk, hE, hA, hbA⟩ := hC
  have ht : tn ≤ 200 := hT.1
  have hnar := hT.2.2.2
  have hsn : sn ≤ 8 := hSh.1
  have hzn : zn ≤ 2 := hKp.1
  have hsv : sv ≤ 12 := hSe.1
  obtain ⟨hg1, hg2, hro, hco, hmp, hq, hvc, hsc⟩ := id hG
  obtain ⟨⟨hn0, hn⟩, hn1, hy0, ⟨yv, hyv2, hyv⟩, hv, hvf, hsm⟩ := id hM
  have hcl := cells_le hg1 hg2
  have hyw : y.toInt < 1000 := by rw [hyv, nI_toInt (by omega)]; omega
  obtain ⟨va, eva⟩ : ∃ v, xs (i + 1) = v := ⟨_, rfl⟩
  obtain ⟨vb, evb⟩ : ∃ v, xs (i + 2) = v := ⟨_, rfl⟩
  obtain ⟨w, ew⟩ : ∃ v, xs (i + 3) = v := ⟨_, rfl⟩
  by_cases h3 : (inG nr nc va && inG nr nc vb) = true ∧ zo w = true
  · have hab := h3.1
    have hab1 := (Bool.and_eq_true_iff.mp hab)
    obtain ⟨av, hav, e1⟩ := inB_nat hab1.1 (by omega)
    subst e1
    obtain ⟨bv, hbv, e2⟩ := inB_nat hab1.2 (by omega)
    subst e2
    refine lv_aload_n hx hb dL_law_765 rfl (lv_at hl 1 rfl) ?_
    refine lv_aload_n hx hb dL_law_766 rfl (lv_at hl 0 rfl) ?_
    refine lv_iload_n hx hb dL_law_767 rfl (lv_at hl 3 rfl) ?_
    refine lv_iconst (v := 1) hx hb dL_law_768 (by decide) ?_
    refine lv_iadd hx hb dL_law_769 ?_
    rw [show nI i + (1 : Int32) = nI (i + 1) from nI_add i 1]
    refine va_sld hx hb hX hbl hbA hS (vp_in_nI (by omega) (by omega)) dL_law_770 ?_
    rw [nI_clamp (show i + 1 < 2 ^ 31 by omega), eva]
    refine lv_aload_n hx hb dL_law_771 rfl (lv_at hl 0 rfl) ?_
    refine lv_iload_n hx hb dL_law_772 rfl (lv_at hl 3 rfl) ?_
    refine lv_iconst (v := 2) hx hb dL_law_773 (by decide) ?_
    refine lv_iadd hx hb dL_law_774 ?_
    rw [show nI i + (2 : Int32) = nI (i + 2) from nI_add i 2]
    refine va_sld hx hb hX hbl hbA hS (vp_in_nI (by omega) (by omega)) dL_law_775 ?_
    rw [nI_clamp (show i + 2 < 2 ^ 31 by omega), evb]
    refine lv_aload_n hx hb dL_law_776 rfl (lv_at hl 0 rfl) ?_
    refine lv_iload_n hx hb dL_law_777 rfl (lv_at hl 3 rfl) ?_
    refine lv_iconst (v := 3) hx hb dL_law_778 (by decide) ?_
    refine lv_iadd hx hb dL_law_779 ?_
    rw [show nI i + (3 : Int32) = nI (i + 3) from nI_add i 3]
    refine va_sld hx hb hX hbl hbA hS (vp_in_nI (by omega) (by omega)) dL_law_780 ?_
    rw [nI_clamp (show i + 3 < 2 ^ 31 by omega), ew]
    refine ct_callL (As := [.int (nI av), .int (nI bv), .int w]) (rest := []) (wX_len _ _ _ _ _ _ _ _ _ _ _ _ _ _ _ _ _ _ _ _ _ _ _ _ _ _ _ _ _ _ _ _ _ _ _ _ _ _ _ _ _ _ _ _ _ _ _ _ _ _ _ _ _ _ _ _ _ _ _ _ _ _ _ ) (wM_len _ _ _ _ _ _ _ _ _ _ _ _ _ _ _ _ _ _ _ _ _ _ _ ) hx hb hml hown hts hE hA hl.1 hP hD hS (f_X9_fire_y l G ν _ _ _ _ _ _ _ _ _ _ _ _ _ _ _ _ _ _ _ _ _ _ _ _ _ _ _ _ _ _ _ _ _ _ _ _ _ _ _ _ _ _ _ _ _ _ _ _ _ _ _ _ _ _ _ _ _ _ _ _ _ _ _ _ hg1 hg2 hn hq h3.1 h3.2) (cw_L_110 hts) ⟨(Nat.le_of_ble_eq_true rfl), (Nat.le_of_ble_eq_true rfl)⟩ ⟨(Nat.le_of_ble_eq_true rfl), (Nat.le_of_ble_eq_true rfl)⟩ rfl rfl rfl rfl rfl (Nat.le_of_ble_eq_true rfl) dL_law_781 (fun v9 w9 H locs hpo hP hD hS => ?_)
    obtain ⟨rfl, Pr9x, Rs9x, Qu9x, qd9x, hd9x, wt9x, rfl⟩ := hpo
    have hP : va_P G.1 vwCl (wX G ν sc sv tn Sg nb er ec eC eB eF eK en ey eY eD eR eq nr nc C B F K n y Yr Dn Rt q sn ad CC BB FF KK NN YY zn bd DC DB DF DK DN DY C2 B2 F2 K2 n2 y2 Pr9x Rs9x Qu9x qd9x hd9x wt9x Sp Be ts un ++ wM G μ tx ro co mp my md mr dr nw tk cs sa go to tn dm at_ so sn zn sv) H := swap_P hP
    have hD : va_D A (wX G ν sc sv tn Sg nb er ec eC eB eF eK en ey eY eD eR eq nr nc C B F K n y Yr Dn Rt q sn ad CC BB FF KK NN YY zn bd DC DB DF DK DN DY C2 B2 F2 K2 n2 y2 Pr9x Rs9x Qu9x qd9x hd9x wt9x Sp Be ts un ++ wM G μ tx ro co mp my md mr dr nw tk cs sa go to tn dm at_ so sn zn sv) := swap_D (n := 15) (k := 93) rfl rfl nd15 nd93 hD
    show WL p l e s m below meth c b H locs (F0 m 784 ls [.int (fiR nr nc C B F K n y (nI av) (nI bv) w)])
    refine lv_aload_n hx hb dL_law_784 rfl (lv_at hl 2 rfl) ?_
    refine lv_aload_n hx hb dL_law_785 rfl (lv_at hl 0 rfl) ?_
    refine lv_iload_n hx hb dL_law_786 rfl (lv_at hl 3 rfl) ?_
    refine lv_iconst (v := 1) hx hb dL_law_787 (by decide) ?_
    refine lv_iadd hx hb dL_law_788 ?_
    rw [show nI i + (1 : Int32) = nI (i + 1) from nI_add i 1]
    refine va_sld hx hb hX hbl hbA hS (vp_in_nI (by omega) (by omega)) dL_law_789 ?_
    rw [nI_clamp (show i + 1 < 2 ^ 31 by omega), eva]
    refine lv_aload_n hx hb dL_law_790 rfl (lv_at hl 0 rfl) ?_
    refine lv_iload_n hx hb dL_law_791 rfl (lv_at hl 3 rfl) ?_
    refine lv_iconst (v := 2) hx hb dL_law_792 (by decide) ?_
    refine lv_iadd hx hb dL_law_793 ?_
    rw [show nI i + (2 : Int32) = nI (i + 2) from nI_add i 2]
    refine va_sld hx hb hX hbl hbA hS (vp_in_nI (by omega) (by omega)) dL_law_794 ?_
    rw [nI_clamp (show i + 2 < 2 ^ 31 by omega), evb]
    refine lv_aload_n hx hb dL_law_795 rfl (lv_at hl 0 rfl) ?_
    refine lv_iload_n hx hb dL_law_796 rfl (lv_at hl 3 rfl) ?_
    refine lv_iconst (v := 3) hx hb dL_law_797 (by decide) ?_
    refine lv_iadd hx hb dL_law_798 ?_
    rw [show nI i + (3 : Int32) = nI (i + 3) from nI_add i 3]
    refine va_sld hx hb hX hbl hbA hS (vp_in_nI (by omega) (by omega)) dL_law_799 ?_
    rw [nI_clamp (show i + 3 < 2 ^ 31 by omega), ew]
    refine ct_callR (As := [.int (nI av), .int (nI bv), .int w]) (rest := [.int (fiR nr nc C B F K n y (nI av) (nI bv) w)]) (wX_len _ _ _ _ _ _ _ _ _ _ _ _ _ _ _ _ _ _ _ _ _ _ _ _ _ _ _ _ _ _ _ _ _ _ _ _ _ _ _ _ _ _ _ _ _ _ _ _ _ _ _ _ _ _ _ _ _ _ _ _ _ _ _ ) (wM_len _ _ _ _ _ _ _ _ _ _ _ _ _ _ _ _ _ _ _ _ _ _ _ ) hx hb hml hown hts hE hA hl.1 hP hD hS (c_X10_fire_y l G _ _ _ _ _ _ _ _ _ _ _ _ _ _ _ _ _ _ _ _ _ _ _ _ _ _ _ _ _ _ _ _ _ _ _ _ _ _ _ _ _ _ hro hco hg1 hg2 hn1 hn hav hbv (by rw [← zo_inn]; exact h3.2)) (cw_L_113 hts) ⟨(Nat.le_of_ble_eq_true rfl), (Nat.le_of_ble_eq_true rfl)⟩ ⟨(Nat.le_of_ble_eq_true rfl), (Nat.le_of_ble_eq_true rfl)⟩ rfl rfl rfl rfl rfl (Nat.le_of_ble_eq_true rfl) dL_law_800 (fun v9 w9 H locs hpo hP hD hS => ?_)
    obtain ⟨rfl, tk9m, cs9m, rfl⟩ := hpo
    have hP : va_P G.1 vwCl (wX G ν sc sv tn Sg nb er ec eC eB eF eK en ey eY eD eR eq nr nc C B F K n y Yr Dn Rt q sn ad CC BB FF KK NN YY zn bd DC DB DF DK DN DY C2 B2 F2 K2 n2 y2 Pr9x Rs9x Qu9x qd9x hd9x wt9x Sp Be ts un ++ wM G μ tx ro co mp my md mr dr nw tk9m cs9m sa go to tn dm at_ so sn zn sv) H := hP
    have hD : va_D A (wX G ν sc sv tn Sg nb er ec eC eB eF eK en ey eY eD eR eq nr nc C B F K n y Yr Dn Rt q sn ad CC BB FF KK NN YY zn bd DC DB DF DK DN DY C2 B2 F2 K2 n2 y2 Pr9x Rs9x Qu9x qd9x hd9x wt9x Sp Be ts un ++ wM G μ tx ro co mp my md mr dr nw tk9m cs9m sa go to tn dm at_ so sn zn sv) := hD
    show WL p l e s m below meth c b H locs (F0 m 803 ls [.int (fiMR (fiM nr nc nw n av bv n) w), .int (fiR nr nc C B F K n y (nI av) (nI bv) w)])
    refine lv_icmp_eq (tgt := 900) hx hb dL_law_803 (by decide) (fun _ => ?_) (fun z => absurd ((fire_same hg1 hg2 hv hsm hy0 hyw hav hbv _).symm) z)
    exact Kt sc sv tn Sg nb er ec eC eB eF eK en ey eY eD eR eq nr nc C B F K n y Yr Dn Rt q sn ad CC BB FF KK NN YY zn bd DC DB DF DK DN DY C2 B2 F2 K2 n2 y2 Pr9x Rs9x Qu9x qd9x hd9x wt9x Sp Be ts un tx ro co mp my md mr dr nw tk9m cs9m sa go to tn dm at_ so sn zn sv _ _ _ hP hD (hT) (hG) (hM) (hSh) (hKp) (hSe) hS hl
  · refine lv_aload_n hx hb dL_law_765 rfl (lv_at hl 1 rfl) ?_
    refine lv_aload_n hx hb dL_law_766 rfl (lv_at hl 0 rfl) ?_
    refine lv_iload_n hx hb dL_law_767 rfl (lv_at hl 3 rfl) ?_
    refine lv_iconst (v := 1) hx hb dL_law_768 (by decide) ?_
    refine lv_iadd hx hb dL_law_769 ?_
    rw [show nI i + (1 : Int32) = nI (i + 1) from nI_add i 1]
    refine va_sld hx hb hX hbl hbA hS (vp_in_nI (by omega) (by omega)) dL_law_770 ?_
    rw [nI_clamp (show i + 1 < 2 ^ 31 by omega), eva]
    refine lv_aload_n hx hb dL_law_771 rfl (lv_at hl 0 rfl) ?_
    refine lv_iload_n hx hb dL_law_772 rfl (lv_at hl 3 rfl) ?_
    refine lv_iconst (v := 2) hx hb dL_law_773 (by decide) ?_
    refine lv_iadd hx hb dL_law_774 ?_
    rw [show nI i + (2 : Int32) = nI (i + 2) from nI_add i 2]
    refine va_sld hx hb hX hbl hbA hS (vp_in_nI (by omega) (by omega)) dL_law_775 ?_
    rw [nI_clamp (show i + 2 < 2 ^ 31 by omega), evb]
    refine lv_aload_n hx hb dL_law_776 rfl (lv_at hl 0 rfl) ?_
    refine lv_iload_n hx hb dL_law_777 rfl (lv_at hl 3 rfl) ?_
    refine lv_iconst (v := 3) hx hb dL_law_778 (by decide) ?_
    refine lv_iadd hx hb dL_law_779 ?_
    rw [show nI i + (3 : Int32) = nI (i + 3) from nI_add i 3]
    refine va_sld hx hb hX hbl hbA hS (vp_in_nI (by omega) (by omega)) dL_law_780 ?_
    rw [nI_clamp (show i + 3 < 2 ^ 31 by omega), ew]
    refine rd_callL (As := [.int va, .int vb, .int w]) (rest := []) (wX_len _ _ _ _ _ _ _ _ _ _ _ _ _ _ _ _ _ _ _ _ _ _ _ _ _ _ _ _ _ _ _ _ _ _ _ _ _ _ _ _ _ _ _ _ _ _ _ _ _ _ _ _ _ _ _ _ _ _ _ _ _ _ _ ) hx hb hml hown hts hE hl.1 hP hS (f_X9_fire_n l G ν _ _ _ _ _ _ _ _ _ _ _ _ _ _ _ _ _ _ _ _ _ _ _ _ _ _ _ _ _ _ _ _ _ _ _ _ _ _ _ _ _ _ _ _ _ _ _ _ _ _ _ _ _ _ _ _ _ _ _ _ _ _ _ _ hg1 hg2 hn hq h3) (cw_L_110 hts) ⟨(Nat.le_of_ble_eq_true rfl), (Nat.le_of_ble_eq_true rfl)⟩ ⟨(Nat.le_of_ble_eq_true rfl), (Nat.le_of_ble_eq_true rfl)⟩ rfl rfl rfl rfl rfl (Nat.le_of_ble_eq_true rfl) dL_law_781 ?_
    refine lv_aload_n hx hb dL_law_784 rfl (lv_at hl 2 rfl) ?_
    refine lv_aload_n hx hb dL_law_785 rfl (lv_at hl 0 rfl) ?_
    refine lv_iload_n hx hb dL_law_786 rfl (lv_at hl 3 rfl) ?_
    refine lv_iconst (v := 1) hx hb dL_law_787 (by decide) ?_
    refine lv_iadd hx hb dL_law_788 ?_
    rw [show nI i + (1 : Int32) = nI (i + 1) from nI_add i 1]
    refine va_sld hx hb hX hbl hbA hS (vp_in_nI (by omega) (by omega)) dL_law_789 ?_
    rw [nI_clamp (show i + 1 < 2 ^ 31 by omega), eva]
    refine lv_aload_n hx hb dL_law_790 rfl (lv_at hl 0 rfl) ?_
    refine lv_iload_n hx hb dL_law_791 rfl (lv_at hl 3 rfl) ?_
    refine lv_iconst (v := 2) hx hb dL_law_792 (by decide) ?_
    refine lv_iadd hx hb dL_law_793 ?_
    rw [show nI i + (2 : Int32) = nI (i + 2) from nI_add i 2]
    refine va_sld hx hb hX hbl hbA hS (vp_in_nI (by omega) (by omega)) dL_law_794 ?_
    rw [nI_clamp (show i + 2 < 2 ^ 31 by omega), evb]
    refine lv_aload_n hx hb dL_law_795 rfl (lv_at hl 0 rfl) ?_
    refine lv_iload_n hx hb dL_law_796 rfl (lv_at hl 3 rfl) ?_
    refine lv_iconst (v := 3) hx hb dL_law_797 (by decide) ?_
    refine lv_iadd hx hb dL_law_798 ?_
    rw [show nI i + (3 : Int32) = nI (i + 3) from nI_add i 3]
    refine va_sld hx hb hX hbl hbA hS (vp_in_nI (by omega) (by omega)) dL_law_799 ?_
    rw [nI_clamp (show i + 3 < 2 ^ 31 by omega), ew]
    refine rd_callR (As := [.int va, .int vb, .int w]) (rest := [.int (-1)]) (wX_len _ _ _ _ _ _ _ _ _ _ _ _ _ _ _ _ _ _ _ _ _ _ _ _ _ _ _ _ _ _ _ _ _ _ _ _ _ _ _ _ _ _ _ _ _ _ _ _ _ _ _ _ _ _ _ _ _ _ _ _ _ _ _ ) (wM_len _ _ _ _ _ _ _ _ _ _ _ _ _ _ _ _ _ _ _ _ _ _ _ ) hx hb hml hown hts hE hl.1 hP hS (c_X10_fire_n l G _ _ _ _ _ _ _ _ _ _ _ _ _ _ _ _ _ _ _ _ _ _ _ _ _ _ _ _ _ _ _ _ _ _ _ _ _ _ _ _ _ _ hro hco hg1 hg2 hn1 hn (fun z => h3 ⟨by rw [z.1, z.2.1]; rfl, by rw [zo_inn]; exact z.2.2⟩)) (cw_L_113 hts) ⟨(Nat.le_of_ble_eq_true rfl), (Nat.le_of_ble_eq_true rfl)⟩ ⟨(Nat.le_of_ble_eq_true rfl), (Nat.le_of_ble_eq_true rfl)⟩ rfl rfl rfl rfl rfl (Nat.le_of_ble_eq_true rfl) dL_law_800 ?_
    show WL p l e s m below meth c b H locs (F0 m 803 ls [.int (-1), .int (-1)])
    refine lv_icmp_eq (tgt := 900) hx hb dL_law_803 (by decide) (fun _ => ?_) (fun z => absurd (rfl) z)
    exact Kt sc sv tn Sg nb er ec eC eB eF eK en ey eY eD eR eq nr nc C B F K n y Yr Dn Rt q sn ad CC BB FF KK NN YY zn bd DC DB DF DK DN DY C2 B2 F2 K2 n2 y2 Pr Rs Qu qd hd wt Sp Be ts un tx ro co mp my md mr dr nw tk cs sa go to tn dm at_ so sn zn sv _ _ _ hP hD (hT) (hG) (hM) (hSh) (hKp) (hSe) hS hl

set_option maxHeartbeats 4000000 in
set_option maxRecDepth 100000 in
theorem law_land {p : Program} {l : Launch} {e : Env} {s : State} {m : MethodId} {below : List Frame} {meth : Method} {c : Code} {b L i : Nat} {xs : Nat → Int32} {G : Gv} {ν μ : Nat → Nat} {A : Nat → Prop} {H : Heap} {locs : List Loc} {ls : Array Slot} {sc : Int64} {sv : Nat} {tn : Nat} {Sg : Nat → Int32} {nb : Nat → Int32} {er : Nat} {ec : Nat} {eC : Nat → Int32} {eB : Nat → Int32} {eF : Nat → Int32} {eK : Nat → Int32} {en : Nat} {ey : Int32} {eY : Nat → Int32} {eD : Nat → Int32} {eR : Nat → Int32} {eq : Nat} {nr : Nat} {nc : Nat} {C : Nat → Int32} {B : Nat → Int32} {F : Nat → Int32} {K : Nat → Int32} {n : Nat} {y : Int32} {Yr : Nat → Int32} {Dn : Nat → Int32} {Rt : Nat → Int32} {q : Nat} {sn : Nat} {ad : Nat → Nat → Nat} {CC : Nat → Nat → Int32} {BB : Nat → Nat → Int32} {FF : Nat → Nat → Int32} {KK : Nat → Nat → Int32} {NN : Nat → Nat} {YY : Nat → Int32} {zn : Nat} {bd : Nat → Nat → Nat} {DC : Nat → Nat → Int32} {DB : Nat → Nat → Int32} {DF : Nat → Nat → Int32} {DK : Nat → Nat → Int32} {DN : Nat → Nat} {DY : Nat → Int32} {C2 : Nat → Int32} {B2 : Nat → Int32} {F2 : Nat → Int32} {K2 : Nat → Int32} {n2 : Nat} {y2 : Int32} {Pr : Nat → Int32} {Rs : Nat → Int32} {Qu : Nat → Int32} {qd : Int64} {hd : Nat} {wt : Nat} {Sp : Nat → Int32} {Be : Nat → Int32} {ts : Int32} {un : Nat} {tx : Nat → Int32} {ro : Nat → Int32} {co : Nat → Int32} {mp : Nat → Int32} {my : Nat → Int32} {md : Nat → Int32} {mr : Nat → Int32} {dr : Nat → Int32} {nw : Nat → Int32} {tk : Nat → Int32} {cs : Nat → Int32} {sa : Nat → Int32} {go : Nat → Int32} {to : Nat → Int32} {dm : Nat} {at_ : Nat} {so : Bool} (hC : LC p s m meth c b L xs G A) (hL : L ≤ 2048) (hi : i + 4 ≤ L) (hP : va_P G.1 vwCl (wX G ν sc sv tn Sg nb er ec eC eB eF eK en ey eY eD eR eq nr nc C B F K n y Yr Dn Rt q sn ad CC BB FF KK NN YY zn bd DC DB DF DK DN DY C2 B2 F2 K2 n2 y2 Pr Rs Qu qd hd wt Sp Be ts un ++ wM G μ tx ro co mp my md mr dr nw tk cs sa go to tn dm at_ so sn zn sv) H) (hD : va_D A (wX G ν sc sv tn Sg nb er ec eC eB eF eK en ey eY eD eR eq nr nc C B F K n y Yr Dn Rt q sn ad CC BB FF KK NN YY zn bd DC DB DF DK DN DY C2 B2 F2 K2 n2 y2 Pr Rs Qu qd hd wt Sp Be ts un ++ wM G μ tx ro co mp my md mr dr nw tk cs sa go to tn dm at_ so sn zn sv)) (hT : TeR Sg tn tx tn) (hG : GrR nr nc Yr Dn Rt q ro co mp my md mr) (hM : MoR nr nc C B F K n y nw 0) (hSh : sn ≤ 8 ∧ sn = sn ∧ ShR nr nc CC BB FF KK NN YY sn nw 42) (hKp : zn ≤ 2 ∧ zn = zn ∧ ShR nr nc DC DB DF DK DN DY zn nw 378) (hSe : SeR sc sv sa sv) (hS : va_S A s.heap H locs) (hl : lv_has ls 4 [(0, .ref b), (1, .ref (ν 0)), (2, .ref (μ 0)), (3, .int (nI i))]) (Kt : Kp p l e s m below meth c b i G ν μ A) : WL p l e s m below meth c b H locs (F0 m 808 ls []) := by
  obtain ⟨hx, hb, hr, hml, hown, hts, hX, hbl, hlk, hE, hA, hbA⟩ := hC
  have ht : tn ≤ 200 := hT.1
  have hnar := hT.2.2.2
  have hsn : sn ≤ 8 := hSh.1
  have hzn : zn ≤ 2 := hKp.1
  have hsv : sv ≤ 12 := hSe.1
  obtain ⟨hg1, hg2, hro, hco, hmp, hq, hvc, hsc⟩ := id hG
  obtain ⟨⟨hn0, hn⟩, hn1, hy0, ⟨yv, hyv2, hyv⟩, hv, hvf, hsm⟩ := id hM
  have hcl := cells_le hg1 hg2
  have hyw : y.toInt < 1000 := by rw [hyv, nI_toInt (by omega)]; omega
  obtain ⟨z, ez⟩ : ∃ v, xs (i + 1) = v := ⟨_, rfl⟩
  obtain ⟨d, ed⟩ : ∃ v, xs (i + 2) = v := ⟨_, rfl⟩
  obtain ⟨w, ew⟩ : ∃ v, xs (i + 3) = v := ⟨_, rfl⟩
  by_cases h3 : ¬ z < 0 ∧ ¬ 9999 < z ∧ ¬ d < 1 ∧ ¬ 60 < d ∧ zo w = true
  · obtain ⟨zv, hzv, e1⟩ := nI_of h3.1
    subst e1
    have hz9 : zv ≤ 9999 := by have z := (not_congr (nI_ltI (a := 9999) (b := zv) (by decide) hzv)).mp h3.2.1; omega
    have hd0 : ¬ d < 0 := fun z => h3.2.2.1 (Int32.lt_trans z (by decide))
    obtain ⟨dv, hdv, e2⟩ := nI_of hd0
    subst e2
    have hd1 : 1 ≤ dv := by have z := (not_congr (nI_ltI (a := dv) (b := 1) hdv (by decide))).mp h3.2.2.1; omega
    have hd2 : dv ≤ 60 := by have z := (not_congr (nI_ltI (a := 60) (b := dv) (by decide) hdv)).mp h3.2.2.2.1; omega
    subst hyv
    obtain ⟨_, _, _, _, hvK, _, hsK⟩ := MoR_cpy (X := C2) (Y := B2) (Z := F2) (W := K2) hM
    have hln := ln_same hn hn0 hvK hsK hy0 hyv2 hz9 dv hd2
    have hlw : (nI (yv + dv)).toInt < 1000 := by rw [nI_toInt (by omega)]; omega
    refine lv_aload_n hx hb dL_law_808 rfl (lv_at hl 1 rfl) ?_
    refine lv_aload_n hx hb dL_law_809 rfl (lv_at hl 0 rfl) ?_
    refine lv_iload_n hx hb dL_law_810 rfl (lv_at hl 3 rfl) ?_
    refine lv_iconst (v := 1) hx hb dL_law_811 (by decide) ?_
    refine lv_iadd hx hb dL_law_812 ?_
    rw [show nI i + (1 : Int32) = nI (i + 1) from nI_add i 1]
    refine va_sld hx hb hX hbl hbA hS (vp_in_nI (by omega) (by omega)) dL_law_813 ?_
    rw [nI_clamp (show i + 1 < 2 ^ 31 by omega), ez]
    refine lv_aload_n hx hb dL_law_814 rfl (lv_at hl 0 rfl) ?_
    refine lv_iload_n hx hb dL_law_815 rfl (lv_at hl 3 rfl) ?_
    refine lv_iconst (v := 2) hx hb dL_law_816 (by decide) ?_
    refine lv_iadd hx hb dL_law_817 ?_
    rw [show nI i + (2 : Int32) = nI (i + 2) from nI_add i 2]
    refine va_sld hx hb hX hbl hbA hS (vp_in_nI (by omega) (by omega)) dL_law_818 ?_
    rw [nI_clamp (show i + 2 < 2 ^ 31 by omega), ed]
    refine lv_aload_n hx hb dL_law_819 rfl (lv_at hl 0 rfl) ?_
    refine lv_iload_n hx hb dL_law_820 rfl (lv_at hl 3 rfl) ?_
    refine lv_iconst (v := 3) hx hb dL_law_821 (by decide) ?_
    refine lv_iadd hx hb dL_law_822 ?_
    rw [show nI i + (3 : Int32) = nI (i + 3) from nI_add i 3]
    refine va_sld hx hb hX hbl hbA hS (vp_in_nI (by omega) (by omega)) dL_law_823 ?_
    rw [nI_clamp (show i + 3 < 2 ^ 31 by omega), ew]
    refine ct_callL (As := [.int (nI zv), .int (nI dv), .int w]) (rest := []) (wX_len _ _ _ _ _ _ _ _ _ _ _ _ _ _ _ _ _ _ _ _ _ _ _ _ _ _ _ _ _ _ _ _ _ _ _ _ _ _ _ _ _ _ _ _ _ _ _ _ _ _ _ _ _ _ _ _ _ _ _ _ _ _ _ ) (wM_len _ _ _ _ _ _ _ _ _ _ _ _ _ _ _ _ _ _ _ _ _ _ _ ) hx hb hml hown hts hE hA hl.1 hP hD hS (f_X9_land_y l G ν _ _ _ _ _ _ _ _ _ _ _ _ _ _ _ _ _ _ _ _ _ _ _ _ _ _ _ _ _ _ _ _ _ _ _ _ _ _ _ _ _ _ _ _ _ _ _ _ _ _ _ _ _ _ _ _ _ _ _ _ _ _ _ _ hg1 hg2 hn hq hn0 h3.1 h3.2.1 hd1 hd2 h3.2.2.2.2) (cw_L_114 hts) ⟨(Nat.le_of_ble_eq_true rfl), (Nat.le_of_ble_eq_true rfl)⟩ ⟨(Nat.le_of_ble_eq_true rfl), (Nat.le_of_ble_eq_true rfl)⟩ rfl rfl rfl rfl rfl (Nat.le_of_ble_eq_true rfl) dL_law_824 (fun v9 w9 H locs hpo hP hD hS => ?_)
    obtain ⟨rfl, rfl⟩ := hpo
    have hP : va_P G.1 vwCl (wX G ν sc sv tn Sg nb er ec eC eB eF eK en ey eY eD eR eq nr nc C B F K n (nI yv) Yr Dn Rt q sn ad CC BB FF KK NN YY zn bd DC DB DF DK DN DY (va_cpy C C2 0 0 10) (va_cpy B B2 0 0 10) ((ldA n (va_cpy B B2 0 0 10) (va_cpy F F2 0 0 10) (va_cpy K K2 0 0 10) (nI yv) (nI zv) dv).1) (va_cpy K K2 0 0 10) n ((ldA n (va_cpy B B2 0 0 10) (va_cpy F F2 0 0 10) (va_cpy K K2 0 0 10) (nI yv) (nI zv) dv).2) Pr Rs Qu qd hd wt Sp Be ts un ++ wM G μ tx ro co mp my md mr dr nw tk cs sa go to tn dm at_ so sn zn sv) H := swap_P hP
    have hD : va_D A (wX G ν sc sv tn Sg nb er ec eC eB eF eK en ey eY eD eR eq nr nc C B F K n (nI yv) Yr Dn Rt q sn ad CC BB FF KK NN YY zn bd DC DB DF DK DN DY (va_cpy C C2 0 0 10) (va_cpy B B2 0 0 10) ((ldA n (va_cpy B B2 0 0 10) (va_cpy F F2 0 0 10) (va_cpy K K2 0 0 10) (nI yv) (nI zv) dv).1) (va_cpy K K2 0 0 10) n ((ldA n (va_cpy B B2 0 0 10) (va_cpy F F2 0 0 10) (va_cpy K K2 0 0 10) (nI yv) (nI zv) dv).2) Pr Rs Qu qd hd wt Sp Be ts un ++ wM G μ tx ro co mp my md mr dr nw tk cs sa go to tn dm at_ so sn zn sv) := swap_D (n := 15) (k := 93) rfl rfl nd15 nd93 hD
    show WL p l e s m below meth c b H locs (F0 m 827 ls [.int (if w = 0 then bcn (stC (va_cpy C C2 0 0 10) (va_cpy B B2 0 0 10) (ldA n (va_cpy B B2 0 0 10) (va_cpy F F2 0 0 10) (va_cpy K K2 0 0 10) (nI yv) (nI zv) dv).1 (ldA n (va_cpy B B2 0 0 10) (va_cpy F F2 0 0 10) (va_cpy K K2 0 0 10) (nI yv) (nI zv) dv).2 n) else bcn (loC (va_cpy C C2 0 0 10) (ldA n (va_cpy B B2 0 0 10) (va_cpy F F2 0 0 10) (va_cpy K K2 0 0 10) (nI yv) (nI zv) dv).1 (ldA n (va_cpy B B2 0 0 10) (va_cpy F F2 0 0 10) (va_cpy K K2 0 0 10) (nI yv) (nI zv) dv).2 n))])
    refine lv_aload_n hx hb dL_law_827 rfl (lv_at hl 2 rfl) ?_
    refine lv_aload_n hx hb dL_law_828 rfl (lv_at hl 0 rfl) ?_
    refine lv_iload_n hx hb dL_law_829 rfl (lv_at hl 3 rfl) ?_
    refine lv_iconst (v := 1) hx hb dL_law_830 (by decide) ?_
    refine lv_iadd hx hb dL_law_831 ?_
    rw [show nI i + (1 : Int32) = nI (i + 1) from nI_add i 1]
    refine va_sld hx hb hX hbl hbA hS (vp_in_nI (by omega) (by omega)) dL_law_832 ?_
    rw [nI_clamp (show i + 1 < 2 ^ 31 by omega), ez]
    refine lv_aload_n hx hb dL_law_833 rfl (lv_at hl 0 rfl) ?_
    refine lv_iload_n hx hb dL_law_834 rfl (lv_at hl 3 rfl) ?_
    refine lv_iconst (v := 2) hx hb dL_law_835 (by decide) ?_
    refine lv_iadd hx hb dL_law_836 ?_
    rw [show nI i + (2 : Int32) = nI (i + 2) from nI_add i 2]
    refine va_sld hx hb hX hbl hbA hS (vp_in_nI (by omega) (by omega)) dL_law_837 ?_
    rw [nI_clamp (show i + 2 < 2 ^ 31 by omega), ed]
    refine lv_aload_n hx hb dL_law_838 rfl (lv_at hl 0 rfl) ?_
    refine lv_iload_n hx hb dL_law_839 rfl (lv_at hl 3 rfl) ?_
    refine lv_iconst (v := 3) hx hb dL_law_840 (by decide) ?_
    refine lv_iadd hx hb dL_law_841 ?_
    rw [show nI i + (3 : Int32) = nI (i + 3) from nI_add i 3]
    refine va_sld hx hb hX hbl hbA hS (vp_in_nI (by omega) (by omega)) dL_law_842 ?_
    rw [nI_clamp (show i + 3 < 2 ^ 31 by omega), ew]
    refine ct_callR (As := [.int (nI zv), .int (nI dv), .int w]) (rest := [.int (if w = 0 then bcn (stC (va_cpy C C2 0 0 10) (va_cpy B B2 0 0 10) (ldA n (va_cpy B B2 0 0 10) (va_cpy F F2 0 0 10) (va_cpy K K2 0 0 10) (nI yv) (nI zv) dv).1 (ldA n (va_cpy B B2 0 0 10) (va_cpy F F2 0 0 10) (va_cpy K K2 0 0 10) (nI yv) (nI zv) dv).2 n) else bcn (loC (va_cpy C C2 0 0 10) (ldA n (va_cpy B B2 0 0 10) (va_cpy F F2 0 0 10) (va_cpy K K2 0 0 10) (nI yv) (nI zv) dv).1 (ldA n (va_cpy B B2 0 0 10) (va_cpy F F2 0 0 10) (va_cpy K K2 0 0 10) (nI yv) (nI zv) dv).2 n))]) (wX_len _ _ _ _ _ _ _ _ _ _ _ _ _ _ _ _ _ _ _ _ _ _ _ _ _ _ _ _ _ _ _ _ _ _ _ _ _ _ _ _ _ _ _ _ _ _ _ _ _ _ _ _ _ _ _ _ _ _ _ _ _ _ _ ) (wM_len _ _ _ _ _ _ _ _ _ _ _ _ _ _ _ _ _ _ _ _ _ _ _ ) hx hb hml hown hts hE hA hl.1 hP hD hS (c_X10_land_y l G _ _ _ _ _ _ _ _ _ _ _ _ _ _ _ _ _ _ _ _ _ _ _ _ _ _ _ _ _ _ _ _ _ _ _ _ _ _ _ _ hn1 hn hn0 hz9 hd1 hd2 (by rw [← zo_inn]; exact h3.2.2.2.2)) (cw_L_117 hts) ⟨(Nat.le_of_ble_eq_true rfl), (Nat.le_of_ble_eq_true rfl)⟩ ⟨(Nat.le_of_ble_eq_true rfl), (Nat.le_of_ble_eq_true rfl)⟩ rfl rfl rfl rfl rfl (Nat.le_of_ble_eq_true rfl) dL_law_843 (fun v9 w9 H locs hpo hP hD hS => ?_)
    obtain ⟨rfl, rfl⟩ := hpo
    have hP : va_P G.1 vwCl (wX G ν sc sv tn Sg nb er ec eC eB eF eK en ey eY eD eR eq nr nc C B F K n (nI yv) Yr Dn Rt q sn ad CC BB FF KK NN YY zn bd DC DB DF DK DN DY (va_cpy C C2 0 0 10) (va_cpy B B2 0 0 10) ((ldA n (va_cpy B B2 0 0 10) (va_cpy F F2 0 0 10) (va_cpy K K2 0 0 10) (nI yv) (nI zv) dv).1) (va_cpy K K2 0 0 10) n ((ldA n (va_cpy B B2 0 0 10) (va_cpy F F2 0 0 10) (va_cpy K K2 0 0 10) (nI yv) (nI zv) dv).2) Pr Rs Qu qd hd wt Sp Be ts un ++ wM G μ tx ro co mp my md mr dr (lnA nw n zv dv) tk cs sa go to tn dm at_ so sn zn sv) H := hP
    have hD : va_D A (wX G ν sc sv tn Sg nb er ec eC eB eF eK en ey eY eD eR eq nr nc C B F K n (nI yv) Yr Dn Rt q sn ad CC BB FF KK NN YY zn bd DC DB DF DK DN DY (va_cpy C C2 0 0 10) (va_cpy B B2 0 0 10) ((ldA n (va_cpy B B2 0 0 10) (va_cpy F F2 0 0 10) (va_cpy K K2 0 0 10) (nI yv) (nI zv) dv).1) (va_cpy K K2 0 0 10) n ((ldA n (va_cpy B B2 0 0 10) (va_cpy F F2 0 0 10) (va_cpy K K2 0 0 10) (nI yv) (nI zv) dv).2) Pr Rs Qu qd hd wt Sp Be ts un ++ wM G μ tx ro co mp my md mr dr (lnA nw n zv dv) tk cs sa go to tn dm at_ so sn zn sv) := hD
    show WL p l e s m below meth c b H locs (F0 m 846 ls [.int (if w = 0 then mbM (lnA nw n zv dv) 462 true n else mbM (lnA nw n zv dv) 462 false n), .int (if w = 0 then bcn (stC (va_cpy C C2 0 0 10) (va_cpy B B2 0 0 10) (ldA n (va_cpy B B2 0 0 10) (va_cpy F F2 0 0 10) (va_cpy K K2 0 0 10) (nI yv) (nI zv) dv).1 (ldA n (va_cpy B B2 0 0 10) (va_cpy F F2 0 0 10) (va_cpy K K2 0 0 10) (nI yv) (nI zv) dv).2 n) else bcn (loC (va_cpy C C2 0 0 10) (ldA n (va_cpy B B2 0 0 10) (va_cpy F F2 0 0 10) (va_cpy K K2 0 0 10) (nI yv) (nI zv) dv).1 (ldA n (va_cpy B B2 0 0 10) (va_cpy F F2 0 0 10) (va_cpy K K2 0 0 10) (nI yv) (nI zv) dv).2 n))])
    refine lv_icmp_eq (tgt := 900) hx hb dL_law_846 (by decide) (fun _ => ?_) (fun z => absurd (by rw [stand_same hg1 hg2 hln.1 hln.2.1 (hln.2.2.2.trans hln.2.2.1.symm) (by rw [hln.2.2.1]; exact hlw), lost_same hg1 hg2 hln.1 hln.2.1 (hln.2.2.2.trans hln.2.2.1.symm) (by rw [hln.2.2.1]; exact hlw)]) z)
    exact Kt sc sv tn Sg nb er ec eC eB eF eK en ey eY eD eR eq nr nc C B F K n (nI yv) Yr Dn Rt q sn ad CC BB FF KK NN YY zn bd DC DB DF DK DN DY (va_cpy C C2 0 0 10) (va_cpy B B2 0 0 10) ((ldA n (va_cpy B B2 0 0 10) (va_cpy F F2 0 0 10) (va_cpy K K2 0 0 10) (nI yv) (nI zv) dv).1) (va_cpy K K2 0 0 10) n ((ldA n (va_cpy B B2 0 0 10) (va_cpy F F2 0 0 10) (va_cpy K K2 0 0 10) (nI yv) (nI zv) dv).2) Pr Rs Qu qd hd wt Sp Be ts un tx ro co mp my md mr dr (lnA nw n zv dv) tk cs sa go to tn dm at_ so sn zn sv _ _ _ hP hD (hT) (hG) (MoR_nw hM (fun k h1 => lnA_low nw n zv dv _ (by omega))) (⟨hsn, rfl, ShR_nw hSh.2.2 (fun k h1 h2 => lnA_low nw n zv dv _ (by omega))⟩) (⟨hzn, rfl, ShR_nw hKp.2.2 (fun k h1 h2 => lnA_low nw n zv dv _ (by omega))⟩) (hSe) hS hl
  · refine lv_aload_n hx hb dL_law_808 rfl (lv_at hl 1 rfl) ?_
    refine lv_aload_n hx hb dL_law_809 rfl (lv_at hl 0 rfl) ?_
    refine lv_iload_n hx hb dL_law_810 rfl (lv_at hl 3 rfl) ?_
    refine lv_iconst (v := 1) hx hb dL_law_811 (by decide) ?_
    refine lv_iadd hx hb dL_law_812 ?_
    rw [show nI i + (1 : Int32) = nI (i + 1) from nI_add i 1]
    refine va_sld hx hb hX hbl hbA hS (vp_in_nI (by omega) (by omega)) dL_law_813 ?_
    rw [nI_clamp (show i + 1 < 2 ^ 31 by omega), ez]
    refine lv_aload_n hx hb dL_law_814 rfl (lv_at hl 0 rfl) ?_
    refine lv_iload_n hx hb dL_law_815 rfl (lv_at hl 3 rfl) ?_
    refine lv_iconst (v := 2) hx hb dL_law_816 (by decide) ?_
    refine lv_iadd hx hb dL_law_817 ?_
    rw [show nI i + (2 : Int32) = nI (i + 2) from nI_add i 2]
    refine va_sld hx hb hX hbl hbA hS (vp_in_nI (by omega) (by omega)) dL_law_818 ?_
    rw [nI_clamp (show i + 2 < 2 ^ 31 by omega), ed]
    refine lv_aload_n hx hb dL_law_819 rfl (lv_at hl 0 rfl) ?_
    refine lv_iload_n hx hb dL_law_820 rfl (lv_at hl 3 rfl) ?_
    refine lv_iconst (v := 3) hx hb dL_law_821 (by decide) ?_
    refine lv_iadd hx hb dL_law_822 ?_
    rw [show nI i + (3 : Int32) = nI (i + 3) from nI_add i 3]
    refine va_sld hx hb hX hbl hbA hS (vp_in_nI (by omega) (by omega)) dL_law_823 ?_
    rw [nI_clamp (show i + 3 < 2 ^ 31 by omega), ew]
    refine rd_callL (As := [.int z, .int d, .int w]) (rest := []) (wX_len _ _ _ _ _ _ _ _ _ _ _ _ _ _ _ _ _ _ _ _ _ _ _ _ _ _ _ _ _ _ _ _ _ _ _ _ _ _ _ _ _ _ _ _ _ _ _ _ _ _ _ _ _ _ _ _ _ _ _ _ _ _ _ ) hx hb hml hown hts hE hl.1 hP hS (f_X9_land_n l G ν _ _ _ _ _ _ _ _ _ _ _ _ _ _ _ _ _ _ _ _ _ _ _ _ _ _ _ _ _ _ _ _ _ _ _ _ _ _ _ _ _ _ _ _ _ _ _ _ _ _ _ _ _ _ _ _ _ _ _ _ _ _ _ _ h3) (cw_L_114 hts) ⟨(Nat.le_of_ble_eq_true rfl), (Nat.le_of_ble_eq_true rfl)⟩ ⟨(Nat.le_of_ble_eq_true rfl), (Nat.le_of_ble_eq_true rfl)⟩ rfl rfl rfl rfl rfl (Nat.le_of_ble_eq_true rfl) dL_law_824 ?_
    refine lv_aload_n hx hb dL_law_827 rfl (lv_at hl 2 rfl) ?_
    refine lv_aload_n hx hb dL_law_828 rfl (lv_at hl 0 rfl) ?_
    refine lv_iload_n hx hb dL_law_829 rfl (lv_at hl 3 rfl) ?_
    refine lv_iconst (v := 1) hx hb dL_law_830 (by decide) ?_
    refine lv_iadd hx hb dL_law_831 ?_
    rw [show nI i + (1 : Int32) = nI (i + 1) from nI_add i 1]
    refine va_sld hx hb hX hbl hbA hS (vp_in_nI (by omega) (by omega)) dL_law_832 ?_
    rw [nI_clamp (show i + 1 < 2 ^ 31 by omega), ez]
    refine lv_aload_n hx hb dL_law_833 rfl (lv_at hl 0 rfl) ?_
    refine lv_iload_n hx hb dL_law_834 rfl (lv_at hl 3 rfl) ?_
    refine lv_iconst (v := 2) hx hb dL_law_835 (by decide) ?_
    refine lv_iadd hx hb dL_law_836 ?_
    rw [show nI i + (2 : Int32) = nI (i + 2) from nI_add i 2]
    refine va_sld hx hb hX hbl hbA hS (vp_in_nI (by omega) (by omega)) dL_law_837 ?_
    rw [nI_clamp (show i + 2 < 2 ^ 31 by omega), ed]
    refine lv_aload_n hx hb dL_law_838 rfl (lv_at hl 0 rfl) ?_
    refine lv_iload_n hx hb dL_law_839 rfl (lv_at hl 3 rfl) ?_
    refine lv_iconst (v := 3) hx hb dL_law_840 (by decide) ?_
    refine lv_iadd hx hb dL_law_841 ?_
    rw [show nI i + (3 : Int32) = nI (i + 3) from nI_add i 3]
    refine va_sld hx hb hX hbl hbA hS (vp_in_nI (by omega) (by omega)) dL_law_842 ?_
    rw [nI_clamp (show i + 3 < 2 ^ 31 by omega), ew]
    refine rd_callR (As := [.int z, .int d, .int w]) (rest := [.int (-1)]) (wX_len _ _ _ _ _ _ _ _ _ _ _ _ _ _ _ _ _ _ _ _ _ _ _ _ _ _ _ _ _ _ _ _ _ _ _ _ _ _ _ _ _ _ _ _ _ _ _ _ _ _ _ _ _ _ _ _ _ _ _ _ _ _ _ ) (wM_len _ _ _ _ _ _ _ _ _ _ _ _ _ _ _ _ _ _ _ _ _ _ _ ) hx hb hml hown hts hE hl.1 hP hS (c_X10_land_n l G _ _ _ _ _ _ _ _ _ _ _ _ _ _ _ _ _ _ _ _ _ _ _ _ _ _ _ _ _ _ _ _ _ _ _ _ _ _ _ (fun z => h3 ⟨(inn_i.mp z.1).1, Int32.not_lt.mpr (inn_i.mp z.1).2, (inn_i.mp z.2.1).1, Int32.not_lt.mpr (inn_i.mp z.2.1).2, by rw [zo_inn]; exact z.2.2⟩)) (cw_L_117 hts) ⟨(Nat.le_of_ble_eq_true rfl), (Nat.le_of_ble_eq_true rfl)⟩ ⟨(Nat.le_of_ble_eq_true rfl), (Nat.le_of_ble_eq_true rfl)⟩ rfl rfl rfl rfl rfl (Nat.le_of_ble_eq_true rfl) dL_law_843 ?_
    show WL p l e s m below meth c b H locs (F0 m 846 ls [.int (-1), .int (-1)])
    refine lv_icmp_eq (tgt := 900) hx hb dL_law_846 (by decide) (fun _ => ?_) (fun z => absurd (rfl) z)
    exact Kt sc sv tn Sg nb er ec eC eB eF eK en ey eY eD eR eq nr nc C B F K n y Yr Dn Rt q sn ad CC BB FF KK NN YY zn bd DC DB DF DK DN DY C2 B2 F2 K2 n2 y2 Pr Rs Qu qd hd wt Sp Be ts un tx ro co mp my md mr dr nw tk cs sa go to tn dm at_ so sn zn sv _ _ _ hP hD (hT) (hG) (hM) (hSh) (hKp) (hSe) hS hl

set_option maxHeartbeats 4000000 in
set_option maxRecDepth 100000 in
theorem law_count {p : Program} {l : Launch} {e : Env} {s : State} {m : MethodId} {below : List Frame} {meth : Method} {c : Code} {b L i : Nat} {xs : Nat → Int32} {G : Gv} {ν μ : Nat → Nat} {A : Nat → Prop} {H : Heap} {locs : List Loc} {ls : Array Slot} {sc : Int64} {sv : Nat} {tn : Nat} {Sg : Nat → Int32} {nb : Nat → Int32} {er : Nat} {ec : Nat} {eC : Nat → Int32} {eB : Nat → Int32} {eF : Nat → Int32} {eK : Nat → Int32} {en : Nat} {ey : Int32} {eY : Nat → Int32} {eD : Nat → Int32} {eR : Nat → Int32} {eq : Nat} {nr : Nat} {nc : Nat} {C : Nat → Int32} {B : Nat → Int32} {F : Nat → Int32} {K : Nat → Int32} {n : Nat} {y : Int32} {Yr : Nat → Int32} {Dn : Nat → Int32} {Rt : Nat → Int32} {q : Nat} {sn : Nat} {ad : Nat → Nat → Nat} {CC : Nat → Nat → Int32} {BB : Nat → Nat → Int32} {FF : Nat → Nat → Int32} {KK : Nat → Nat → Int32} {NN : Nat → Nat} {YY : Nat → Int32} {zn : Nat} {bd : Nat → Nat → Nat} {DC : Nat → Nat → Int32} {DB : Nat → Nat → Int32} {DF : Nat → Nat → Int32} {DK : Nat → Nat → Int32} {DN : Nat → Nat} {DY : Nat → Int32} {C2 : Nat → Int32} {B2 : Nat → Int32} {F2 : Nat → Int32} {K2 : Nat → Int32} {n2 : Nat} {y2 : Int32} {Pr : Nat → Int32} {Rs : Nat → Int32} {Qu : Nat → Int32} {qd : Int64} {hd : Nat} {wt : Nat} {Sp : Nat → Int32} {Be : Nat → Int32} {ts : Int32} {un : Nat} {tx : Nat → Int32} {ro : Nat → Int32} {co : Nat → Int32} {mp : Nat → Int32} {my : Nat → Int32} {md : Nat → Int32} {mr : Nat → Int32} {dr : Nat → Int32} {nw : Nat → Int32} {tk : Nat → Int32} {cs : Nat → Int32} {sa : Nat → Int32} {go : Nat → Int32} {to : Nat → Int32} {dm : Nat} {at_ : Nat} {so : Bool} (hC : LC p s m meth c b L xs G A) (hL : L ≤ 2048) (hi : i + 4 ≤ L) (hP : va_P G.1 vwCl (wX G ν sc sv tn Sg nb er ec eC eB eF eK en ey eY eD eR eq nr nc C B F K n y Yr Dn Rt q sn ad CC BB FF KK NN YY zn bd DC DB DF DK DN DY C2 B2 F2 K2 n2 y2 Pr Rs Qu qd hd wt Sp Be ts un ++ wM G μ tx ro co mp my md mr dr nw tk cs sa go to tn dm at_ so sn zn sv) H) (hD : va_D A (wX G ν sc sv tn Sg nb er ec eC eB eF eK en ey eY eD eR eq nr nc C B F K n y Yr Dn Rt q sn ad CC BB FF KK NN YY zn bd DC DB DF DK DN DY C2 B2 F2 K2 n2 y2 Pr Rs Qu qd hd wt Sp Be ts un ++ wM G μ tx ro co mp my md mr dr nw tk cs sa go to tn dm at_ so sn zn sv)) (hT : TeR Sg tn tx tn) (hG : GrR nr nc Yr Dn Rt q ro co mp my md mr) (hM : MoR nr nc C B F K n y nw 0) (hSh : sn ≤ 8 ∧ sn = sn ∧ ShR nr nc CC BB FF KK NN YY sn nw 42) (hKp : zn ≤ 2 ∧ zn = zn ∧ ShR nr nc DC DB DF DK DN DY zn nw 378) (hSe : SeR sc sv sa sv) (hS : va_S A s.heap H locs) (hl : lv_has ls 4 [(0, .ref b), (1, .ref (ν 0)), (2, .ref (μ 0)), (3, .int (nI i))]) (Kt : Kp p l e s m below meth c b i G ν μ A) : WL p l e s m below meth c b H locs (F0 m 877 ls []) := by
  obtain ⟨hx, hb, hr, hml, hown, hts, hX, hbl, hlk, hE, hA, hbA⟩ := hC
  have ht : tn ≤ 200 := hT.1
  have hnar := hT.2.2.2
  have hsn : sn ≤ 8 := hSh.1
  have hzn : zn ≤ 2 := hKp.1
  have hsv : sv ≤ 12 := hSe.1
  obtain ⟨hg1, hg2, hro, hco, hmp, hq, hvc, hsc⟩ := id hG
  obtain ⟨⟨hn0, hn⟩, hn1, hy0, ⟨yv, hyv2, hyv⟩, hv, hvf, hsm⟩ := id hM
  have hcl := cells_le hg1 hg2
  have hyw : y.toInt < 1000 := by rw [hyv, nI_toInt (by omega)]; omega
  obtain ⟨w, ew⟩ : ∃ v, xs (i + 1) = v := ⟨_, rfl⟩
  · refine lv_aload_n hx hb dL_law_877 rfl (lv_at hl 1 rfl) ?_
    refine lv_aload_n hx hb dL_law_878 rfl (lv_at hl 0 rfl) ?_
    refine lv_iload_n hx hb dL_law_879 rfl (lv_at hl 3 rfl) ?_
    refine lv_iconst (v := 1) hx hb dL_law_880 (by decide) ?_
    refine lv_iadd hx hb dL_law_881 ?_
    rw [show nI i + (1 : Int32) = nI (i + 1) from nI_add i 1]
    refine va_sld hx hb hX hbl hbA hS (vp_in_nI (by omega) (by omega)) dL_law_882 ?_
    rw [nI_clamp (show i + 1 < 2 ^ 31 by omega), ew]
    refine rd_callL (As := [.int w]) (rest := []) (wX_len _ _ _ _ _ _ _ _ _ _ _ _ _ _ _ _ _ _ _ _ _ _ _ _ _ _ _ _ _ _ _ _ _ _ _ _ _ _ _ _ _ _ _ _ _ _ _ _ _ _ _ _ _ _ _ _ _ _ _ _ _ _ _ ) hx hb hml hown hts hE hl.1 hP hS (f_X9_count l G ν _ _ _ _ _ _ _ _ _ _ _ _ _ _ _ _ _ _ _ _ _ _ _ _ _ _ _ _ _ _ _ _ _ _ _ _ _ _ _ _ _ _ _ _ _ _ _ _ _ _ _ _ _ _ _ _ _ _ _ _ _ _ hg1 hg2 hn hq) (cw_L_126 hts) ⟨(Nat.le_of_ble_eq_true rfl), (Nat.le_of_ble_eq_true rfl)⟩ ⟨(Nat.le_of_ble_eq_true rfl), (Nat.le_of_ble_eq_true rfl)⟩ rfl rfl rfl rfl rfl (Nat.le_of_ble_eq_true rfl) dL_law_883 ?_
    refine lv_aload_n hx hb dL_law_886 rfl (lv_at hl 2 rfl) ?_
    refine lv_aload_n hx hb dL_law_887 rfl (lv_at hl 0 rfl) ?_
    refine lv_iload_n hx hb dL_law_888 rfl (lv_at hl 3 rfl) ?_
    refine lv_iconst (v := 1) hx hb dL_law_889 (by decide) ?_
    refine lv_iadd hx hb dL_law_890 ?_
    rw [show nI i + (1 : Int32) = nI (i + 1) from nI_add i 1]
    refine va_sld hx hb hX hbl hbA hS (vp_in_nI (by omega) (by omega)) dL_law_891 ?_
    rw [nI_clamp (show i + 1 < 2 ^ 31 by omega), ew]
    refine rd_callR (As := [.int w]) (rest := [.int (ctR nr nc C B F n y q sv sn zn tn w)]) (wX_len _ _ _ _ _ _ _ _ _ _ _ _ _ _ _ _ _ _ _ _ _ _ _ _ _ _ _ _ _ _ _ _ _ _ _ _ _ _ _ _ _ _ _ _ _ _ _ _ _ _ _ _ _ _ _ _ _ _ _ _ _ _ _ ) (wM_len _ _ _ _ _ _ _ _ _ _ _ _ _ _ _ _ _ _ _ _ _ _ _ ) hx hb hml hown hts hE hl.1 hP hS (c_X10_count l G _ _ _ _ _ _ _ _ _ _ _ _ _ _ _ _ _ _ _ _ _ _ _ _ _ _ _ _ _ _ _ _ _ _ _ _ _ _ _ _ _ hro hco hg1 hg2 hn1 hn hmp hq) (cw_L_129 hts) ⟨(Nat.le_of_ble_eq_true rfl), (Nat.le_of_ble_eq_true rfl)⟩ ⟨(Nat.le_of_ble_eq_true rfl), (Nat.le_of_ble_eq_true rfl)⟩ rfl rfl rfl rfl rfl (Nat.le_of_ble_eq_true rfl) dL_law_892 ?_
    show WL p l e s m below meth c b H locs (F0 m 895 ls [.int (ctM nr nc nw n q sv sn zn tn w), .int (ctR nr nc C B F n y q sv sn zn tn w)])
    refine lv_icmp_eq (tgt := 900) hx hb dL_law_895 (by decide) (fun _ => ?_) (fun z => absurd (by unfold ctR ctM; rw [hy0, stand_same hg1 hg2 hv hsm hy0 hyw, lost_same hg1 hg2 hv hsm hy0 hyw]) z)
    exact Kt sc sv tn Sg nb er ec eC eB eF eK en ey eY eD eR eq nr nc C B F K n y Yr Dn Rt q sn ad CC BB FF KK NN YY zn bd DC DB DF DK DN DY C2 B2 F2 K2 n2 y2 Pr Rs Qu qd hd wt Sp Be ts un tx ro co mp my md mr dr nw tk cs sa go to tn dm at_ so sn zn sv _ _ _ hP hD (hT) (hG) (hM) (hSh) (hKp) (hSe) hS hl
