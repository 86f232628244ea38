/-! the cases of the law, first -/
set_option maxHeartbeats 4000000 in
set_option maxRecDepth 100000 in
theorem law_write {p : Program} {l : Launch} {e : Env} {s : State} {m : MethodId} {below : List Frame} {meth : Method} {c : Code} {b L i : Nat} {xs : Nat → Int32} {G : Gv} {ν μ : Nat → Nat} {A : Nat → Prop} {H : Heap} {locs : List Loc} {ls : Array Slot} {sc : Int64} {sv : Nat} {tn : Nat} {Sg : Nat → Int32} {nb : Nat → Int32} {er : Nat} {ec : Nat} {eC : Nat → Int32} {eB : Nat → Int32} {eF : Nat → Int32} {eK : Nat → Int32} {en : Nat} {ey : Int32} {eY : Nat → Int32} {eD : Nat → Int32} {eR : Nat → Int32} {eq : Nat} {nr : Nat} {nc : Nat} {C : Nat → Int32} {B : Nat → Int32} {F : Nat → Int32} {K : Nat → Int32} {n : Nat} {y : Int32} {Yr : Nat → Int32} {Dn : Nat → Int32} {Rt : Nat → Int32} {q : Nat} {sn : Nat} {ad : Nat → Nat → Nat} {CC : Nat → Nat → Int32} {BB : Nat → Nat → Int32} {FF : Nat → Nat → Int32} {KK : Nat → Nat → Int32} {NN : Nat → Nat} {YY : Nat → Int32} {zn : Nat} {bd : Nat → Nat → Nat} {DC : Nat → Nat → Int32} {DB : Nat → Nat → Int32} {DF : Nat → Nat → Int32} {DK : Nat → Nat → Int32} {DN : Nat → Nat} {DY : Nat → Int32} {C2 : Nat → Int32} {B2 : Nat → Int32} {F2 : Nat → Int32} {K2 : Nat → Int32} {n2 : Nat} {y2 : Int32} {Pr : Nat → Int32} {Rs : Nat → Int32} {Qu : Nat → Int32} {qd : Int64} {hd : Nat} {wt : Nat} {Sp : Nat → Int32} {Be : Nat → Int32} {ts : Int32} {un : Nat} {tx : Nat → Int32} {ro : Nat → Int32} {co : Nat → Int32} {mp : Nat → Int32} {my : Nat → Int32} {md : Nat → Int32} {mr : Nat → Int32} {dr : Nat → Int32} {nw : Nat → Int32} {tk : Nat → Int32} {cs : Nat → Int32} {sa : Nat → Int32} {go : Nat → Int32} {to : Nat → Int32} {dm : Nat} {at_ : Nat} {so : Bool} (hC : LC p s m meth c b L xs G A) (hL : L ≤ 2048) (hi : i + 4 ≤ L) (hP : va_P G.1 vwCl (wX G ν sc sv tn Sg nb er ec eC eB eF eK en ey eY eD eR eq nr nc C B F K n y Yr Dn Rt q sn ad CC BB FF KK NN YY zn bd DC DB DF DK DN DY C2 B2 F2 K2 n2 y2 Pr Rs Qu qd hd wt Sp Be ts un ++ wM G μ tx ro co mp my md mr dr nw tk cs sa go to tn dm at_ so sn zn sv) H) (hD : va_D A (wX G ν sc sv tn Sg nb er ec eC eB eF eK en ey eY eD eR eq nr nc C B F K n y Yr Dn Rt q sn ad CC BB FF KK NN YY zn bd DC DB DF DK DN DY C2 B2 F2 K2 n2 y2 Pr Rs Qu qd hd wt Sp Be ts un ++ wM G μ tx ro co mp my md mr dr nw tk cs sa go to tn dm at_ so sn zn sv)) (hT : TeR Sg tn tx tn) (hG : GrR nr nc Yr Dn Rt q ro co mp my md mr) (hM : MoR nr nc C B F K n y nw 0) (hSh : sn ≤ 8 ∧ sn = sn ∧ ShR nr nc CC BB FF KK NN YY sn nw 42) (hKp : zn ≤ 2 ∧ zn = zn ∧ ShR nr nc DC DB DF DK DN DY zn nw 378) (hSe : SeR sc sv sa sv) (hS : va_S A s.heap H locs) (hl : lv_has ls 4 [(0, .ref b), (1, .ref (ν 0)), (2, .ref (μ 0)), (3, .int (nI i))]) (Kt : Kp p l e s m below meth c b i G ν μ A) : WL p l e s m below meth c b H locs (F0 m 160 ls []) := by
  obtain ⟨hx, hb, hr, hml, hown, hts, hX, hbl, hlk, hE, hA, hbA⟩ := hC
  have ht : tn ≤ 200 := hT.1
  have hnar := hT.2.2.2
  have hsn : sn ≤ 8 := hSh.1
  have hzn : zn ≤ 2 := hKp.1
  have hsv : sv ≤ 12 := hSe.1
  obtain ⟨hg1, hg2, hro, hco, hmp, hq, hvc, hsc⟩ := id hG
  obtain ⟨⟨hn0, hn⟩, hn1, hy0, ⟨yv, hyv2, hyv⟩, hv, hvf, hsm⟩ := id hM
  have hcl := cells_le hg1 hg2
  have hyw : y.toInt < 1000 := by rw [hyv, nI_toInt (by omega)]; omega
  refine lv_aload_n hx hb dL_law_160 rfl (lv_at hl 1 rfl) ?_
  refine lv_aload_n hx hb dL_law_161 rfl (lv_at hl 0 rfl) ?_
  refine lv_iload_n hx hb dL_law_162 rfl (lv_at hl 3 rfl) ?_
  refine lv_iconst (v := 1) hx hb dL_law_163 (by decide) ?_
  refine lv_iadd hx hb dL_law_164 ?_
  rw [show nI i + (1 : Int32) = nI (i + 1) from nI_add i 1]
  refine va_sld hx hb hX hbl hbA hS (vp_in_nI (by omega) (by omega)) dL_law_165 ?_
  rw [nI_clamp (show i + 1 < 2 ^ 31 by omega)]
  refine ct_callL (As := [.int (xs (i + 1))]) (rest := []) (wX_len _ _ _ _ _ _ _ _ _ _ _ _ _ _ _ _ _ _ _ _ _ _ _ _ _ _ _ _ _ _ _ _ _ _ _ _ _ _ _ _ _ _ _ _ _ _ _ _ _ _ _ _ _ _ _ _ _ _ _ _ _ _ _ ) (wM_len _ _ _ _ _ _ _ _ _ _ _ _ _ _ _ _ _ _ _ _ _ _ _ ) hx hb hml hown hts hE hA hl.1 hP hD hS (f_X9_write l G ν _ _ _ _ _ _ _ _ _ _ _ _ _ _ _ _ _ _ _ _ _ _ _ _ _ _ _ _ _ _ _ _ _ _ _ _ _ _ _ _ _ _ _ _ _ _ _ _ _ _ _ _ _ _ _ _ _ _ _ _ _ _ ht) (cw_L_13 hts) ⟨(Nat.le_of_ble_eq_true rfl), (Nat.le_of_ble_eq_true rfl)⟩ ⟨(Nat.le_of_ble_eq_true rfl), (Nat.le_of_ble_eq_true rfl)⟩ rfl rfl rfl rfl rfl (Nat.le_of_ble_eq_true rfl) dL_law_166 (fun v9 w9 H locs hpo hP hD hS => ?_)
  obtain ⟨rfl, rfl⟩ := hpo
  have hP : va_P G.1 vwCl (wX G ν sc sv (if wrB (xs (i + 1)) tn then tn + 1 else tn) (if wrB (xs (i + 1)) tn then upd Sg tn (cwc (xs (i + 1))) else Sg) nb er ec eC eB eF eK en ey eY eD eR eq nr nc C B F K n y Yr Dn Rt q sn ad CC BB FF KK NN YY zn bd DC DB DF DK DN DY C2 B2 F2 K2 n2 y2 Pr Rs Qu qd hd wt Sp Be ts un ++ wM G μ tx ro co mp my md mr dr nw tk cs sa go to tn dm at_ so sn zn sv) H := swap_P hP
  have hD : va_D A (wX G ν sc sv (if wrB (xs (i + 1)) tn then tn + 1 else tn) (if wrB (xs (i + 1)) tn then upd Sg tn (cwc (xs (i + 1))) else Sg) nb er ec eC eB eF eK en ey eY eD eR eq nr nc C B F K n y Yr Dn Rt q sn ad CC BB FF KK NN YY zn bd DC DB DF DK DN DY C2 B2 F2 K2 n2 y2 Pr Rs Qu qd hd wt Sp Be ts un ++ wM G μ tx ro co mp my md mr dr nw tk cs sa go to tn dm at_ so sn zn sv) := swap_D (n := 15) (k := 93) rfl rfl nd15 nd93 hD
  show WL p l e s m below meth c b H locs (F0 m 169 ls [.int (wrR (xs (i + 1)) tn)])
  refine lv_aload_n hx hb dL_law_169 rfl (lv_at hl 2 rfl) ?_
  refine lv_aload_n hx hb dL_law_170 rfl (lv_at hl 0 rfl) ?_
  refine lv_iload_n hx hb dL_law_171 rfl (lv_at hl 3 rfl) ?_
  refine lv_iconst (v := 1) hx hb dL_law_172 (by decide) ?_
  refine lv_iadd hx hb dL_law_173 ?_
  rw [show nI i + (1 : Int32) = nI (i + 1) from nI_add i 1]
  refine va_sld hx hb hX hbl hbA hS (vp_in_nI (by omega) (by omega)) dL_law_174 ?_
  rw [nI_clamp (show i + 1 < 2 ^ 31 by omega)]
  refine ct_callR (As := [.int (xs (i + 1))]) (rest := [.int (wrR (xs (i + 1)) tn)]) (wX_len _ _ _ _ _ _ _ _ _ _ _ _ _ _ _ _ _ _ _ _ _ _ _ _ _ _ _ _ _ _ _ _ _ _ _ _ _ _ _ _ _ _ _ _ _ _ _ _ _ _ _ _ _ _ _ _ _ _ _ _ _ _ _ ) (wM_len _ _ _ _ _ _ _ _ _ _ _ _ _ _ _ _ _ _ _ _ _ _ _ ) hx hb hml hown hts hE hA hl.1 hP hD hS (c_X10_write l G _ _ _ _ _ _ _ _ _ _ _ _ _ _ _ _ _ _ _ _ _ _ _ _ _ _ _ _ _ _ _ _ _ _ _ _ _ ht) (cw_L_17 hts) ⟨(Nat.le_of_ble_eq_true rfl), (Nat.le_of_ble_eq_true rfl)⟩ ⟨(Nat.le_of_ble_eq_true rfl), (Nat.le_of_ble_eq_true rfl)⟩ rfl rfl rfl rfl rfl (Nat.le_of_ble_eq_true rfl) dL_law_175 (fun v9 w9 H locs hpo hP hD hS => ?_)
  obtain ⟨rfl, rfl⟩ := hpo
  have hP : va_P G.1 vwCl (wX G ν sc sv (if wrB (xs (i + 1)) tn then tn + 1 else tn) (if wrB (xs (i + 1)) tn then upd Sg tn (cwc (xs (i + 1))) else Sg) nb er ec eC eB eF eK en ey eY eD eR eq nr nc C B F K n y Yr Dn Rt q sn ad CC BB FF KK NN YY zn bd DC DB DF DK DN DY C2 B2 F2 K2 n2 y2 Pr Rs Qu qd hd wt Sp Be ts un ++ wM G μ (if inn (xs (i + 1)) 32 126 && !decide (tn = 200) then upd tx tn (byt (xs (i + 1))) else tx) ro co mp my md mr dr nw tk cs sa go to (if inn (xs (i + 1)) 32 126 && !decide (tn = 200) then tn + 1 else tn) dm at_ so sn zn sv) H := hP
  have hD : va_D A (wX G ν sc sv (if wrB (xs (i + 1)) tn then tn + 1 else tn) (if wrB (xs (i + 1)) tn then upd Sg tn (cwc (xs (i + 1))) else Sg) nb er ec eC eB eF eK en ey eY eD eR eq nr nc C B F K n y Yr Dn Rt q sn ad CC BB FF KK NN YY zn bd DC DB DF DK DN DY C2 B2 F2 K2 n2 y2 Pr Rs Qu qd hd wt Sp Be ts un ++ wM G μ (if inn (xs (i + 1)) 32 126 && !decide (tn = 200) then upd tx tn (byt (xs (i + 1))) else tx) ro co mp my md mr dr nw tk cs sa go to (if inn (xs (i + 1)) 32 126 && !decide (tn = 200) then tn + 1 else tn) dm at_ so sn zn sv) := hD
  show WL p l e s m below meth c b H locs (F0 m 178 ls [.int (if inn (xs (i + 1)) 32 126 then (if tn = 200 then -3 else nI (tn + 1)) else -1), .int (wrR (xs (i + 1)) tn)])
  refine lv_icmp_eq (tgt := 900) hx hb dL_law_178 (by decide) (fun _ => ?_) (fun z => absurd (write_ans ht) z)
  exact Kt sc sv (if wrB (xs (i + 1)) tn then tn + 1 else tn) (if wrB (xs (i + 1)) tn then upd Sg tn (cwc (xs (i + 1))) else Sg) nb er ec eC eB eF eK en ey eY eD eR eq nr nc C B F K n y Yr Dn Rt q sn ad CC BB FF KK NN YY zn bd DC DB DF DK DN DY C2 B2 F2 K2 n2 y2 Pr Rs Qu qd hd wt Sp Be ts un (if inn (xs (i + 1)) 32 126 && !decide (tn = 200) then upd tx tn (byt (xs (i + 1))) else tx) ro co mp my md mr dr nw tk cs sa go to (if inn (xs (i + 1)) 32 126 && !decide (tn = 200) then tn + 1 else tn) dm at_ so sn zn sv _ _ _ hP hD (write_R hT (xs (i + 1))) (hG) (hM) (hSh) (hKp) (hSe) hS hl

set_option maxHeartbeats 4000000 in
set_option maxRecDepth 100000 in
theorem law_wipe {p : Program} {l : Launch} {e : Env} {s : State} {m : MethodId} {below : List Frame} {meth : Method} {c : Code} {b L i : Nat} {xs : Nat → Int32} {G : Gv} {ν μ : Nat → Nat} {A : Nat → Prop} {H : Heap} {locs : List Loc} {ls : Array Slot} {sc : Int64} {sv : Nat} {tn : Nat} {Sg : Nat → Int32} {nb : Nat → Int32} {er : Nat} {ec : Nat} {eC : Nat → Int32} {eB : Nat → Int32} {eF : Nat → Int32} {eK : Nat → Int32} {en : Nat} {ey : Int32} {eY : Nat → Int32} {eD : Nat → Int32} {eR : Nat → Int32} {eq : Nat} {nr : Nat} {nc : Nat} {C : Nat → Int32} {B : Nat → Int32} {F : Nat → Int32} {K : Nat → Int32} {n : Nat} {y : Int32} {Yr : Nat → Int32} {Dn : Nat → Int32} {Rt : Nat → Int32} {q : Nat} {sn : Nat} {ad : Nat → Nat → Nat} {CC : Nat → Nat → Int32} {BB : Nat → Nat → Int32} {FF : Nat → Nat → Int32} {KK : Nat → Nat → Int32} {NN : Nat → Nat} {YY : Nat → Int32} {zn : Nat} {bd : Nat → Nat → Nat} {DC : Nat → Nat → Int32} {DB : Nat → Nat → Int32} {DF : Nat → Nat → Int32} {DK : Nat → Nat → Int32} {DN : Nat → Nat} {DY : Nat → Int32} {C2 : Nat → Int32} {B2 : Nat → Int32} {F2 : Nat → Int32} {K2 : Nat → Int32} {n2 : Nat} {y2 : Int32} {Pr : Nat → Int32} {Rs : Nat → Int32} {Qu : Nat → Int32} {qd : Int64} {hd : Nat} {wt : Nat} {Sp : Nat → Int32} {Be : Nat → Int32} {ts : Int32} {un : Nat} {tx : Nat → Int32} {ro : Nat → Int32} {co : Nat → Int32} {mp : Nat → Int32} {my : Nat → Int32} {md : Nat → Int32} {mr : Nat → Int32} {dr : Nat → Int32} {nw : Nat → Int32} {tk : Nat → Int32} {cs : Nat → Int32} {sa : Nat → Int32} {go : Nat → Int32} {to : Nat → Int32} {dm : Nat} {at_ : Nat} {so : Bool} (hC : LC p s m meth c b L xs G A) (hL : L ≤ 2048) (hi : i + 4 ≤ L) (hP : va_P G.1 vwCl (wX G ν sc sv tn Sg nb er ec eC eB eF eK en ey eY eD eR eq nr nc C B F K n y Yr Dn Rt q sn ad CC BB FF KK NN YY zn bd DC DB DF DK DN DY C2 B2 F2 K2 n2 y2 Pr Rs Qu qd hd wt Sp Be ts un ++ wM G μ tx ro co mp my md mr dr nw tk cs sa go to tn dm at_ so sn zn sv) H) (hD : va_D A (wX G ν sc sv tn Sg nb er ec eC eB eF eK en ey eY eD eR eq nr nc C B F K n y Yr Dn Rt q sn ad CC BB FF KK NN YY zn bd DC DB DF DK DN DY C2 B2 F2 K2 n2 y2 Pr Rs Qu qd hd wt Sp Be ts un ++ wM G μ tx ro co mp my md mr dr nw tk cs sa go to tn dm at_ so sn zn sv)) (hT : TeR Sg tn tx tn) (hG : GrR nr nc Yr Dn Rt q ro co mp my md mr) (hM : MoR nr nc C B F K n y nw 0) (hSh : sn ≤ 8 ∧ sn = sn ∧ ShR nr nc CC BB FF KK NN YY sn nw 42) (hKp : zn ≤ 2 ∧ zn = zn ∧ ShR nr nc DC DB DF DK DN DY zn nw 378) (hSe : SeR sc sv sa sv) (hS : va_S A s.heap H locs) (hl : lv_has ls 4 [(0, .ref b), (1, .ref (ν 0)), (2, .ref (μ 0)), (3, .int (nI i))]) (Kt : Kp p l e s m below meth c b i G ν μ A) : WL p l e s m below meth c b H locs (F0 m 183 ls []) := by
  obtain ⟨hx, hb, hr, hml, hown, hts, hX, hbl, hlk, hE, hA, hbA⟩ := hC
  have ht : tn ≤ 200 := hT.1
  have hnar := hT.2.2.2
  have hsn : sn ≤ 8 := hSh.1
  have hzn : zn ≤ 2 := hKp.1
  have hsv : sv ≤ 12 := hSe.1
  obtain ⟨hg1, hg2, hro, hco, hmp, hq, hvc, hsc⟩ := id hG
  obtain ⟨⟨hn0, hn⟩, hn1, hy0, ⟨yv, hyv2, hyv⟩, hv, hvf, hsm⟩ := id hM
  have hcl := cells_le hg1 hg2
  have hyw : y.toInt < 1000 := by rw [hyv, nI_toInt (by omega)]; omega
  refine lv_aload_n hx hb dL_law_183 rfl (lv_at hl 1 rfl) ?_
  refine ct_callL (As := []) (rest := []) (wX_len _ _ _ _ _ _ _ _ _ _ _ _ _ _ _ _ _ _ _ _ _ _ _ _ _ _ _ _ _ _ _ _ _ _ _ _ _ _ _ _ _ _ _ _ _ _ _ _ _ _ _ _ _ _ _ _ _ _ _ _ _ _ _ ) (wM_len _ _ _ _ _ _ _ _ _ _ _ _ _ _ _ _ _ _ _ _ _ _ _ ) hx hb hml hown hts hE hA hl.1 hP hD hS (f_X9_wipe l G ν _ _ _ _ _ _ _ _ _ _ _ _ _ _ _ _ _ _ _ _ _ _ _ _ _ _ _ _ _ _ _ _ _ _ _ _ _ _ _ _ _ _ _ _ _ _ _ _ _ _ _ _ _ _ _ _ _ _ _ _ _ ) (cw_L_18 hts) ⟨(Nat.le_of_ble_eq_true rfl), (Nat.le_of_ble_eq_true rfl)⟩ ⟨(Nat.le_of_ble_eq_true rfl), (Nat.le_of_ble_eq_true rfl)⟩ rfl rfl rfl rfl rfl (Nat.le_of_ble_eq_true rfl) dL_law_184 (fun v9 w9 H locs hpo hP hD hS => ?_)
  obtain ⟨rfl, rfl⟩ := hpo
  have hP : va_P G.1 vwCl (wX G ν sc sv 0 Sg nb er ec eC eB eF eK en ey eY eD eR eq nr nc C B F K n y Yr Dn Rt q sn ad CC BB FF KK NN YY zn bd DC DB DF DK DN DY C2 B2 F2 K2 n2 y2 Pr Rs Qu qd hd wt Sp Be ts un ++ wM G μ tx ro co mp my md mr dr nw tk cs sa go to tn dm at_ so sn zn sv) H := swap_P hP
  have hD : va_D A (wX G ν sc sv 0 Sg nb er ec eC eB eF eK en ey eY eD eR eq nr nc C B F K n y Yr Dn Rt q sn ad CC BB FF KK NN YY zn bd DC DB DF DK DN DY C2 B2 F2 K2 n2 y2 Pr Rs Qu qd hd wt Sp Be ts un ++ wM G μ tx ro co mp my md mr dr nw tk cs sa go to tn dm at_ so sn zn sv) := swap_D (n := 15) (k := 93) rfl rfl nd15 nd93 hD
  show WL p l e s m below meth c b H locs (F0 m 187 ls [.int (nI tn)])
  refine lv_aload_n hx hb dL_law_187 rfl (lv_at hl 2 rfl) ?_
  refine ct_callR (As := []) (rest := [.int (nI tn)]) (wX_len _ _ _ _ _ _ _ _ _ _ _ _ _ _ _ _ _ _ _ _ _ _ _ _ _ _ _ _ _ _ _ _ _ _ _ _ _ _ _ _ _ _ _ _ _ _ _ _ _ _ _ _ _ _ _ _ _ _ _ _ _ _ _ ) (wM_len _ _ _ _ _ _ _ _ _ _ _ _ _ _ _ _ _ _ _ _ _ _ _ ) hx hb hml hown hts hE hA hl.1 hP hD hS (c_X10_wipe l G _ _ _ _ _ _ _ _ _ _ _ _ _ _ _ _ _ _ _ _ _ _ _ _ _ _ _ _ _ _ _ _ _ _ _ _ ) (cw_L_22 hts) ⟨(Nat.le_of_ble_eq_true rfl), (Nat.le_of_ble_eq_true rfl)⟩ ⟨(Nat.le_of_ble_eq_true rfl), (Nat.le_of_ble_eq_true rfl)⟩ rfl rfl rfl rfl rfl (Nat.le_of_ble_eq_true rfl) dL_law_188 (fun v9 w9 H locs hpo hP hD hS => ?_)
  obtain ⟨rfl, rfl⟩ := hpo
  have hP : va_P G.1 vwCl (wX G ν sc sv 0 Sg nb er ec eC eB eF eK en ey eY eD eR eq nr nc C B F K n y Yr Dn Rt q sn ad CC BB FF KK NN YY zn bd DC DB DF DK DN DY C2 B2 F2 K2 n2 y2 Pr Rs Qu qd hd wt Sp Be ts un ++ wM G μ tx ro co mp my md mr dr nw tk cs sa go to 0 dm at_ so sn zn sv) H := hP
  have hD : va_D A (wX G ν sc sv 0 Sg nb er ec eC eB eF eK en ey eY eD eR eq nr nc C B F K n y Yr Dn Rt q sn ad CC BB FF KK NN YY zn bd DC DB DF DK DN DY C2 B2 F2 K2 n2 y2 Pr Rs Qu qd hd wt Sp Be ts un ++ wM G μ tx ro co mp my md mr dr nw tk cs sa go to 0 dm at_ so sn zn sv) := hD
  show WL p l e s m below meth c b H locs (F0 m 191 ls [.int (nI tn), .int (nI tn)])
  refine lv_icmp_eq (tgt := 900) hx hb dL_law_191 (by decide) (fun _ => ?_) (fun z => absurd (rfl) z)
  exact Kt sc sv 0 Sg nb er ec eC eB eF eK en ey eY eD eR eq nr nc C B F K n y Yr Dn Rt q sn ad CC BB FF KK NN YY zn bd DC DB DF DK DN DY C2 B2 F2 K2 n2 y2 Pr Rs Qu qd hd wt Sp Be ts un tx ro co mp my md mr dr nw tk cs sa go to 0 dm at_ so sn zn sv _ _ _ hP hD (wipe_R hT) (hG) (hM) (hSh) (hKp) (hSe) hS hl

set_option maxHeartbeats 4000000 in
set_option maxRecDepth 100000 in
theorem law_thing {p : Program} {l : Launch} {e : Env} {s : State} {m : MethodId} {below : List Frame} {meth : Method} {c : Code} {b L i : Nat} {xs : Nat → Int32} {G : Gv} {ν μ : Nat → Nat} {A : Nat → Prop} {H : Heap} {locs : List Loc} {ls : Array Slot} {sc : Int64} {sv : Nat} {tn : Nat} {Sg : Nat → Int32} {nb : Nat → Int32} {er : Nat} {ec : Nat} {eC : Nat → Int32} {eB : Nat → Int32} {eF : Nat → Int32} {eK : Nat → Int32} {en : Nat} {ey : Int32} {eY : Nat → Int32} {eD : Nat → Int32} {eR : Nat → Int32} {eq : Nat} {nr : Nat} {nc : Nat} {C : Nat → Int32} {B : Nat → Int32} {F : Nat → Int32} {K : Nat → Int32} {n : Nat} {y : Int32} {Yr : Nat → Int32} {Dn : Nat → Int32} {Rt : Nat → Int32} {q : Nat} {sn : Nat} {ad : Nat → Nat → Nat} {CC : Nat → Nat → Int32} {BB : Nat → Nat → Int32} {FF : Nat → Nat → Int32} {KK : Nat → Nat → Int32} {NN : Nat → Nat} {YY : Nat → Int32} {zn : Nat} {bd : Nat → Nat → Nat} {DC : Nat → Nat → Int32} {DB : Nat → Nat → Int32} {DF : Nat → Nat → Int32} {DK : Nat → Nat → Int32} {DN : Nat → Nat} {DY : Nat → Int32} {C2 : Nat → Int32} {B2 : Nat → Int32} {F2 : Nat → Int32} {K2 : Nat → Int32} {n2 : Nat} {y2 : Int32} {Pr : Nat → Int32} {Rs : Nat → Int32} {Qu : Nat → Int32} {qd : Int64} {hd : Nat} {wt : Nat} {Sp : Nat → Int32} {Be : Nat → Int32} {ts : Int32} {un : Nat} {tx : Nat → Int32} {ro : Nat → Int32} {co : Nat → Int32} {mp : Nat → Int32} {my : Nat → Int32} {md : Nat → Int32} {mr : Nat → Int32} {dr : Nat → Int32} {nw : Nat → Int32} {tk : Nat → Int32} {cs : Nat → Int32} {sa : Nat → Int32} {go : Nat → Int32} {to : Nat → Int32} {dm : Nat} {at_ : Nat} {so : Bool} (hC : LC p s m meth c b L xs G A) (hL : L ≤ 2048) (hi : i + 4 ≤ L) (hP : va_P G.1 vwCl (wX G ν sc sv tn Sg nb er ec eC eB eF eK en ey eY eD eR eq nr nc C B F K n y Yr Dn Rt q sn ad CC BB FF KK NN YY zn bd DC DB DF DK DN DY C2 B2 F2 K2 n2 y2 Pr Rs Qu qd hd wt Sp Be ts un ++ wM G μ tx ro co mp my md mr dr nw tk cs sa go to tn dm at_ so sn zn sv) H) (hD : va_D A (wX G ν sc sv tn Sg nb er ec eC eB eF eK en ey eY eD eR eq nr nc C B F K n y Yr Dn Rt q sn ad CC BB FF KK NN YY zn bd DC DB DF DK DN DY C2 B2 F2 K2 n2 y2 Pr Rs Qu qd hd wt Sp Be ts un ++ wM G μ tx ro co mp my md mr dr nw tk cs sa go to tn dm at_ so sn zn sv)) (hT : TeR Sg tn tx tn) (hG : GrR nr nc Yr Dn Rt q ro co mp my md mr) (hM : MoR nr nc C B F K n y nw 0) (hSh : sn ≤ 8 ∧ sn = sn ∧ ShR nr nc CC BB FF KK NN YY sn nw 42) (hKp : zn ≤ 2 ∧ zn = zn ∧ ShR nr nc DC DB DF DK DN DY zn nw 378) (hSe : SeR sc sv sa sv) (hS : va_S A s.heap H locs) (hl : lv_has ls 4 [(0, .ref b), (1, .ref (ν 0)), (2, .ref (μ 0)), (3, .int (nI i))]) (Kt : Kp p l e s m below meth c b i G ν μ A) : WL p l e s m below meth c b H locs (F0 m 222 ls []) := by
  obtain ⟨hx, hb, hr, hml, hown, hts, hX, hbl, hlk, hE, hA, hbA⟩ := hC
  have ht : tn ≤ 200 := hT.1
  have hnar := hT.2.2.2
  have hsn : sn ≤ 8 := hSh.1
  have hzn : zn ≤ 2 := hKp.1
  have hsv : sv ≤ 12 := hSe.1
  obtain ⟨hg1, hg2, hro, hco, hmp, hq, hvc, hsc⟩ := id hG
  obtain ⟨⟨hn0, hn⟩, hn1, hy0, ⟨yv, hyv2, hyv⟩, hv, hvf, hsm⟩ := id hM
  have hcl := cells_le hg1 hg2
  have hyw : y.toInt < 1000 := by rw [hyv, nI_toInt (by omega)]; omega
  refine lv_aload_n hx hb dL_law_222 rfl (lv_at hl 1 rfl) ?_
  refine lv_aload_n hx hb dL_law_223 rfl (lv_at hl 0 rfl) ?_
  refine lv_iload_n hx hb dL_law_224 rfl (lv_at hl 3 rfl) ?_
  refine lv_iconst (v := 1) hx hb dL_law_225 (by decide) ?_
  refine lv_iadd hx hb dL_law_226 ?_
  rw [show nI i + (1 : Int32) = nI (i + 1) from nI_add i 1]
  refine va_sld hx hb hX hbl hbA hS (vp_in_nI (by omega) (by omega)) dL_law_227 ?_
  rw [nI_clamp (show i + 1 < 2 ^ 31 by omega)]
  refine lv_aload_n hx hb dL_law_228 rfl (lv_at hl 0 rfl) ?_
  refine lv_iload_n hx hb dL_law_229 rfl (lv_at hl 3 rfl) ?_
  refine lv_iconst (v := 2) hx hb dL_law_230 (by decide) ?_
  refine lv_iadd hx hb dL_law_231 ?_
  rw [show nI i + (2 : Int32) = nI (i + 2) from nI_add i 2]
  refine va_sld hx hb hX hbl hbA hS (vp_in_nI (by omega) (by omega)) dL_law_232 ?_
  rw [nI_clamp (show i + 2 < 2 ^ 31 by omega)]
  refine rd_callL (As := [.int (xs (i + 1)), .int (xs (i + 2))]) (rest := []) (wX_len _ _ _ _ _ _ _ _ _ _ _ _ _ _ _ _ _ _ _ _ _ _ _ _ _ _ _ _ _ _ _ _ _ _ _ _ _ _ _ _ _ _ _ _ _ _ _ _ _ _ _ _ _ _ _ _ _ _ _ _ _ _ _ ) hx hb hml hown hts hE hl.1 hP hS (f_X9_thing l G ν _ _ _ _ _ _ _ _ _ _ _ _ _ _ _ _ _ _ _ _ _ _ _ _ _ _ _ _ _ _ _ _ _ _ _ _ _ _ _ _ _ _ _ _ _ _ _ _ _ _ _ _ _ _ _ _ _ _ _ _ _ _ _ hg1 hg2 hn hq) (cw_L_31 hts) ⟨(Nat.le_of_ble_eq_true rfl), (Nat.le_of_ble_eq_true rfl)⟩ ⟨(Nat.le_of_ble_eq_true rfl), (Nat.le_of_ble_eq_true rfl)⟩ rfl rfl rfl rfl rfl (Nat.le_of_ble_eq_true rfl) dL_law_233 ?_
  refine lv_aload_n hx hb dL_law_236 rfl (lv_at hl 2 rfl) ?_
  refine lv_aload_n hx hb dL_law_237 rfl (lv_at hl 0 rfl) ?_
  refine lv_iload_n hx hb dL_law_238 rfl (lv_at hl 3 rfl) ?_
  refine lv_iconst (v := 1) hx hb dL_law_239 (by decide) ?_
  refine lv_iadd hx hb dL_law_240 ?_
  rw [show nI i + (1 : Int32) = nI (i + 1) from nI_add i 1]
  refine va_sld hx hb hX hbl hbA hS (vp_in_nI (by omega) (by omega)) dL_law_241 ?_
  rw [nI_clamp (show i + 1 < 2 ^ 31 by omega)]
  refine lv_aload_n hx hb dL_law_242 rfl (lv_at hl 0 rfl) ?_
  refine lv_iload_n hx hb dL_law_243 rfl (lv_at hl 3 rfl) ?_
  refine lv_iconst (v := 2) hx hb dL_law_244 (by decide) ?_
  refine lv_iadd hx hb dL_law_245 ?_
  rw [show nI i + (2 : Int32) = nI (i + 2) from nI_add i 2]
  refine va_sld hx hb hX hbl hbA hS (vp_in_nI (by omega) (by omega)) dL_law_246 ?_
  rw [nI_clamp (show i + 2 < 2 ^ 31 by omega)]
  refine rd_callR (As := [.int (xs (i + 1)), .int (xs (i + 2))]) (rest := [.int (thR n C B F K y (xs (i + 1)) (xs (i + 2)))]) (wX_len _ _ _ _ _ _ _ _ _ _ _ _ _ _ _ _ _ _ _ _ _ _ _ _ _ _ _ _ _ _ _ _ _ _ _ _ _ _ _ _ _ _ _ _ _ _ _ _ _ _ _ _ _ _ _ _ _ _ _ _ _ _ _ ) (wM_len _ _ _ _ _ _ _ _ _ _ _ _ _ _ _ _ _ _ _ _ _ _ _ ) hx hb hml hown hts hE hl.1 hP hS (c_X10_thing l G _ _ _ _ _ _ _ _ _ _ _ _ _ _ _ _ _ _ _ _ _ _ _ _ _ _ _ _ _ _ _ _ _ _ _ _ _ _ _ hn1 hn) (cw_L_35 hts) ⟨(Nat.le_of_ble_eq_true rfl), (Nat.le_of_ble_eq_true rfl)⟩ ⟨(Nat.le_of_ble_eq_true rfl), (Nat.le_of_ble_eq_true rfl)⟩ rfl rfl rfl rfl rfl (Nat.le_of_ble_eq_true rfl) dL_law_247 ?_
  show WL p l e s m below meth c b H locs (F0 m 250 ls [.int (thM nw n (xs (i + 1)) (xs (i + 2))), .int (thR n C B F K y (xs (i + 1)) (xs (i + 2)))])
  refine lv_icmp_eq (tgt := 900) hx hb dL_law_250 (by decide) (fun _ => ?_) (fun z => absurd ((thing_same hv hvf hsm hy0 hyw _ _ hn).symm) z)
  exact Kt sc sv tn Sg nb er ec eC eB eF eK en ey eY eD eR eq nr nc C B F K n y Yr Dn Rt q sn ad CC BB FF KK NN YY zn bd DC DB DF DK DN DY C2 B2 F2 K2 n2 y2 Pr Rs Qu qd hd wt Sp Be ts un tx ro co mp my md mr dr nw tk cs sa go to tn dm at_ so sn zn sv _ _ _ hP hD (hT) (hG) (hM) (hSh) (hKp) (hSe) hS hl

set_option maxHeartbeats 4000000 in
set_option maxRecDepth 100000 in
theorem law_at {p : Program} {l : Launch} {e : Env} {s : State} {m : MethodId} {below : List Frame} {meth : Method} {c : Code} {b L i : Nat} {xs : Nat → Int32} {G : Gv} {ν μ : Nat → Nat} {A : Nat → Prop} {H : Heap} {locs : List Loc} {ls : Array Slot} {sc : Int64} {sv : Nat} {tn : Nat} {Sg : Nat → Int32} {nb : Nat → Int32} {er : Nat} {ec : Nat} {eC : Nat → Int32} {eB : Nat → Int32} {eF : Nat → Int32} {eK : Nat → Int32} {en : Nat} {ey : Int32} {eY : Nat → Int32} {eD : Nat → Int32} {eR : Nat → Int32} {eq : Nat} {nr : Nat} {nc : Nat} {C : Nat → Int32} {B : Nat → Int32} {F : Nat → Int32} {K : Nat → Int32} {n : Nat} {y : Int32} {Yr : Nat → Int32} {Dn : Nat → Int32} {Rt : Nat → Int32} {q : Nat} {sn : Nat} {ad : Nat → Nat → Nat} {CC : Nat → Nat → Int32} {BB : Nat → Nat → Int32} {FF : Nat → Nat → Int32} {KK : Nat → Nat → Int32} {NN : Nat → Nat} {YY : Nat → Int32} {zn : Nat} {bd : Nat → Nat → Nat} {DC : Nat → Nat → Int32} {DB : Nat → Nat → Int32} {DF : Nat → Nat → Int32} {DK : Nat → Nat → Int32} {DN : Nat → Nat} {DY : Nat → Int32} {C2 : Nat → Int32} {B2 : Nat → Int32} {F2 : Nat → Int32} {K2 : Nat → Int32} {n2 : Nat} {y2 : Int32} {Pr : Nat → Int32} {Rs : Nat → Int32} {Qu : Nat → Int32} {qd : Int64} {hd : Nat} {wt : Nat} {Sp : Nat → Int32} {Be : Nat → Int32} {ts : Int32} {un : Nat} {tx : Nat → Int32} {ro : Nat → Int32} {co : Nat → Int32} {mp : Nat → Int32} {my : Nat → Int32} {md : Nat → Int32} {mr : Nat → Int32} {dr : Nat → Int32} {nw : Nat → Int32} {tk : Nat → Int32} {cs : Nat → Int32} {sa : Nat → Int32} {go : Nat → Int32} {to : Nat → Int32} {dm : Nat} {at_ : Nat} {so : Bool} (hC : LC p s m meth c b L xs G A) (hL : L ≤ 2048) (hi : i + 4 ≤ L) (hP : va_P G.1 vwCl (wX G ν sc sv tn Sg nb er ec eC eB eF eK en ey eY eD eR eq nr nc C B F K n y Yr Dn Rt q sn ad CC BB FF KK NN YY zn bd DC DB DF DK DN DY C2 B2 F2 K2 n2 y2 Pr Rs Qu qd hd wt Sp Be ts un ++ wM G μ tx ro co mp my md mr dr nw tk cs sa go to tn dm at_ so sn zn sv) H) (hD : va_D A (wX G ν sc sv tn Sg nb er ec eC eB eF eK en ey eY eD eR eq nr nc C B F K n y Yr Dn Rt q sn ad CC BB FF KK NN YY zn bd DC DB DF DK DN DY C2 B2 F2 K2 n2 y2 Pr Rs Qu qd hd wt Sp Be ts un ++ wM G μ tx ro co mp my md mr dr nw tk cs sa go to tn dm at_ so sn zn sv)) (hT : TeR Sg tn tx tn) (hG : GrR nr nc Yr Dn Rt q ro co mp my md mr) (hM : MoR nr nc C B F K n y nw 0) (hSh : sn ≤ 8 ∧ sn = sn ∧ ShR nr nc CC BB FF KK NN YY sn nw 42) (hKp : zn ≤ 2 ∧ zn = zn ∧ ShR nr nc DC DB DF DK DN DY zn nw 378) (hSe : SeR sc sv sa sv) (hS : va_S A s.heap H locs) (hl : lv_has ls 4 [(0, .ref b), (1, .ref (ν 0)), (2, .ref (μ 0)), (3, .int (nI i))]) (Kt : Kp p l e s m below meth c b i G ν μ A) : WL p l e s m below meth c b H locs (F0 m 255 ls []) := by
  obtain ⟨hx, hb, hr, hml, hown, hts, hX, hbl, hlk, hE, hA, hbA⟩ := hC
  have ht : tn ≤ 200 := hT.1
  have hnar := hT.2.2.2
  have hsn : sn ≤ 8 := hSh.1
  have hzn : zn ≤ 2 := hKp.1
  have hsv : sv ≤ 12 := hSe.1
  obtain ⟨hg1, hg2, hro, hco, hmp, hq, hvc, hsc⟩ := id hG
  obtain ⟨⟨hn0, hn⟩, hn1, hy0, ⟨yv, hyv2, hyv⟩, hv, hvf, hsm⟩ := id hM
  have hcl := cells_le hg1 hg2
  have hyw : y.toInt < 1000 := by rw [hyv, nI_toInt (by omega)]; omega
  refine lv_aload_n hx hb dL_law_255 rfl (lv_at hl 1 rfl) ?_
  refine lv_aload_n hx hb dL_law_256 rfl (lv_at hl 0 rfl) ?_
  refine lv_iload_n hx hb dL_law_257 rfl (lv_at hl 3 rfl) ?_
  refine lv_iconst (v := 1) hx hb dL_law_258 (by decide) ?_
  refine lv_iadd hx hb dL_law_259 ?_
  rw [show nI i + (1 : Int32) = nI (i + 1) from nI_add i 1]
  refine va_sld hx hb hX hbl hbA hS (vp_in_nI (by omega) (by omega)) dL_law_260 ?_
  rw [nI_clamp (show i + 1 < 2 ^ 31 by omega)]
  refine rd_callL (As := [.int (xs (i + 1))]) (rest := []) (wX_len _ _ _ _ _ _ _ _ _ _ _ _ _ _ _ _ _ _ _ _ _ _ _ _ _ _ _ _ _ _ _ _ _ _ _ _ _ _ _ _ _ _ _ _ _ _ _ _ _ _ _ _ _ _ _ _ _ _ _ _ _ _ _ ) hx hb hml hown hts hE hl.1 hP hS (f_X9_at l G ν _ _ _ _ _ _ _ _ _ _ _ _ _ _ _ _ _ _ _ _ _ _ _ _ _ _ _ _ _ _ _ _ _ _ _ _ _ _ _ _ _ _ _ _ _ _ _ _ _ _ _ _ _ _ _ _ _ _ _ _ _ _ hg1 hg2 hn hq) (cw_L_36 hts) ⟨(Nat.le_of_ble_eq_true rfl), (Nat.le_of_ble_eq_true rfl)⟩ ⟨(Nat.le_of_ble_eq_true rfl), (Nat.le_of_ble_eq_true rfl)⟩ rfl rfl rfl rfl rfl (Nat.le_of_ble_eq_true rfl) dL_law_261 ?_
  refine lv_aload_n hx hb dL_law_264 rfl (lv_at hl 2 rfl) ?_
  refine lv_aload_n hx hb dL_law_265 rfl (lv_at hl 0 rfl) ?_
  refine lv_iload_n hx hb dL_law_266 rfl (lv_at hl 3 rfl) ?_
  refine lv_iconst (v := 1) hx hb dL_law_267 (by decide) ?_
  refine lv_iadd hx hb dL_law_268 ?_
  rw [show nI i + (1 : Int32) = nI (i + 1) from nI_add i 1]
  refine va_sld hx hb hX hbl hbA hS (vp_in_nI (by omega) (by omega)) dL_law_269 ?_
  rw [nI_clamp (show i + 1 < 2 ^ 31 by omega)]
  refine rd_callR (As := [.int (xs (i + 1))]) (rest := [.int (if inG nr nc (xs (i + 1)) then thI C n (xs (i + 1)) else -1)]) (wX_len _ _ _ _ _ _ _ _ _ _ _ _ _ _ _ _ _ _ _ _ _ _ _ _ _ _ _ _ _ _ _ _ _ _ _ _ _ _ _ _ _ _ _ _ _ _ _ _ _ _ _ _ _ _ _ _ _ _ _ _ _ _ _ ) (wM_len _ _ _ _ _ _ _ _ _ _ _ _ _ _ _ _ _ _ _ _ _ _ _ ) hx hb hml hown hts hE hl.1 hP hS (c_X10_at l G _ _ _ _ _ _ _ _ _ _ _ _ _ _ _ _ _ _ _ _ _ _ _ _ _ _ _ _ _ _ _ _ _ _ _ _ _ _ _ _ _ hro hco hg1 hg2 hn1 hn hmp hq) (cw_L_39 hts) ⟨(Nat.le_of_ble_eq_true rfl), (Nat.le_of_ble_eq_true rfl)⟩ ⟨(Nat.le_of_ble_eq_true rfl), (Nat.le_of_ble_eq_true rfl)⟩ rfl rfl rfl rfl rfl (Nat.le_of_ble_eq_true rfl) dL_law_270 ?_
  show WL p l e s m below meth c b H locs (F0 m 273 ls [.int (if inG nr nc (xs (i + 1)) then lsx (fun k => decide (cel nw 0 k = (xs (i + 1)))) n else -1), .int (if inG nr nc (xs (i + 1)) then thI C n (xs (i + 1)) else -1)])
  refine lv_icmp_eq (tgt := 900) hx hb dL_law_273 (by decide) (fun _ => ?_) (fun z => absurd (by rw [th_same hv hsm]) z)
  exact Kt sc sv tn Sg nb er ec eC eB eF eK en ey eY eD eR eq nr nc C B F K n y Yr Dn Rt q sn ad CC BB FF KK NN YY zn bd DC DB DF DK DN DY C2 B2 F2 K2 n2 y2 Pr Rs Qu qd hd wt Sp Be ts un tx ro co mp my md mr dr nw tk cs sa go to tn dm at_ so sn zn sv _ _ _ hP hD (hT) (hG) (hM) (hSh) (hKp) (hSe) hS hl

set_option maxHeartbeats 4000000 in
set_option maxRecDepth 100000 in
theorem law_free {p : Program} {l : Launch} {e : Env} {s : State} {m : MethodId} {below : List Frame} {meth : Method} {c : Code} {b L i : Nat} {xs : Nat → Int32} {G : Gv} {ν μ : Nat → Nat} {A : Nat → Prop} {H : Heap} {locs : List Loc} {ls : Array Slot} {sc : Int64} {sv : Nat} {tn : Nat} {Sg : Nat → Int32} {nb : Nat → Int32} {er : Nat} {ec : Nat} {eC : Nat → Int32} {eB : Nat → Int32} {eF : Nat → Int32} {eK : Nat → Int32} {en : Nat} {ey : Int32} {eY : Nat → Int32} {eD : Nat → Int32} {eR : Nat → Int32} {eq : Nat} {nr : Nat} {nc : Nat} {C : Nat → Int32} {B : Nat → Int32} {F : Nat → Int32} {K : Nat → Int32} {n : Nat} {y : Int32} {Yr : Nat → Int32} {Dn : Nat → Int32} {Rt : Nat → Int32} {q : Nat} {sn : Nat} {ad : Nat → Nat → Nat} {CC : Nat → Nat → Int32} {BB : Nat → Nat → Int32} {FF : Nat → Nat → Int32} {KK : Nat → Nat → Int32} {NN : Nat → Nat} {YY : Nat → Int32} {zn : Nat} {bd : Nat → Nat → Nat} {DC : Nat → Nat → Int32} {DB : Nat → Nat → Int32} {DF : Nat → Nat → Int32} {DK : Nat → Nat → Int32} {DN : Nat → Nat} {DY : Nat → Int32} {C2 : Nat → Int32} {B2 : Nat → Int32} {F2 : Nat → Int32} {K2 : Nat → Int32} {n2 : Nat} {y2 : Int32} {Pr : Nat → Int32} {Rs : Nat → Int32} {Qu : Nat → Int32} {qd : Int64} {hd : Nat} {wt : Nat} {Sp : Nat → Int32} {Be : Nat → Int32} {ts : Int32} {un : Nat} {tx : Nat → Int32} {ro : Nat → Int32} {co : Nat → Int32} {mp : Nat → Int32} {my : Nat → Int32} {md : Nat → Int32} {mr : Nat → Int32} {dr : Nat → Int32} {nw : Nat → Int32} {tk : Nat → Int32} {cs : Nat → Int32} {sa : Nat → Int32} {go : Nat → Int32} {to : Nat → Int32} {dm : Nat} {at_ : Nat} {so : Bool} (hC : LC p s m meth c b L xs G A) (hL : L ≤ 2048) (hi : i + 4 ≤ L) (hP : va_P G.1 vwCl (wX G ν sc sv tn Sg nb er ec eC eB eF eK en ey eY eD eR eq nr nc C B F K n y Yr Dn Rt q sn ad CC BB FF KK NN YY zn bd DC DB DF DK DN DY C2 B2 F2 K2 n2 y2 Pr Rs Qu qd hd wt Sp Be ts un ++ wM G μ tx ro co mp my md mr dr nw tk cs sa go to tn dm at_ so sn zn sv) H) (hD : va_D A (wX G ν sc sv tn Sg nb er ec eC eB eF eK en ey eY eD eR eq nr nc C B F K n y Yr Dn Rt q sn ad CC BB FF KK NN YY zn bd DC DB DF DK DN DY C2 B2 F2 K2 n2 y2 Pr Rs Qu qd hd wt Sp Be ts un ++ wM G μ tx ro co mp my md mr dr nw tk cs sa go to tn dm at_ so sn zn sv)) (hT : TeR Sg tn tx tn) (hG : GrR nr nc Yr Dn Rt q ro co mp my md mr) (hM : MoR nr nc C B F K n y nw 0) (hSh : sn ≤ 8 ∧ sn = sn ∧ ShR nr nc CC BB FF KK NN YY sn nw 42) (hKp : zn ≤ 2 ∧ zn = zn ∧ ShR nr nc DC DB DF DK DN DY zn nw 378) (hSe : SeR sc sv sa sv) (hS : va_S A s.heap H locs) (hl : lv_has ls 4 [(0, .ref b), (1, .ref (ν 0)), (2, .ref (μ 0)), (3, .int (nI i))]) (Kt : Kp p l e s m below meth c b i G ν μ A) : WL p l e s m below meth c b H locs (F0 m 278 ls []) := by
  obtain ⟨hx, hb, hr, hml, hown, hts, hX, hbl, hlk, hE, hA, hbA⟩ := hC
  have ht : tn ≤ 200 := hT.1
  have hnar := hT.2.2.2
  have hsn : sn ≤ 8 := hSh.1
  have hzn : zn ≤ 2 := hKp.1
  have hsv : sv ≤ 12 := hSe.1
  obtain ⟨hg1, hg2, hro, hco, hmp, hq, hvc, hsc⟩ := id hG
  obtain ⟨⟨hn0, hn⟩, hn1, hy0, ⟨yv, hyv2, hyv⟩, hv, hvf, hsm⟩ := id hM
  have hcl := cells_le hg1 hg2
  have hyw : y.toInt < 1000 := by rw [hyv, nI_toInt (by omega)]; omega
  refine lv_aload_n hx hb dL_law_278 rfl (lv_at hl 1 rfl) ?_
  refine lv_aload_n hx hb dL_law_279 rfl (lv_at hl 0 rfl) ?_
  refine lv_iload_n hx hb dL_law_280 rfl (lv_at hl 3 rfl) ?_
  refine lv_iconst (v := 1) hx hb dL_law_281 (by decide) ?_
  refine lv_iadd hx hb dL_law_282 ?_
  rw [show nI i + (1 : Int32) = nI (i + 1) from nI_add i 1]
  refine va_sld hx hb hX hbl hbA hS (vp_in_nI (by omega) (by omega)) dL_law_283 ?_
  rw [nI_clamp (show i + 1 < 2 ^ 31 by omega)]
  refine lv_aload_n hx hb dL_law_284 rfl (lv_at hl 0 rfl) ?_
  refine lv_iload_n hx hb dL_law_285 rfl (lv_at hl 3 rfl) ?_
  refine lv_iconst (v := 2) hx hb dL_law_286 (by decide) ?_
  refine lv_iadd hx hb dL_law_287 ?_
  rw [show nI i + (2 : Int32) = nI (i + 2) from nI_add i 2]
  refine va_sld hx hb hX hbl hbA hS (vp_in_nI (by omega) (by omega)) dL_law_288 ?_
  rw [nI_clamp (show i + 2 < 2 ^ 31 by omega)]
  refine rd_callL (As := [.int (xs (i + 1)), .int (xs (i + 2))]) (rest := []) (wX_len _ _ _ _ _ _ _ _ _ _ _ _ _ _ _ _ _ _ _ _ _ _ _ _ _ _ _ _ _ _ _ _ _ _ _ _ _ _ _ _ _ _ _ _ _ _ _ _ _ _ _ _ _ _ _ _ _ _ _ _ _ _ _ ) hx hb hml hown hts hE hl.1 hP hS (f_X9_free l G ν _ _ _ _ _ _ _ _ _ _ _ _ _ _ _ _ _ _ _ _ _ _ _ _ _ _ _ _ _ _ _ _ _ _ _ _ _ _ _ _ _ _ _ _ _ _ _ _ _ _ _ _ _ _ _ _ _ _ _ _ _ _ _ hg1 hg2 hn hq) (cw_L_40 hts) ⟨(Nat.le_of_ble_eq_true rfl), (Nat.le_of_ble_eq_true rfl)⟩ ⟨(Nat.le_of_ble_eq_true rfl), (Nat.le_of_ble_eq_true rfl)⟩ rfl rfl rfl rfl rfl (Nat.le_of_ble_eq_true rfl) dL_law_289 ?_
  refine lv_aload_n hx hb dL_law_292 rfl (lv_at hl 2 rfl) ?_
  refine lv_aload_n hx hb dL_law_293 rfl (lv_at hl 0 rfl) ?_
  refine lv_iload_n hx hb dL_law_294 rfl (lv_at hl 3 rfl) ?_
  refine lv_iconst (v := 1) hx hb dL_law_295 (by decide) ?_
  refine lv_iadd hx hb dL_law_296 ?_
  rw [show nI i + (1 : Int32) = nI (i + 1) from nI_add i 1]
  refine va_sld hx hb hX hbl hbA hS (vp_in_nI (by omega) (by omega)) dL_law_297 ?_
  rw [nI_clamp (show i + 1 < 2 ^ 31 by omega)]
  refine lv_aload_n hx hb dL_law_298 rfl (lv_at hl 0 rfl) ?_
  refine lv_iload_n hx hb dL_law_299 rfl (lv_at hl 3 rfl) ?_
  refine lv_iconst (v := 2) hx hb dL_law_300 (by decide) ?_
  refine lv_iadd hx hb dL_law_301 ?_
  rw [show nI i + (2 : Int32) = nI (i + 2) from nI_add i 2]
  refine va_sld hx hb hX hbl hbA hS (vp_in_nI (by omega) (by omega)) dL_law_302 ?_
  rw [nI_clamp (show i + 2 < 2 ^ 31 by omega)]
  refine rd_callR (As := [.int (xs (i + 1)), .int (xs (i + 2))]) (rest := [.int (frR nr nc C B F n (xs (i + 1)) (xs (i + 2)))]) (wX_len _ _ _ _ _ _ _ _ _ _ _ _ _ _ _ _ _ _ _ _ _ _ _ _ _ _ _ _ _ _ _ _ _ _ _ _ _ _ _ _ _ _ _ _ _ _ _ _ _ _ _ _ _ _ _ _ _ _ _ _ _ _ _ ) (wM_len _ _ _ _ _ _ _ _ _ _ _ _ _ _ _ _ _ _ _ _ _ _ _ ) hx hb hml hown hts hE hl.1 hP hS (c_X10_free l G _ _ _ _ _ _ _ _ _ _ _ _ _ _ _ _ _ _ _ _ _ _ _ _ _ _ _ _ _ _ _ _ _ _ _ _ _ _ _ _ _ _ hro hco hg1 hg2 hn1 hn hmp hq) (cw_L_43 hts) ⟨(Nat.le_of_ble_eq_true rfl), (Nat.le_of_ble_eq_true rfl)⟩ ⟨(Nat.le_of_ble_eq_true rfl), (Nat.le_of_ble_eq_true rfl)⟩ rfl rfl rfl rfl rfl (Nat.le_of_ble_eq_true rfl) dL_law_303 ?_
  show WL p l e s m below meth c b H locs (F0 m 306 ls [.int (if inG nr nc (xs (i + 1)) then (if inn (xs (i + 2)) 0 199 then zb (!hsN (stC (cel nw 0) (sta nw 0) (fal nw 0) ((xs (i + 2))) n) (xs (i + 1))) else -1) else -1), .int (frR nr nc C B F n (xs (i + 1)) (xs (i + 2)))])
  refine lv_icmp_eq (tgt := 900) hx hb dL_law_306 (by decide) (fun _ => ?_) (fun z => absurd ((free_same hg1 hg2 hv hsm _ _).symm) z)
  exact Kt sc sv tn Sg nb er ec eC eB eF eK en ey eY eD eR eq nr nc C B F K n y Yr Dn Rt q sn ad CC BB FF KK NN YY zn bd DC DB DF DK DN DY C2 B2 F2 K2 n2 y2 Pr Rs Qu qd hd wt Sp Be ts un tx ro co mp my md mr dr nw tk cs sa go to tn dm at_ so sn zn sv _ _ _ hP hD (hT) (hG) (hM) (hSh) (hKp) (hSe) hS hl

set_option maxHeartbeats 4000000 in
set_option maxRecDepth 100000 in
theorem law_map {p : Program} {l : Launch} {e : Env} {s : State} {m : MethodId} {below : List Frame} {meth : Method} {c : Code} {b L i : Nat} {xs : Nat → Int32} {G : Gv} {ν μ : Nat → Nat} {A : Nat → Prop} {H : Heap} {locs : List Loc} {ls : Array Slot} {sc : Int64} {sv : Nat} {tn : Nat} {Sg : Nat → Int32} {nb : Nat → Int32} {er : Nat} {ec : Nat} {eC : Nat → Int32} {eB : Nat → Int32} {eF : Nat → Int32} {eK : Nat → Int32} {en : Nat} {ey : Int32} {eY : Nat → Int32} {eD : Nat → Int32} {eR : Nat → Int32} {eq : Nat} {nr : Nat} {nc : Nat} {C : Nat → Int32} {B : Nat → Int32} {F : Nat → Int32} {K : Nat → Int32} {n : Nat} {y : Int32} {Yr : Nat → Int32} {Dn : Nat → Int32} {Rt : Nat → Int32} {q : Nat} {sn : Nat} {ad : Nat → Nat → Nat} {CC : Nat → Nat → Int32} {BB : Nat → Nat → Int32} {FF : Nat → Nat → Int32} {KK : Nat → Nat → Int32} {NN : Nat → Nat} {YY : Nat → Int32} {zn : Nat} {bd : Nat → Nat → Nat} {DC : Nat → Nat → Int32} {DB : Nat → Nat → Int32} {DF : Nat → Nat → Int32} {DK : Nat → Nat → Int32} {DN : Nat → Nat} {DY : Nat → Int32} {C2 : Nat → Int32} {B2 : Nat → Int32} {F2 : Nat → Int32} {K2 : Nat → Int32} {n2 : Nat} {y2 : Int32} {Pr : Nat → Int32} {Rs : Nat → Int32} {Qu : Nat → Int32} {qd : Int64} {hd : Nat} {wt : Nat} {Sp : Nat → Int32} {Be : Nat → Int32} {ts : Int32} {un : Nat} {tx : Nat → Int32} {ro : Nat → Int32} {co : Nat → Int32} {mp : Nat → Int32} {my : Nat → Int32} {md : Nat → Int32} {mr : Nat → Int32} {dr : Nat → Int32} {nw : Nat → Int32} {tk : Nat → Int32} {cs : Nat → Int32} {sa : Nat → Int32} {go : Nat → Int32} {to : Nat → Int32} {dm : Nat} {at_ : Nat} {so : Bool} (hC : LC p s m meth c b L xs G A) (hL : L ≤ 2048) (hi : i + 4 ≤ L) (hP : va_P G.1 vwCl (wX G ν sc sv tn Sg nb er ec eC eB eF eK en ey eY eD eR eq nr nc C B F K n y Yr Dn Rt q sn ad CC BB FF KK NN YY zn bd DC DB DF DK DN DY C2 B2 F2 K2 n2 y2 Pr Rs Qu qd hd wt Sp Be ts un ++ wM G μ tx ro co mp my md mr dr nw tk cs sa go to tn dm at_ so sn zn sv) H) (hD : va_D A (wX G ν sc sv tn Sg nb er ec eC eB eF eK en ey eY eD eR eq nr nc C B F K n y Yr Dn Rt q sn ad CC BB FF KK NN YY zn bd DC DB DF DK DN DY C2 B2 F2 K2 n2 y2 Pr Rs Qu qd hd wt Sp Be ts un ++ wM G μ tx ro co mp my md mr dr nw tk cs sa go to tn dm at_ so sn zn sv)) (hT : TeR Sg tn tx tn) (hG : GrR nr nc Yr Dn Rt q ro co mp my md mr) (hM : MoR nr nc C B F K n y nw 0) (hSh : sn ≤ 8 ∧ sn = sn ∧ ShR nr nc CC BB FF KK NN YY sn nw 42) (hKp : zn ≤ 2 ∧ zn = zn ∧ ShR nr nc DC DB DF DK DN DY zn nw 378) (hSe : SeR sc sv sa sv) (hS : va_S A s.heap H locs) (hl : lv_has ls 4 [(0, .ref b), (1, .ref (ν 0)), (2, .ref (μ 0)), (3, .int (nI i))]) (Kt : Kp p l e s m below meth c b i G ν μ A) : WL p l e s m below meth c b H locs (F0 m 311 ls []) := by
  obtain ⟨hx, hb, hr, hml, hown, hts, hX, hbl, hlk, hE, hA, hbA⟩ := hC
  have ht : tn ≤ 200 := hT.1
  have hnar := hT.2.2.2
  have hsn : sn ≤ 8 := hSh.1
  have hzn : zn ≤ 2 := hKp.1
  have hsv : sv ≤ 12 := hSe.1
  obtain ⟨hg1, hg2, hro, hco, hmp, hq, hvc, hsc⟩ := id hG
  obtain ⟨⟨hn0, hn⟩, hn1, hy0, ⟨yv, hyv2, hyv⟩, hv, hvf, hsm⟩ := id hM
  have hcl := cells_le hg1 hg2
  have hyw : y.toInt < 1000 := by rw [hyv, nI_toInt (by omega)]; omega
  refine lv_aload_n hx hb dL_law_311 rfl (lv_at hl 1 rfl) ?_
  refine lv_aload_n hx hb dL_law_312 rfl (lv_at hl 0 rfl) ?_
  refine lv_iload_n hx hb dL_law_313 rfl (lv_at hl 3 rfl) ?_
  refine lv_iconst (v := 1) hx hb dL_law_314 (by decide) ?_
  refine lv_iadd hx hb dL_law_315 ?_
  rw [show nI i + (1 : Int32) = nI (i + 1) from nI_add i 1]
  refine va_sld hx hb hX hbl hbA hS (vp_in_nI (by omega) (by omega)) dL_law_316 ?_
  rw [nI_clamp (show i + 1 < 2 ^ 31 by omega)]
  refine lv_aload_n hx hb dL_law_317 rfl (lv_at hl 0 rfl) ?_
  refine lv_iload_n hx hb dL_law_318 rfl (lv_at hl 3 rfl) ?_
  refine lv_iconst (v := 2) hx hb dL_law_319 (by decide) ?_
  refine lv_iadd hx hb dL_law_320 ?_
  rw [show nI i + (2 : Int32) = nI (i + 2) from nI_add i 2]
  refine va_sld hx hb hX hbl hbA hS (vp_in_nI (by omega) (by omega)) dL_law_321 ?_
  rw [nI_clamp (show i + 2 < 2 ^ 31 by omega)]
  refine rd_callL (As := [.int (xs (i + 1)), .int (xs (i + 2))]) (rest := []) (wX_len _ _ _ _ _ _ _ _ _ _ _ _ _ _ _ _ _ _ _ _ _ _ _ _ _ _ _ _ _ _ _ _ _ _ _ _ _ _ _ _ _ _ _ _ _ _ _ _ _ _ _ _ _ _ _ _ _ _ _ _ _ _ _ ) hx hb hml hown hts hE hl.1 hP hS (f_X9_map l G ν _ _ _ _ _ _ _ _ _ _ _ _ _ _ _ _ _ _ _ _ _ _ _ _ _ _ _ _ _ _ _ _ _ _ _ _ _ _ _ _ _ _ _ _ _ _ _ _ _ _ _ _ _ _ _ _ _ _ _ _ _ _ _ hg1 hg2 hn hq) (cw_L_44 hts) ⟨(Nat.le_of_ble_eq_true rfl), (Nat.le_of_ble_eq_true rfl)⟩ ⟨(Nat.le_of_ble_eq_true rfl), (Nat.le_of_ble_eq_true rfl)⟩ rfl rfl rfl rfl rfl (Nat.le_of_ble_eq_true rfl) dL_law_322 ?_
  refine lv_aload_n hx hb dL_law_325 rfl (lv_at hl 2 rfl) ?_
  refine lv_aload_n hx hb dL_law_326 rfl (lv_at hl 0 rfl) ?_
  refine lv_iload_n hx hb dL_law_327 rfl (lv_at hl 3 rfl) ?_
  refine lv_iconst (v := 1) hx hb dL_law_328 (by decide) ?_
  refine lv_iadd hx hb dL_law_329 ?_
  rw [show nI i + (1 : Int32) = nI (i + 1) from nI_add i 1]
  refine va_sld hx hb hX hbl hbA hS (vp_in_nI (by omega) (by omega)) dL_law_330 ?_
  rw [nI_clamp (show i + 1 < 2 ^ 31 by omega)]
  refine lv_aload_n hx hb dL_law_331 rfl (lv_at hl 0 rfl) ?_
  refine lv_iload_n hx hb dL_law_332 rfl (lv_at hl 3 rfl) ?_
  refine lv_iconst (v := 2) hx hb dL_law_333 (by decide) ?_
  refine lv_iadd hx hb dL_law_334 ?_
  rw [show nI i + (2 : Int32) = nI (i + 2) from nI_add i 2]
  refine va_sld hx hb hX hbl hbA hS (vp_in_nI (by omega) (by omega)) dL_law_335 ?_
  rw [nI_clamp (show i + 2 < 2 ^ 31 by omega)]
  refine rd_callR (As := [.int (xs (i + 1)), .int (xs (i + 2))]) (rest := [.int (mpR nr nc C F K n Yr Dn Rt q (xs (i + 1)) (xs (i + 2)))]) (wX_len _ _ _ _ _ _ _ _ _ _ _ _ _ _ _ _ _ _ _ _ _ _ _ _ _ _ _ _ _ _ _ _ _ _ _ _ _ _ _ _ _ _ _ _ _ _ _ _ _ _ _ _ _ _ _ _ _ _ _ _ _ _ _ ) (wM_len _ _ _ _ _ _ _ _ _ _ _ _ _ _ _ _ _ _ _ _ _ _ _ ) hx hb hml hown hts hE hl.1 hP hS (c_X10_map l G _ _ _ _ _ _ _ _ _ _ _ _ _ _ _ _ _ _ _ _ _ _ _ _ _ _ _ _ _ _ _ _ _ _ _ _ _ _ _ _ _ _ hro hco hg1 hg2 hn1 hn hmp hq) (cw_L_47 hts) ⟨(Nat.le_of_ble_eq_true rfl), (Nat.le_of_ble_eq_true rfl)⟩ ⟨(Nat.le_of_ble_eq_true rfl), (Nat.le_of_ble_eq_true rfl)⟩ rfl rfl rfl rfl rfl (Nat.le_of_ble_eq_true rfl) dL_law_336 ?_
  show WL p l e s m below meth c b H locs (F0 m 339 ls [.int (mpM nr nc nw my md mr n q (xs (i + 1)) (xs (i + 2))), .int (mpR nr nc C F K n Yr Dn Rt q (xs (i + 1)) (xs (i + 2)))])
  refine lv_icmp_eq (tgt := 900) hx hb dL_law_339 (by decide) (fun _ => ?_) (fun z => absurd ((map_same hg1 hg2 hv hsm hvc hsc hq _ _).symm) z)
  exact Kt sc sv tn Sg nb er ec eC eB eF eK en ey eY eD eR eq nr nc C B F K n y Yr Dn Rt q sn ad CC BB FF KK NN YY zn bd DC DB DF DK DN DY C2 B2 F2 K2 n2 y2 Pr Rs Qu qd hd wt Sp Be ts un tx ro co mp my md mr dr nw tk cs sa go to tn dm at_ so sn zn sv _ _ _ hP hD (hT) (hG) (hM) (hSh) (hKp) (hSe) hS hl

set_option maxHeartbeats 4000000 in
set_option maxRecDepth 100000 in
theorem law_shows {p : Program} {l : Launch} {e : Env} {s : State} {m : MethodId} {below : List Frame} {meth : Method} {c : Code} {b L i : Nat} {xs : Nat → Int32} {G : Gv} {ν μ : Nat → Nat} {A : Nat → Prop} {H : Heap} {locs : List Loc} {ls : Array Slot} {sc : Int64} {sv : Nat} {tn : Nat} {Sg : Nat → Int32} {nb : Nat → Int32} {er : Nat} {ec : Nat} {eC : Nat → Int32} {eB : Nat → Int32} {eF : Nat → Int32} {eK : Nat → Int32} {en : Nat} {ey : Int32} {eY : Nat → Int32} {eD : Nat → Int32} {eR : Nat → Int32} {eq : Nat} {nr : Nat} {nc : Nat} {C : Nat → Int32} {B : Nat → Int32} {F : Nat → Int32} {K : Nat → Int32} {n : Nat} {y : Int32} {Yr : Nat → Int32} {Dn : Nat → Int32} {Rt : Nat → Int32} {q : Nat} {sn : Nat} {ad : Nat → Nat → Nat} {CC : Nat → Nat → Int32} {BB : Nat → Nat → Int32} {FF : Nat → Nat → Int32} {KK : Nat → Nat → Int32} {NN : Nat → Nat} {YY : Nat → Int32} {zn : Nat} {bd : Nat → Nat → Nat} {DC : Nat → Nat → Int32} {DB : Nat → Nat → Int32} {DF : Nat → Nat → Int32} {DK : Nat → Nat → Int32} {DN : Nat → Nat} {DY : Nat → Int32} {C2 : Nat → Int32} {B2 : Nat → Int32} {F2 : Nat → Int32} {K2 : Nat → Int32} {n2 : Nat} {y2 : Int32} {Pr : Nat → Int32} {Rs : Nat → Int32} {Qu : Nat → Int32} {qd : Int64} {hd : Nat} {wt : Nat} {Sp : Nat → Int32} {Be : Nat → Int32} {ts : Int32} {un : Nat} {tx : Nat → Int32} {ro : Nat → Int32} {co : Nat → Int32} {mp : Nat → Int32} {my : Nat → Int32} {md : Nat → Int32} {mr : Nat → Int32} {dr : Nat → Int32} {nw : Nat → Int32} {tk : Nat → Int32} {cs : Nat → Int32} {sa : Nat → Int32} {go : Nat → Int32} {to : Nat → Int32} {dm : Nat} {at_ : Nat} {so : Bool} (hC : LC p s m meth c b L xs G A) (hL : L ≤ 2048) (hi : i + 4 ≤ L) (hP : va_P G.1 vwCl (wX G ν sc sv tn Sg nb er ec eC eB eF eK en ey eY eD eR eq nr nc C B F K n y Yr Dn Rt q sn ad CC BB FF KK NN YY zn bd DC DB DF DK DN DY C2 B2 F2 K2 n2 y2 Pr Rs Qu qd hd wt Sp Be ts un ++ wM G μ tx ro co mp my md mr dr nw tk cs sa go to tn dm at_ so sn zn sv) H) (hD : va_D A (wX G ν sc sv tn Sg nb er ec eC eB eF eK en ey eY eD eR eq nr nc C B F K n y Yr Dn Rt q sn ad CC BB FF KK NN YY zn bd DC DB DF DK DN DY C2 B2 F2 K2 n2 y2 Pr Rs Qu qd hd wt Sp Be ts un ++ wM G μ tx ro co mp my md mr dr nw tk cs sa go to tn dm at_ so sn zn sv)) (hT : TeR Sg tn tx tn) (hG : GrR nr nc Yr Dn Rt q ro co mp my md mr) (hM : MoR nr nc C B F K n y nw 0) (hSh : sn ≤ 8 ∧ sn = sn ∧ ShR nr nc CC BB FF KK NN YY sn nw 42) (hKp : zn ≤ 2 ∧ zn = zn ∧ ShR nr nc DC DB DF DK DN DY zn nw 378) (hSe : SeR sc sv sa sv) (hS : va_S A s.heap H locs) (hl : lv_has ls 4 [(0, .ref b), (1, .ref (ν 0)), (2, .ref (μ 0)), (3, .int (nI i))]) (Kt : Kp p l e s m below meth c b i G ν μ A) : WL p l e s m below meth c b H locs (F0 m 344 ls []) := by
  obtain ⟨hx, hb, hr, hml, hown, hts, hX, hbl, hlk, hE, hA, hbA⟩ := hC
  have ht : tn ≤ 200 := hT.1
  have hnar := hT.2.2.2
  have hsn : sn ≤ 8 := hSh.1
  have hzn : zn ≤ 2 := hKp.1
  have hsv : sv ≤ 12 := hSe.1
  obtain ⟨hg1, hg2, hro, hco, hmp, hq, hvc, hsc⟩ := id hG
  obtain ⟨⟨hn0, hn⟩, hn1, hy0, ⟨yv, hyv2, hyv⟩, hv, hvf, hsm⟩ := id hM
  have hcl := cells_le hg1 hg2
  have hyw : y.toInt < 1000 := by rw [hyv, nI_toInt (by omega)]; omega
  refine lv_aload_n hx hb dL_law_344 rfl (lv_at hl 1 rfl) ?_
  refine lv_aload_n hx hb dL_law_345 rfl (lv_at hl 0 rfl) ?_
  refine lv_iload_n hx hb dL_law_346 rfl (lv_at hl 3 rfl) ?_
  refine lv_iconst (v := 1) hx hb dL_law_347 (by decide) ?_
  refine lv_iadd hx hb dL_law_348 ?_
  rw [show nI i + (1 : Int32) = nI (i + 1) from nI_add i 1]
  refine va_sld hx hb hX hbl hbA hS (vp_in_nI (by omega) (by omega)) dL_law_349 ?_
  rw [nI_clamp (show i + 1 < 2 ^ 31 by omega)]
  refine lv_aload_n hx hb dL_law_350 rfl (lv_at hl 0 rfl) ?_
  refine lv_iload_n hx hb dL_law_351 rfl (lv_at hl 3 rfl) ?_
  refine lv_iconst (v := 2) hx hb dL_law_352 (by decide) ?_
  refine lv_iadd hx hb dL_law_353 ?_
  rw [show nI i + (2 : Int32) = nI (i + 2) from nI_add i 2]
  refine va_sld hx hb hX hbl hbA hS (vp_in_nI (by omega) (by omega)) dL_law_354 ?_
  rw [nI_clamp (show i + 2 < 2 ^ 31 by omega)]
  refine rd_callL (As := [.int (xs (i + 1)), .int (xs (i + 2))]) (rest := []) (wX_len _ _ _ _ _ _ _ _ _ _ _ _ _ _ _ _ _ _ _ _ _ _ _ _ _ _ _ _ _ _ _ _ _ _ _ _ _ _ _ _ _ _ _ _ _ _ _ _ _ _ _ _ _ _ _ _ _ _ _ _ _ _ _ ) hx hb hml hown hts hE hl.1 hP hS (f_X9_shows l G ν _ _ _ _ _ _ _ _ _ _ _ _ _ _ _ _ _ _ _ _ _ _ _ _ _ _ _ _ _ _ _ _ _ _ _ _ _ _ _ _ _ _ _ _ _ _ _ _ _ _ _ _ _ _ _ _ _ _ _ _ _ _ _ hg1 hg2 hn hq) (cw_L_48 hts) ⟨(Nat.le_of_ble_eq_true rfl), (Nat.le_of_ble_eq_true rfl)⟩ ⟨(Nat.le_of_ble_eq_true rfl), (Nat.le_of_ble_eq_true rfl)⟩ rfl rfl rfl rfl rfl (Nat.le_of_ble_eq_true rfl) dL_law_355 ?_
  refine lv_aload_n hx hb dL_law_358 rfl (lv_at hl 2 rfl) ?_
  refine lv_aload_n hx hb dL_law_359 rfl (lv_at hl 0 rfl) ?_
  refine lv_iload_n hx hb dL_law_360 rfl (lv_at hl 3 rfl) ?_
  refine lv_iconst (v := 1) hx hb dL_law_361 (by decide) ?_
  refine lv_iadd hx hb dL_law_362 ?_
  rw [show nI i + (1 : Int32) = nI (i + 1) from nI_add i 1]
  refine va_sld hx hb hX hbl hbA hS (vp_in_nI (by omega) (by omega)) dL_law_363 ?_
  rw [nI_clamp (show i + 1 < 2 ^ 31 by omega)]
  refine lv_aload_n hx hb dL_law_364 rfl (lv_at hl 0 rfl) ?_
  refine lv_iload_n hx hb dL_law_365 rfl (lv_at hl 3 rfl) ?_
  refine lv_iconst (v := 2) hx hb dL_law_366 (by decide) ?_
  refine lv_iadd hx hb dL_law_367 ?_
  rw [show nI i + (2 : Int32) = nI (i + 2) from nI_add i 2]
  refine va_sld hx hb hX hbl hbA hS (vp_in_nI (by omega) (by omega)) dL_law_368 ?_
  rw [nI_clamp (show i + 2 < 2 ^ 31 by omega)]
  refine rd_callR (As := [.int (xs (i + 1)), .int (xs (i + 2))]) (rest := [.int (swR nr nc C F K n Yr Dn Rt q (xs (i + 1)) (xs (i + 2)))]) (wX_len _ _ _ _ _ _ _ _ _ _ _ _ _ _ _ _ _ _ _ _ _ _ _ _ _ _ _ _ _ _ _ _ _ _ _ _ _ _ _ _ _ _ _ _ _ _ _ _ _ _ _ _ _ _ _ _ _ _ _ _ _ _ _ ) (wM_len _ _ _ _ _ _ _ _ _ _ _ _ _ _ _ _ _ _ _ _ _ _ _ ) hx hb hml hown hts hE hl.1 hP hS (c_X10_shows l G _ _ _ _ _ _ _ _ _ _ _ _ _ _ _ _ _ _ _ _ _ _ _ _ _ _ _ _ _ _ _ _ _ _ _ _ _ _ _ _ _ _ hro hco hg1 hg2 hn1 hn hmp hq) (cw_L_51 hts) ⟨(Nat.le_of_ble_eq_true rfl), (Nat.le_of_ble_eq_true rfl)⟩ ⟨(Nat.le_of_ble_eq_true rfl), (Nat.le_of_ble_eq_true rfl)⟩ rfl rfl rfl rfl rfl (Nat.le_of_ble_eq_true rfl) dL_law_369 ?_
  show WL p l e s m below meth c b H locs (F0 m 372 ls [.int (if inB (xs (i + 1)) q then (if inG nr nc (xs (i + 2)) then ssM (swM nr nc nw my md mr n (ix (xs (i + 1)))) (xs (i + 2)) else -1) else -1), .int (swR nr nc C F K n Yr Dn Rt q (xs (i + 1)) (xs (i + 2)))])
  refine lv_icmp_eq (tgt := 900) hx hb dL_law_372 (by decide) (fun _ => ?_) (fun z => absurd ((shows_same hg1 hg2 hv hsm hvc hsc hq _ _).symm) z)
  exact Kt sc sv tn Sg nb er ec eC eB eF eK en ey eY eD eR eq nr nc C B F K n y Yr Dn Rt q sn ad CC BB FF KK NN YY zn bd DC DB DF DK DN DY C2 B2 F2 K2 n2 y2 Pr Rs Qu qd hd wt Sp Be ts un tx ro co mp my md mr dr nw tk cs sa go to tn dm at_ so sn zn sv _ _ _ hP hD (hT) (hG) (hM) (hSh) (hKp) (hSe) hS hl

set_option maxHeartbeats 4000000 in
set_option maxRecDepth 100000 in
theorem law_older {p : Program} {l : Launch} {e : Env} {s : State} {m : MethodId} {below : List Frame} {meth : Method} {c : Code} {b L i : Nat} {xs : Nat → Int32} {G : Gv} {ν μ : Nat → Nat} {A : Nat → Prop} {H : Heap} {locs : List Loc} {ls : Array Slot} {sc : Int64} {sv : Nat} {tn : Nat} {Sg : Nat → Int32} {nb : Nat → Int32} {er : Nat} {ec : Nat} {eC : Nat → Int32} {eB : Nat → Int32} {eF : Nat → Int32} {eK : Nat → Int32} {en : Nat} {ey : Int32} {eY : Nat → Int32} {eD : Nat → Int32} {eR : Nat → Int32} {eq : Nat} {nr : Nat} {nc : Nat} {C : Nat → Int32} {B : Nat → Int32} {F : Nat → Int32} {K : Nat → Int32} {n : Nat} {y : Int32} {Yr : Nat → Int32} {Dn : Nat → Int32} {Rt : Nat → Int32} {q : Nat} {sn : Nat} {ad : Nat → Nat → Nat} {CC : Nat → Nat → Int32} {BB : Nat → Nat → Int32} {FF : Nat → Nat → Int32} {KK : Nat → Nat → Int32} {NN : Nat → Nat} {YY : Nat → Int32} {zn : Nat} {bd : Nat → Nat → Nat} {DC : Nat → Nat → Int32} {DB : Nat → Nat → Int32} {DF : Nat → Nat → Int32} {DK : Nat → Nat → Int32} {DN : Nat → Nat} {DY : Nat → Int32} {C2 : Nat → Int32} {B2 : Nat → Int32} {F2 : Nat → Int32} {K2 : Nat → Int32} {n2 : Nat} {y2 : Int32} {Pr : Nat → Int32} {Rs : Nat → Int32} {Qu : Nat → Int32} {qd : Int64} {hd : Nat} {wt : Nat} {Sp : Nat → Int32} {Be : Nat → Int32} {ts : Int32} {un : Nat} {tx : Nat → Int32} {ro : Nat → Int32} {co : Nat → Int32} {mp : Nat → Int32} {my : Nat → Int32} {md : Nat → Int32} {mr : Nat → Int32} {dr : Nat → Int32} {nw : Nat → Int32} {tk : Nat → Int32} {cs : Nat → Int32} {sa : Nat → Int32} {go : Nat → Int32} {to : Nat → Int32} {dm : Nat} {at_ : Nat} {so : Bool} (hC : LC p s m meth c b L xs G A) (hL : L ≤ 2048) (hi : i + 4 ≤ L) (hP : va_P G.1 vwCl (wX G ν sc sv tn Sg nb er ec eC eB eF eK en ey eY eD eR eq nr nc C B F K n y Yr Dn Rt q sn ad CC BB FF KK NN YY zn bd DC DB DF DK DN DY C2 B2 F2 K2 n2 y2 Pr Rs Qu qd hd wt Sp Be ts un ++ wM G μ tx ro co mp my md mr dr nw tk cs sa go to tn dm at_ so sn zn sv) H) (hD : va_D A (wX G ν sc sv tn Sg nb er ec eC eB eF eK en ey eY eD eR eq nr nc C B F K n y Yr Dn Rt q sn ad CC BB FF KK NN YY zn bd DC DB DF DK DN DY C2 B2 F2 K2 n2 y2 Pr Rs Qu qd hd wt Sp Be ts un ++ wM G μ tx ro co mp my md mr dr nw tk cs sa go to tn dm at_ so sn zn sv)) (hT : TeR Sg tn tx tn) (hG : GrR nr nc Yr Dn Rt q ro co mp my md mr) (hM : MoR nr nc C B F K n y nw 0) (hSh : sn ≤ 8 ∧ sn = sn ∧ ShR nr nc CC BB FF KK NN YY sn nw 42) (hKp : zn ≤ 2 ∧ zn = zn ∧ ShR nr nc DC DB DF DK DN DY zn nw 378) (hSe : SeR sc sv sa sv) (hS : va_S A s.heap H locs) (hl : lv_has ls 4 [(0, .ref b), (1, .ref (ν 0)), (2, .ref (μ 0)), (3, .int (nI i))]) (Kt : Kp p l e s m below meth c b i G ν μ A) : WL p l e s m below meth c b H locs (F0 m 670 ls []) := by
  obtain ⟨hx, hb, hr, hml, hown, hts, hX, hbl, hlk, hE, hA, hbA⟩ := hC
  have ht : tn ≤ 200 := hT.1
  have hnar := hT.2.2.2
  have hsn : sn ≤ 8 := hSh.1
  have hzn : zn ≤ 2 := hKp.1
  have hsv : sv ≤ 12 := hSe.1
  obtain ⟨hg1, hg2, hro, hco, hmp, hq, hvc, hsc⟩ := id hG
  obtain ⟨⟨hn0, hn⟩, hn1, hy0, ⟨yv, hyv2, hyv⟩, hv, hvf, hsm⟩ := id hM
  have hcl := cells_le hg1 hg2
  have hyw : y.toInt < 1000 := by rw [hyv, nI_toInt (by omega)]; omega
  refine lv_aload_n hx hb dL_law_670 rfl (lv_at hl 1 rfl) ?_
  refine rd_callL (As := []) (rest := []) (wX_len _ _ _ _ _ _ _ _ _ _ _ _ _ _ _ _ _ _ _ _ _ _ _ _ _ _ _ _ _ _ _ _ _ _ _ _ _ _ _ _ _ _ _ _ _ _ _ _ _ _ _ _ _ _ _ _ _ _ _ _ _ _ _ ) hx hb hml hown hts hE hl.1 hP hS (f_X9_older l G ν _ _ _ _ _ _ _ _ _ _ _ _ _ _ _ _ _ _ _ _ _ _ _ _ _ _ _ _ _ _ _ _ _ _ _ _ _ _ _ _ _ _ _ _ _ _ _ _ _ _ _ _ _ _ _ _ _ _ _ _ _ hg1 hg2 hn hq) (cw_L_90 hts) ⟨(Nat.le_of_ble_eq_true rfl), (Nat.le_of_ble_eq_true rfl)⟩ ⟨(Nat.le_of_ble_eq_true rfl), (Nat.le_of_ble_eq_true rfl)⟩ rfl rfl rfl rfl rfl (Nat.le_of_ble_eq_true rfl) dL_law_671 ?_
  refine lv_aload_n hx hb dL_law_674 rfl (lv_at hl 2 rfl) ?_
  refine rd_callR (As := []) (rest := [.int (olR n F K Yr q)]) (wX_len _ _ _ _ _ _ _ _ _ _ _ _ _ _ _ _ _ _ _ _ _ _ _ _ _ _ _ _ _ _ _ _ _ _ _ _ _ _ _ _ _ _ _ _ _ _ _ _ _ _ _ _ _ _ _ _ _ _ _ _ _ _ _ ) (wM_len _ _ _ _ _ _ _ _ _ _ _ _ _ _ _ _ _ _ _ _ _ _ _ ) hx hb hml hown hts hE hl.1 hP hS (c_X10_older l G _ _ _ _ _ _ _ _ _ _ _ _ _ _ _ _ _ _ _ _ _ _ _ _ _ _ _ _ _ _ _ _ _ _ _ _ _ _ hn1 hn hmp hq) (cw_L_93 hts) ⟨(Nat.le_of_ble_eq_true rfl), (Nat.le_of_ble_eq_true rfl)⟩ ⟨(Nat.le_of_ble_eq_true rfl), (Nat.le_of_ble_eq_true rfl)⟩ rfl rfl rfl rfl rfl (Nat.le_of_ble_eq_true rfl) dL_law_675 ?_
  show WL p l e s m below meth c b H locs (F0 m 678 ls [.int (if q = 0 then -4 else olL nw my n q 1001 (-1) 1), .int (olR n F K Yr q)])
  refine lv_icmp_eq (tgt := 900) hx hb dL_law_678 (by decide) (fun _ => ?_) (fun z => absurd ((older_same hn hv hsm hvc hsc hq).symm) z)
  exact Kt sc sv tn Sg nb er ec eC eB eF eK en ey eY eD eR eq nr nc C B F K n y Yr Dn Rt q sn ad CC BB FF KK NN YY zn bd DC DB DF DK DN DY C2 B2 F2 K2 n2 y2 Pr Rs Qu qd hd wt Sp Be ts un tx ro co mp my md mr dr nw tk cs sa go to tn dm at_ so sn zn sv _ _ _ hP hD (hT) (hG) (hM) (hSh) (hKp) (hSe) hS hl

set_option maxHeartbeats 4000000 in
set_option maxRecDepth 100000 in
theorem law_seen {p : Program} {l : Launch} {e : Env} {s : State} {m : MethodId} {below : List Frame} {meth : Method} {c : Code} {b L i : Nat} {xs : Nat → Int32} {G : Gv} {ν μ : Nat → Nat} {A : Nat → Prop} {H : Heap} {locs : List Loc} {ls : Array Slot} {sc : Int64} {sv : Nat} {tn : Nat} {Sg : Nat → Int32} {nb : Nat → Int32} {er : Nat} {ec : Nat} {eC : Nat → Int32} {eB : Nat → Int32} {eF : Nat → Int32} {eK : Nat → Int32} {en : Nat} {ey : Int32} {eY : Nat → Int32} {eD : Nat → Int32} {eR : Nat → Int32} {eq : Nat} {nr : Nat} {nc : Nat} {C : Nat → Int32} {B : Nat → Int32} {F : Nat → Int32} {K : Nat → Int32} {n : Nat} {y : Int32} {Yr : Nat → Int32} {Dn : Nat → Int32} {Rt : Nat → Int32} {q : Nat} {sn : Nat} {ad : Nat → Nat → Nat} {CC : Nat → Nat → Int32} {BB : Nat → Nat → Int32} {FF : Nat → Nat → Int32} {KK : Nat → Nat → Int32} {NN : Nat → Nat} {YY : Nat → Int32} {zn : Nat} {bd : Nat → Nat → Nat} {DC : Nat → Nat → Int32} {DB : Nat → Nat → Int32} {DF : Nat → Nat → Int32} {DK : Nat → Nat → Int32} {DN : Nat → Nat} {DY : Nat → Int32} {C2 : Nat → Int32} {B2 : Nat → Int32} {F2 : Nat → Int32} {K2 : Nat → Int32} {n2 : Nat} {y2 : Int32} {Pr : Nat → Int32} {Rs : Nat → Int32} {Qu : Nat → Int32} {qd : Int64} {hd : Nat} {wt : Nat} {Sp : Nat → Int32} {Be : Nat → Int32} {ts : Int32} {un : Nat} {tx : Nat → Int32} {ro : Nat → Int32} {co : Nat → Int32} {mp : Nat → Int32} {my : Nat → Int32} {md : Nat → Int32} {mr : Nat → Int32} {dr : Nat → Int32} {nw : Nat → Int32} {tk : Nat → Int32} {cs : Nat → Int32} {sa : Nat → Int32} {go : Nat → Int32} {to : Nat → Int32} {dm : Nat} {at_ : Nat} {so : Bool} (hC : LC p s m meth c b L xs G A) (hL : L ≤ 2048) (hi : i + 4 ≤ L) (hP : va_P G.1 vwCl (wX G ν sc sv tn Sg nb er ec eC eB eF eK en ey eY eD eR eq nr nc C B F K n y Yr Dn Rt q sn ad CC BB FF KK NN YY zn bd DC DB DF DK DN DY C2 B2 F2 K2 n2 y2 Pr Rs Qu qd hd wt Sp Be ts un ++ wM G μ tx ro co mp my md mr dr nw tk cs sa go to tn dm at_ so sn zn sv) H) (hD : va_D A (wX G ν sc sv tn Sg nb er ec eC eB eF eK en ey eY eD eR eq nr nc C B F K n y Yr Dn Rt q sn ad CC BB FF KK NN YY zn bd DC DB DF DK DN DY C2 B2 F2 K2 n2 y2 Pr Rs Qu qd hd wt Sp Be ts un ++ wM G μ tx ro co mp my md mr dr nw tk cs sa go to tn dm at_ so sn zn sv)) (hT : TeR Sg tn tx tn) (hG : GrR nr nc Yr Dn Rt q ro co mp my md mr) (hM : MoR nr nc C B F K n y nw 0) (hSh : sn ≤ 8 ∧ sn = sn ∧ ShR nr nc CC BB FF KK NN YY sn nw 42) (hKp : zn ≤ 2 ∧ zn = zn ∧ ShR nr nc DC DB DF DK DN DY zn nw 378) (hSe : SeR sc sv sa sv) (hS : va_S A s.heap H locs) (hl : lv_has ls 4 [(0, .ref b), (1, .ref (ν 0)), (2, .ref (μ 0)), (3, .int (nI i))]) (Kt : Kp p l e s m below meth c b i G ν μ A) : WL p l e s m below meth c b H locs (F0 m 683 ls []) := by
  obtain ⟨hx, hb, hr, hml, hown, hts, hX, hbl, hlk, hE, hA, hbA⟩ := hC
  have ht : tn ≤ 200 := hT.1
  have hnar := hT.2.2.2
  have hsn : sn ≤ 8 := hSh.1
  have hzn : zn ≤ 2 := hKp.1
  have hsv : sv ≤ 12 := hSe.1
  obtain ⟨hg1, hg2, hro, hco, hmp, hq, hvc, hsc⟩ := id hG
  obtain ⟨⟨hn0, hn⟩, hn1, hy0, ⟨yv, hyv2, hyv⟩, hv, hvf, hsm⟩ := id hM
  have hcl := cells_le hg1 hg2
  have hyw : y.toInt < 1000 := by rw [hyv, nI_toInt (by omega)]; omega
  refine lv_aload_n hx hb dL_law_683 rfl (lv_at hl 1 rfl) ?_
  refine lv_aload_n hx hb dL_law_684 rfl (lv_at hl 0 rfl) ?_
  refine lv_iload_n hx hb dL_law_685 rfl (lv_at hl 3 rfl) ?_
  refine lv_iconst (v := 1) hx hb dL_law_686 (by decide) ?_
  refine lv_iadd hx hb dL_law_687 ?_
  rw [show nI i + (1 : Int32) = nI (i + 1) from nI_add i 1]
  refine va_sld hx hb hX hbl hbA hS (vp_in_nI (by omega) (by omega)) dL_law_688 ?_
  rw [nI_clamp (show i + 1 < 2 ^ 31 by omega)]
  refine ct_callL (As := [.int (xs (i + 1))]) (rest := []) (wX_len _ _ _ _ _ _ _ _ _ _ _ _ _ _ _ _ _ _ _ _ _ _ _ _ _ _ _ _ _ _ _ _ _ _ _ _ _ _ _ _ _ _ _ _ _ _ _ _ _ _ _ _ _ _ _ _ _ _ _ _ _ _ _ ) (wM_len _ _ _ _ _ _ _ _ _ _ _ _ _ _ _ _ _ _ _ _ _ _ _ ) hx hb hml hown hts hE hA hl.1 hP hD hS (f_X9_seen l G ν _ _ _ _ _ _ _ _ _ _ _ _ _ _ _ _ _ _ _ _ _ _ _ _ _ _ _ _ _ _ _ _ _ _ _ _ _ _ _ _ _ _ _ _ _ _ _ _ _ _ _ _ _ _ _ _ _ _ _ _ _ _ hg1 hg2 hsv) (cw_L_94 hts) ⟨(Nat.le_of_ble_eq_true rfl), (Nat.le_of_ble_eq_true rfl)⟩ ⟨(Nat.le_of_ble_eq_true rfl), (Nat.le_of_ble_eq_true rfl)⟩ rfl rfl rfl rfl rfl (Nat.le_of_ble_eq_true rfl) dL_law_689 (fun v9 w9 H locs hpo hP hD hS => ?_)
  obtain ⟨rfl, rfl⟩ := hpo
  have hP : va_P G.1 vwCl (wX G ν (if inG nr nc (xs (i + 1)) && decide (sv < 12) then sc ||| bt (xs (i + 1)) else sc) (if inG nr nc (xs (i + 1)) && decide (sv < 12) then sv + 1 else sv) tn Sg nb er ec eC eB eF eK en ey eY eD eR eq nr nc C B F K n y Yr Dn Rt q sn ad CC BB FF KK NN YY zn bd DC DB DF DK DN DY C2 B2 F2 K2 n2 y2 Pr Rs Qu qd hd wt Sp Be ts un ++ wM G μ tx ro co mp my md mr dr nw tk cs sa go to tn dm at_ so sn zn sv) H := swap_P hP
  have hD : va_D A (wX G ν (if inG nr nc (xs (i + 1)) && decide (sv < 12) then sc ||| bt (xs (i + 1)) else sc) (if inG nr nc (xs (i + 1)) && decide (sv < 12) then sv + 1 else sv) tn Sg nb er ec eC eB eF eK en ey eY eD eR eq nr nc C B F K n y Yr Dn Rt q sn ad CC BB FF KK NN YY zn bd DC DB DF DK DN DY C2 B2 F2 K2 n2 y2 Pr Rs Qu qd hd wt Sp Be ts un ++ wM G μ tx ro co mp my md mr dr nw tk cs sa go to tn dm at_ so sn zn sv) := swap_D (n := 15) (k := 93) rfl rfl nd15 nd93 hD
  show WL p l e s m below meth c b H locs (F0 m 692 ls [.int (if inG nr nc (xs (i + 1)) then (if sv < 12 then nI (sv + 1) else -3) else -1)])
  refine lv_aload_n hx hb dL_law_692 rfl (lv_at hl 2 rfl) ?_
  refine lv_aload_n hx hb dL_law_693 rfl (lv_at hl 0 rfl) ?_
  refine lv_iload_n hx hb dL_law_694 rfl (lv_at hl 3 rfl) ?_
  refine lv_iconst (v := 1) hx hb dL_law_695 (by decide) ?_
  refine lv_iadd hx hb dL_law_696 ?_
  rw [show nI i + (1 : Int32) = nI (i + 1) from nI_add i 1]
  refine va_sld hx hb hX hbl hbA hS (vp_in_nI (by omega) (by omega)) dL_law_697 ?_
  rw [nI_clamp (show i + 1 < 2 ^ 31 by omega)]
  refine ct_callR (As := [.int (xs (i + 1))]) (rest := [.int (if inG nr nc (xs (i + 1)) then (if sv < 12 then nI (sv + 1) else -3) else -1)]) (wX_len _ _ _ _ _ _ _ _ _ _ _ _ _ _ _ _ _ _ _ _ _ _ _ _ _ _ _ _ _ _ _ _ _ _ _ _ _ _ _ _ _ _ _ _ _ _ _ _ _ _ _ _ _ _ _ _ _ _ _ _ _ _ _ ) (wM_len _ _ _ _ _ _ _ _ _ _ _ _ _ _ _ _ _ _ _ _ _ _ _ ) hx hb hml hown hts hE hA hl.1 hP hD hS (c_X10_seen l G _ _ _ _ _ _ _ _ _ _ _ _ _ _ _ _ _ _ _ _ _ _ _ _ _ _ _ _ _ _ _ _ _ _ _ _ _ _ _ _ _ hro hco hg1 hg2 hn1 hn hmp hq hsv) (cw_L_97 hts) ⟨(Nat.le_of_ble_eq_true rfl), (Nat.le_of_ble_eq_true rfl)⟩ ⟨(Nat.le_of_ble_eq_true rfl), (Nat.le_of_ble_eq_true rfl)⟩ rfl rfl rfl rfl rfl (Nat.le_of_ble_eq_true rfl) dL_law_698 (fun v9 w9 H locs hpo hP hD hS => ?_)
  obtain ⟨rfl, rfl⟩ := hpo
  have hP : va_P G.1 vwCl (wX G ν (if inG nr nc (xs (i + 1)) && decide (sv < 12) then sc ||| bt (xs (i + 1)) else sc) (if inG nr nc (xs (i + 1)) && decide (sv < 12) then sv + 1 else sv) tn Sg nb er ec eC eB eF eK en ey eY eD eR eq nr nc C B F K n y Yr Dn Rt q sn ad CC BB FF KK NN YY zn bd DC DB DF DK DN DY C2 B2 F2 K2 n2 y2 Pr Rs Qu qd hd wt Sp Be ts un ++ wM G μ tx ro co mp my md mr dr nw tk cs (if inG nr nc (xs (i + 1)) && !decide (sv = 12) then upd sa sv (xs (i + 1)) else sa) go to tn dm at_ so sn zn (if inG nr nc (xs (i + 1)) && !decide (sv = 12) then sv + 1 else sv)) H := hP
  have hD : va_D A (wX G ν (if inG nr nc (xs (i + 1)) && decide (sv < 12) then sc ||| bt (xs (i + 1)) else sc) (if inG nr nc (xs (i + 1)) && decide (sv < 12) then sv + 1 else sv) tn Sg nb er ec eC eB eF eK en ey eY eD eR eq nr nc C B F K n y Yr Dn Rt q sn ad CC BB FF KK NN YY zn bd DC DB DF DK DN DY C2 B2 F2 K2 n2 y2 Pr Rs Qu qd hd wt Sp Be ts un ++ wM G μ tx ro co mp my md mr dr nw tk cs (if inG nr nc (xs (i + 1)) && !decide (sv = 12) then upd sa sv (xs (i + 1)) else sa) go to tn dm at_ so sn zn (if inG nr nc (xs (i + 1)) && !decide (sv = 12) then sv + 1 else sv)) := hD
  show WL p l e s m below meth c b H locs (F0 m 701 ls [.int (if inG nr nc (xs (i + 1)) then (if sv = 12 then -3 else nI (sv + 1)) else -1), .int (if inG nr nc (xs (i + 1)) then (if sv < 12 then nI (sv + 1) else -3) else -1)])
  refine lv_icmp_eq (tgt := 900) hx hb dL_law_701 (by decide) (fun _ => ?_) (fun z => absurd ((seen_R (nr := nr) (nc := nc) hSe _).2) z)
  exact Kt (if inG nr nc (xs (i + 1)) && decide (sv < 12) then sc ||| bt (xs (i + 1)) else sc) (if inG nr nc (xs (i + 1)) && decide (sv < 12) then sv + 1 else sv) tn Sg nb er ec eC eB eF eK en ey eY eD eR eq nr nc C B F K n y Yr Dn Rt q sn ad CC BB FF KK NN YY zn bd DC DB DF DK DN DY C2 B2 F2 K2 n2 y2 Pr Rs Qu qd hd wt Sp Be ts un tx ro co mp my md mr dr nw tk cs (if inG nr nc (xs (i + 1)) && !decide (sv = 12) then upd sa sv (xs (i + 1)) else sa) go to tn dm at_ so sn zn (if inG nr nc (xs (i + 1)) && !decide (sv = 12) then sv + 1 else sv) _ _ _ hP hD (hT) (hG) (hM) (hSh) (hKp) ((seen_R hSe _).1) hS hl

set_option maxHeartbeats 4000000 in
set_option maxRecDepth 100000 in
theorem law_forget {p : Program} {l : Launch} {e : Env} {s : State} {m : MethodId} {below : List Frame} {meth : Method} {c : Code} {b L i : Nat} {xs : Nat → Int32} {G : Gv} {ν μ : Nat → Nat} {A : Nat → Prop} {H : Heap} {locs : List Loc} {ls : Array Slot} {sc : Int64} {sv : Nat} {tn : Nat} {Sg : Nat → Int32} {nb : Nat → Int32} {er : Nat} {ec : Nat} {eC : Nat → Int32} {eB : Nat → Int32} {eF : Nat → Int32} {eK : Nat → Int32} {en : Nat} {ey : Int32} {eY : Nat → Int32} {eD : Nat → Int32} {eR : Nat → Int32} {eq : Nat} {nr : Nat} {nc : Nat} {C : Nat → Int32} {B : Nat → Int32} {F : Nat → Int32} {K : Nat → Int32} {n : Nat} {y : Int32} {Yr : Nat → Int32} {Dn : Nat → Int32} {Rt : Nat → Int32} {q : Nat} {sn : Nat} {ad : Nat → Nat → Nat} {CC : Nat → Nat → Int32} {BB : Nat → Nat → Int32} {FF : Nat → Nat → Int32} {KK : Nat → Nat → Int32} {NN : Nat → Nat} {YY : Nat → Int32} {zn : Nat} {bd : Nat → Nat → Nat} {DC : Nat → Nat → Int32} {DB : Nat → Nat → Int32} {DF : Nat → Nat → Int32} {DK : Nat → Nat → Int32} {DN : Nat → Nat} {DY : Nat → Int32} {C2 : Nat → Int32} {B2 : Nat → Int32} {F2 : Nat → Int32} {K2 : Nat → Int32} {n2 : Nat} {y2 : Int32} {Pr : Nat → Int32} {Rs : Nat → Int32} {Qu : Nat → Int32} {qd : Int64} {hd : Nat} {wt : Nat} {Sp : Nat → Int32} {Be : Nat → Int32} {ts : Int32} {un : Nat} {tx : Nat → Int32} {ro : Nat → Int32} {co : Nat → Int32} {mp : Nat → Int32} {my : Nat → Int32} {md : Nat → Int32} {mr : Nat → Int32} {dr : Nat → Int32} {nw : Nat → Int32} {tk : Nat → Int32} {cs : Nat → Int32} {sa : Nat → Int32} {go : Nat → Int32} {to : Nat → Int32} {dm : Nat} {at_ : Nat} {so : Bool} (hC : LC p s m meth c b L xs G A) (hL : L ≤ 2048) (hi : i + 4 ≤ L) (hP : va_P G.1 vwCl (wX G ν sc sv tn Sg nb er ec eC eB eF eK en ey eY eD eR eq nr nc C B F K n y Yr Dn Rt q sn ad CC BB FF KK NN YY zn bd DC DB DF DK DN DY C2 B2 F2 K2 n2 y2 Pr Rs Qu qd hd wt Sp Be ts un ++ wM G μ tx ro co mp my md mr dr nw tk cs sa go to tn dm at_ so sn zn sv) H) (hD : va_D A (wX G ν sc sv tn Sg nb er ec eC eB eF eK en ey eY eD eR eq nr nc C B F K n y Yr Dn Rt q sn ad CC BB FF KK NN YY zn bd DC DB DF DK DN DY C2 B2 F2 K2 n2 y2 Pr Rs Qu qd hd wt Sp Be ts un ++ wM G μ tx ro co mp my md mr dr nw tk cs sa go to tn dm at_ so sn zn sv)) (hT : TeR Sg tn tx tn) (hG : GrR nr nc Yr Dn Rt q ro co mp my md mr) (hM : MoR nr nc C B F K n y nw 0) (hSh : sn ≤ 8 ∧ sn = sn ∧ ShR nr nc CC BB FF KK NN YY sn nw 42) (hKp : zn ≤ 2 ∧ zn = zn ∧ ShR nr nc DC DB DF DK DN DY zn nw 378) (hSe : SeR sc sv sa sv) (hS : va_S A s.heap H locs) (hl : lv_has ls 4 [(0, .ref b), (1, .ref (ν 0)), (2, .ref (μ 0)), (3, .int (nI i))]) (Kt : Kp p l e s m below meth c b i G ν μ A) : WL p l e s m below meth c b H locs (F0 m 706 ls []) := by
  obtain ⟨hx, hb, hr, hml, hown, hts, hX, hbl, hlk, hE, hA, hbA⟩ := hC
  have ht : tn ≤ 200 := hT.1
  have hnar := hT.2.2.2
  have hsn : sn ≤ 8 := hSh.1
  have hzn : zn ≤ 2 := hKp.1
  have hsv : sv ≤ 12 := hSe.1
  obtain ⟨hg1, hg2, hro, hco, hmp, hq, hvc, hsc⟩ := id hG
  obtain ⟨⟨hn0, hn⟩, hn1, hy0, ⟨yv, hyv2, hyv⟩, hv, hvf, hsm⟩ := id hM
  have hcl := cells_le hg1 hg2
  have hyw : y.toInt < 1000 := by rw [hyv, nI_toInt (by omega)]; omega
  refine lv_aload_n hx hb dL_law_706 rfl (lv_at hl 1 rfl) ?_
  refine ct_callL (As := []) (rest := []) (wX_len _ _ _ _ _ _ _ _ _ _ _ _ _ _ _ _ _ _ _ _ _ _ _ _ _ _ _ _ _ _ _ _ _ _ _ _ _ _ _ _ _ _ _ _ _ _ _ _ _ _ _ _ _ _ _ _ _ _ _ _ _ _ _ ) (wM_len _ _ _ _ _ _ _ _ _ _ _ _ _ _ _ _ _ _ _ _ _ _ _ ) hx hb hml hown hts hE hA hl.1 hP hD hS (f_X9_forget l G ν _ _ _ _ _ _ _ _ _ _ _ _ _ _ _ _ _ _ _ _ _ _ _ _ _ _ _ _ _ _ _ _ _ _ _ _ _ _ _ _ _ _ _ _ _ _ _ _ _ _ _ _ _ _ _ _ _ _ _ _ _ ) (cw_L_98 hts) ⟨(Nat.le_of_ble_eq_true rfl), (Nat.le_of_ble_eq_true rfl)⟩ ⟨(Nat.le_of_ble_eq_true rfl), (Nat.le_of_ble_eq_true rfl)⟩ rfl rfl rfl rfl rfl (Nat.le_of_ble_eq_true rfl) dL_law_707 (fun v9 w9 H locs hpo hP hD hS => ?_)
  obtain ⟨rfl, rfl⟩ := hpo
  have hP : va_P G.1 vwCl (wX G ν 0 0 tn Sg nb er ec eC eB eF eK en ey eY eD eR eq nr nc C B F K n y Yr Dn Rt q sn ad CC BB FF KK NN YY zn bd DC DB DF DK DN DY C2 B2 F2 K2 n2 y2 Pr Rs Qu qd hd wt Sp Be ts un ++ wM G μ tx ro co mp my md mr dr nw tk cs sa go to tn dm at_ so sn zn sv) H := swap_P hP
  have hD : va_D A (wX G ν 0 0 tn Sg nb er ec eC eB eF eK en ey eY eD eR eq nr nc C B F K n y Yr Dn Rt q sn ad CC BB FF KK NN YY zn bd DC DB DF DK DN DY C2 B2 F2 K2 n2 y2 Pr Rs Qu qd hd wt Sp Be ts un ++ wM G μ tx ro co mp my md mr dr nw tk cs sa go to tn dm at_ so sn zn sv) := swap_D (n := 15) (k := 93) rfl rfl nd15 nd93 hD
  show WL p l e s m below meth c b H locs (F0 m 710 ls [.int (nI sv)])
  refine lv_aload_n hx hb dL_law_710 rfl (lv_at hl 2 rfl) ?_
  refine ct_callR (As := []) (rest := [.int (nI sv)]) (wX_len _ _ _ _ _ _ _ _ _ _ _ _ _ _ _ _ _ _ _ _ _ _ _ _ _ _ _ _ _ _ _ _ _ _ _ _ _ _ _ _ _ _ _ _ _ _ _ _ _ _ _ _ _ _ _ _ _ _ _ _ _ _ _ ) (wM_len _ _ _ _ _ _ _ _ _ _ _ _ _ _ _ _ _ _ _ _ _ _ _ ) hx hb hml hown hts hE hA hl.1 hP hD hS (c_X10_forget l G _ _ _ _ _ _ _ _ _ _ _ _ _ _ _ _ _ _ _ _ _ _ _ _ _ _ _ _ _ _ _ _ _ _ _ _ ) (cw_L_101 hts) ⟨(Nat.le_of_ble_eq_true rfl), (Nat.le_of_ble_eq_true rfl)⟩ ⟨(Nat.le_of_ble_eq_true rfl), (Nat.le_of_ble_eq_true rfl)⟩ rfl rfl rfl rfl rfl (Nat.le_of_ble_eq_true rfl) dL_law_711 (fun v9 w9 H locs hpo hP hD hS => ?_)
  obtain ⟨rfl, rfl⟩ := hpo
  have hP : va_P G.1 vwCl (wX G ν 0 0 tn Sg nb er ec eC eB eF eK en ey eY eD eR eq nr nc C B F K n y Yr Dn Rt q sn ad CC BB FF KK NN YY zn bd DC DB DF DK DN DY C2 B2 F2 K2 n2 y2 Pr Rs Qu qd hd wt Sp Be ts un ++ wM G μ tx ro co mp my md mr dr nw tk cs sa go to tn dm at_ so sn zn 0) H := hP
  have hD : va_D A (wX G ν 0 0 tn Sg nb er ec eC eB eF eK en ey eY eD eR eq nr nc C B F K n y Yr Dn Rt q sn ad CC BB FF KK NN YY zn bd DC DB DF DK DN DY C2 B2 F2 K2 n2 y2 Pr Rs Qu qd hd wt Sp Be ts un ++ wM G μ tx ro co mp my md mr dr nw tk cs sa go to tn dm at_ so sn zn 0) := hD
  show WL p l e s m below meth c b H locs (F0 m 714 ls [.int (nI sv), .int (nI sv)])
  refine lv_icmp_eq (tgt := 900) hx hb dL_law_714 (by decide) (fun _ => ?_) (fun z => absurd (rfl) z)
  exact Kt 0 0 tn Sg nb er ec eC eB eF eK en ey eY eD eR eq nr nc C B F K n y Yr Dn Rt q sn ad CC BB FF KK NN YY zn bd DC DB DF DK DN DY C2 B2 F2 K2 n2 y2 Pr Rs Qu qd hd wt Sp Be ts un tx ro co mp my md mr dr nw tk cs sa go to tn dm at_ so sn zn 0 _ _ _ hP hD (hT) (hG) (hM) (hSh) (hKp) (forget_R sa) hS hl
