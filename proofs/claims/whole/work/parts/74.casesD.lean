/-! the cases of the law that go -/
theorem zo_inn (w : Int32) : zo w = inn w 0 1 := by
  have h : zo w = true ↔ inn w 0 1 = true := by
    rw [inn_i, zo, Bool.or_eq_true, decide_eq_true_eq, decide_eq_true_eq]
    constructor
    · rintro (h | h) <;> subst h <;> decide
    · rintro ⟨h1, h2⟩
      obtain ⟨k, hk, rfl⟩ := nI_of h1
      have : k ≤ 1 := (nI_leI (b := 1) hk (by decide)).mp h2
      rcases (show k = 0 ∨ k = 1 by omega) with rfl | rfl
      · exact Or.inl rfl
      · exact Or.inr rfl
  cases h1 : zo w <;> cases h2 : inn w 0 1
  · rfl
  · rw [h1, h2] at h; exact absurd (h.mpr rfl) (by decide)
  · rw [h1, h2] at h; exact absurd (h.mp rfl) (by decide)
  · rfl
theorem wrong_no {nr nc n q : Nat} {C F K Yr Dn Rt : Nat → Int32} {t w : Int32} (h : ¬ (inB t q = true ∧ inn w 0 1 = true)) : wgR nr nc C F K n Yr Dn Rt q t w = -1 := by
  unfold wgR
  rw [zo_inn]
  cases h1 : inB t q with
  | false => rfl
  | true =>
    rw [if_pos rfl]
    cases h2 : inn w 0 1 with
    | false => rfl
    | true => exact absurd ⟨h1, h2⟩ h
theorem fr_gb {C B F : Nat → Int32} {y : Int32} {n a : Nat} (ha : a < 64) : hs (frC C B F y n) (nI a) = !gb (stC C B F y n) a := by
  rw [hs_b _ ha, frC, gb_not _ ha]
theorem lnA_low (nw : Nat → Int32) (n zv : Nat) : ∀ k i, i < 462 → lnA nw n zv k i = nw i := by
  intro k
  induction k with
  | zero => intro i hi; show cpM nw 0 462 42 i = nw i; exact cpM_out nw (Or.inl hi)
  | succ k ih =>
    intro i hi
    rw [lnA_s, pk_un (by omega)]
    unfold lnF
    split
    · rw [pk_un (by omega)]; exact ih i hi
    · exact ih i hi
set_option maxHeartbeats 4000000 in
set_option maxRecDepth 100000 in
theorem law_way {p : Program} {l : Launch} {e : Env} {s : State} {m : MethodId} {below : List Frame} {meth : Method} {c : Code} {b L i : Nat} {xs : Nat → Int32} {G : Gv} {ν μ : Nat → Nat} {A : Nat → Prop} {H : Heap} {locs : List Loc} {ls : Array Slot} {sc : Int64} {sv : Nat} {tn : Nat} {Sg : Nat → Int32} {nb : Nat → Int32} {er : Nat} {ec : Nat} {eC : Nat → Int32} {eB : Nat → Int32} {eF : Nat → Int32} {eK : Nat → Int32} {en : Nat} {ey : Int32} {eY : Nat → Int32} {eD : Nat → Int32} {eR : Nat → Int32} {eq : Nat} {nr : Nat} {nc : Nat} {C : Nat → Int32} {B : Nat → Int32} {F : Nat → Int32} {K : Nat → Int32} {n : Nat} {y : Int32} {Yr : Nat → Int32} {Dn : Nat → Int32} {Rt : Nat → Int32} {q : Nat} {sn : Nat} {ad : Nat → Nat → Nat} {CC : Nat → Nat → Int32} {BB : Nat → Nat → Int32} {FF : Nat → Nat → Int32} {KK : Nat → Nat → Int32} {NN : Nat → Nat} {YY : Nat → Int32} {zn : Nat} {bd : Nat → Nat → Nat} {DC : Nat → Nat → Int32} {DB : Nat → Nat → Int32} {DF : Nat → Nat → Int32} {DK : Nat → Nat → Int32} {DN : Nat → Nat} {DY : Nat → Int32} {C2 : Nat → Int32} {B2 : Nat → Int32} {F2 : Nat → Int32} {K2 : Nat → Int32} {n2 : Nat} {y2 : Int32} {Pr : Nat → Int32} {Rs : Nat → Int32} {Qu : Nat → Int32} {qd : Int64} {hd : Nat} {wt : Nat} {Sp : Nat → Int32} {Be : Nat → Int32} {ts : Int32} {un : Nat} {tx : Nat → Int32} {ro : Nat → Int32} {co : Nat → Int32} {mp : Nat → Int32} {my : Nat → Int32} {md : Nat → Int32} {mr : Nat → Int32} {dr : Nat → Int32} {nw : Nat → Int32} {tk : Nat → Int32} {cs : Nat → Int32} {sa : Nat → Int32} {go : Nat → Int32} {to : Nat → Int32} {dm : Nat} {at_ : Nat} {so : Bool} (hC : LC p s m meth c b L xs G A) (hL : L ≤ 2048) (hi : i + 4 ≤ L) (hP : va_P G.1 vwCl (wX G ν sc sv tn Sg nb er ec eC eB eF eK en ey eY eD eR eq nr nc C B F K n y Yr Dn Rt q sn ad CC BB FF KK NN YY zn bd DC DB DF DK DN DY C2 B2 F2 K2 n2 y2 Pr Rs Qu qd hd wt Sp Be ts un ++ wM G μ tx ro co mp my md mr dr nw tk cs sa go to tn dm at_ so sn zn sv) H) (hD : va_D A (wX G ν sc sv tn Sg nb er ec eC eB eF eK en ey eY eD eR eq nr nc C B F K n y Yr Dn Rt q sn ad CC BB FF KK NN YY zn bd DC DB DF DK DN DY C2 B2 F2 K2 n2 y2 Pr Rs Qu qd hd wt Sp Be ts un ++ wM G μ tx ro co mp my md mr dr nw tk cs sa go to tn dm at_ so sn zn sv)) (hT : TeR Sg tn tx tn) (hG : GrR nr nc Yr Dn Rt q ro co mp my md mr) (hM : MoR nr nc C B F K n y nw 0) (hSh : sn ≤ 8 ∧ sn = sn ∧ ShR nr nc CC BB FF KK NN YY sn nw 42) (hKp : zn ≤ 2 ∧ zn = zn ∧ ShR nr nc DC DB DF DK DN DY zn nw 378) (hSe : SeR sc sv sa sv) (hS : va_S A s.heap H locs) (hl : lv_has ls 4 [(0, .ref b), (1, .ref (ν 0)), (2, .ref (μ 0)), (3, .int (nI i))]) (Kt : Kp p l e s m below meth c b i G ν μ A) : WL p l e s m below meth c b H locs (F0 m 459 ls []) := by
  obtain ⟨hx, hb, hr, hml, hown, hts, hX, hbl, hlk, hE, hA, hbA⟩ := hC
  have ht : tn ≤ 200 := hT.1
  have hnar := hT.2.2.2
  have hsn : sn ≤ 8 := hSh.1
  have hzn : zn ≤ 2 := hKp.1
  have hsv : sv ≤ 12 := hSe.1
  obtain ⟨hg1, hg2, hro, hco, hmp, hq, hvc, hsc⟩ := id hG
  obtain ⟨⟨hn0, hn⟩, hn1, hy0, ⟨yv, hyv2, hyv⟩, hv, hvf, hsm⟩ := id hM
  have hcl := cells_le hg1 hg2
  have hyw : y.toInt < 1000 := by rw [hyv, nI_toInt (by omega)]; omega
  obtain ⟨va, eva⟩ : ∃ v, xs (i + 1) = v := ⟨_, rfl⟩
  obtain ⟨vb, evb⟩ : ∃ v, xs (i + 2) = v := ⟨_, rfl⟩
  by_cases hab : (inG nr nc va && inG nr nc vb) = true
  · have hab1 := (Bool.and_eq_true_iff.mp hab)
    obtain ⟨av, hav, e1⟩ := inB_nat hab1.1 (by omega)
    subst e1
    obtain ⟨bv, hbv, e2⟩ := inB_nat hab1.2 (by omega)
    subst e2
    refine lv_aload_n hx hb dL_law_459 rfl (lv_at hl 1 rfl) ?_
    refine lv_aload_n hx hb dL_law_460 rfl (lv_at hl 0 rfl) ?_
    refine lv_iload_n hx hb dL_law_461 rfl (lv_at hl 3 rfl) ?_
    refine lv_iconst (v := 1) hx hb dL_law_462 (by decide) ?_
    refine lv_iadd hx hb dL_law_463 ?_
    rw [show nI i + (1 : Int32) = nI (i + 1) from nI_add i 1]
    refine va_sld hx hb hX hbl hbA hS (vp_in_nI (by omega) (by omega)) dL_law_464 ?_
    rw [nI_clamp (show i + 1 < 2 ^ 31 by omega), eva]
    refine lv_aload_n hx hb dL_law_465 rfl (lv_at hl 0 rfl) ?_
    refine lv_iload_n hx hb dL_law_466 rfl (lv_at hl 3 rfl) ?_
    refine lv_iconst (v := 2) hx hb dL_law_467 (by decide) ?_
    refine lv_iadd hx hb dL_law_468 ?_
    rw [show nI i + (2 : Int32) = nI (i + 2) from nI_add i 2]
    refine va_sld hx hb hX hbl hbA hS (vp_in_nI (by omega) (by omega)) dL_law_469 ?_
    rw [nI_clamp (show i + 2 < 2 ^ 31 by omega), evb]
    refine ct_callL (As := [.int (nI av), .int (nI bv)]) (rest := []) (wX_len _ _ _ _ _ _ _ _ _ _ _ _ _ _ _ _ _ _ _ _ _ _ _ _ _ _ _ _ _ _ _ _ _ _ _ _ _ _ _ _ _ _ _ _ _ _ _ _ _ _ _ _ _ _ _ _ _ _ _ _ _ _ _ ) (wM_len _ _ _ _ _ _ _ _ _ _ _ _ _ _ _ _ _ _ _ _ _ _ _ ) hx hb hml hown hts hE hA hl.1 hP hD hS (f_X9_way_y l G ν _ _ _ _ _ _ _ _ _ _ _ _ _ _ _ _ _ _ _ _ _ _ _ _ _ _ _ _ _ _ _ _ _ _ _ _ _ _ _ _ _ _ _ _ _ _ _ _ _ _ _ _ _ _ _ _ _ _ _ _ _ _ _ hg1 hg2 hn hq hab) (cw_L_68 hts) ⟨(Nat.le_of_ble_eq_true rfl), (Nat.le_of_ble_eq_true rfl)⟩ ⟨(Nat.le_of_ble_eq_true rfl), (Nat.le_of_ble_eq_true rfl)⟩ rfl rfl rfl rfl rfl (Nat.le_of_ble_eq_true rfl) dL_law_470 (fun v9 w9 H locs hpo hP hD hS => ?_)
    obtain ⟨rfl, Pr9x, Rs9x, Qu9x, qd9x, hd9x, wt9x, rfl⟩ := hpo
    have hP : va_P G.1 vwCl (wX G ν sc sv tn Sg nb er ec eC eB eF eK en ey eY eD eR eq nr nc C B F K n y Yr Dn Rt q sn ad CC BB FF KK NN YY zn bd DC DB DF DK DN DY C2 B2 F2 K2 n2 y2 Pr9x Rs9x Qu9x qd9x hd9x wt9x Sp Be ts un ++ wM G μ tx ro co mp my md mr dr nw tk cs sa go to tn dm at_ so sn zn sv) H := swap_P hP
    have hD : va_D A (wX G ν sc sv tn Sg nb er ec eC eB eF eK en ey eY eD eR eq nr nc C B F K n y Yr Dn Rt q sn ad CC BB FF KK NN YY zn bd DC DB DF DK DN DY C2 B2 F2 K2 n2 y2 Pr9x Rs9x Qu9x qd9x hd9x wt9x Sp Be ts un ++ wM G μ tx ro co mp my md mr dr nw tk cs sa go to tn dm at_ so sn zn sv) := swap_D (n := 15) (k := 93) rfl rfl nd15 nd93 hD
    show WL p l e s m below meth c b H locs (F0 m 473 ls [.int (orN (spX (frC C B F y n) nr nc (nI av) (nI bv)))])
    refine lv_aload_n hx hb dL_law_473 rfl (lv_at hl 2 rfl) ?_
    refine lv_aload_n hx hb dL_law_474 rfl (lv_at hl 0 rfl) ?_
    refine lv_iload_n hx hb dL_law_475 rfl (lv_at hl 3 rfl) ?_
    refine lv_iconst (v := 1) hx hb dL_law_476 (by decide) ?_
    refine lv_iadd hx hb dL_law_477 ?_
    rw [show nI i + (1 : Int32) = nI (i + 1) from nI_add i 1]
    refine va_sld hx hb hX hbl hbA hS (vp_in_nI (by omega) (by omega)) dL_law_478 ?_
    rw [nI_clamp (show i + 1 < 2 ^ 31 by omega), eva]
    refine lv_aload_n hx hb dL_law_479 rfl (lv_at hl 0 rfl) ?_
    refine lv_iload_n hx hb dL_law_480 rfl (lv_at hl 3 rfl) ?_
    refine lv_iconst (v := 2) hx hb dL_law_481 (by decide) ?_
    refine lv_iadd hx hb dL_law_482 ?_
    rw [show nI i + (2 : Int32) = nI (i + 2) from nI_add i 2]
    refine va_sld hx hb hX hbl hbA hS (vp_in_nI (by omega) (by omega)) dL_law_483 ?_
    rw [nI_clamp (show i + 2 < 2 ^ 31 by omega), evb]
    refine ct_callR (As := [.int (nI av), .int (nI bv)]) (rest := [.int (orN (spX (frC C B F y n) nr nc (nI av) (nI bv)))]) (wX_len _ _ _ _ _ _ _ _ _ _ _ _ _ _ _ _ _ _ _ _ _ _ _ _ _ _ _ _ _ _ _ _ _ _ _ _ _ _ _ _ _ _ _ _ _ _ _ _ _ _ _ _ _ _ _ _ _ _ _ _ _ _ _ ) (wM_len _ _ _ _ _ _ _ _ _ _ _ _ _ _ _ _ _ _ _ _ _ _ _ ) hx hb hml hown hts hE hA hl.1 hP hD hS (c_X10_way_y l G _ _ _ _ _ _ _ _ _ _ _ _ _ _ _ _ _ _ _ _ _ _ _ _ _ _ _ _ _ _ _ _ _ _ _ _ _ _ _ _ _ hro hco hg1 hg2 hn1 hn hav hbv) (cw_L_71 hts) ⟨(Nat.le_of_ble_eq_true rfl), (Nat.le_of_ble_eq_true rfl)⟩ ⟨(Nat.le_of_ble_eq_true rfl), (Nat.le_of_ble_eq_true rfl)⟩ rfl rfl rfl rfl rfl (Nat.le_of_ble_eq_true rfl) dL_law_484 (fun v9 w9 H locs hpo hP hD hS => ?_)
    obtain ⟨rfl, tk9m, cs9m, rfl⟩ := hpo
    have hP : va_P G.1 vwCl (wX G ν sc sv tn Sg nb er ec eC eB eF eK en ey eY eD eR eq nr nc C B F K n y Yr Dn Rt q sn ad CC BB FF KK NN YY zn bd DC DB DF DK DN DY C2 B2 F2 K2 n2 y2 Pr9x Rs9x Qu9x qd9x hd9x wt9x Sp Be ts un ++ wM G μ tx ro co mp my md mr dr nw tk9m cs9m sa go to tn dm at_ so sn zn sv) H := hP
    have hD : va_D A (wX G ν sc sv tn Sg nb er ec eC eB eF eK en ey eY eD eR eq nr nc C B F K n y Yr Dn Rt q sn ad CC BB FF KK NN YY zn bd DC DB DF DK DN DY C2 B2 F2 K2 n2 y2 Pr9x Rs9x Qu9x qd9x hd9x wt9x Sp Be ts un ++ wM G μ tx ro co mp my md mr dr nw tk9m cs9m sa go to tn dm at_ so sn zn sv) := hD
    show WL p l e s m below meth c b H locs (F0 m 487 ls [.int (stX nr nc (stC (cel nw 0) (sta nw 0) (fal nw 0) (nw 0) n ^^^ (-1)) av bv), .int (orN (spX (frC C B F y n) nr nc (nI av) (nI bv)))])
    refine lv_icmp_eq (tgt := 900) hx hb dL_law_487 (by decide) (fun _ => ?_) (fun z => absurd (by rw [hy0, stC_same hv hsm hyw]; exact way_same hg1 hg2 _ hav hbv) z)
    exact Kt sc sv tn Sg nb er ec eC eB eF eK en ey eY eD eR eq nr nc C B F K n y Yr Dn Rt q sn ad CC BB FF KK NN YY zn bd DC DB DF DK DN DY C2 B2 F2 K2 n2 y2 Pr9x Rs9x Qu9x qd9x hd9x wt9x Sp Be ts un tx ro co mp my md mr dr nw tk9m cs9m sa go to tn dm at_ so sn zn sv _ _ _ hP hD (hT) (hG) (hM) (hSh) (hKp) (hSe) hS hl
  · refine lv_aload_n hx hb dL_law_459 rfl (lv_at hl 1 rfl) ?_
    refine lv_aload_n hx hb dL_law_460 rfl (lv_at hl 0 rfl) ?_
    refine lv_iload_n hx hb dL_law_461 rfl (lv_at hl 3 rfl) ?_
    refine lv_iconst (v := 1) hx hb dL_law_462 (by decide) ?_
    refine lv_iadd hx hb dL_law_463 ?_
    rw [show nI i + (1 : Int32) = nI (i + 1) from nI_add i 1]
    refine va_sld hx hb hX hbl hbA hS (vp_in_nI (by omega) (by omega)) dL_law_464 ?_
    rw [nI_clamp (show i + 1 < 2 ^ 31 by omega), eva]
    refine lv_aload_n hx hb dL_law_465 rfl (lv_at hl 0 rfl) ?_
    refine lv_iload_n hx hb dL_law_466 rfl (lv_at hl 3 rfl) ?_
    refine lv_iconst (v := 2) hx hb dL_law_467 (by decide) ?_
    refine lv_iadd hx hb dL_law_468 ?_
    rw [show nI i + (2 : Int32) = nI (i + 2) from nI_add i 2]
    refine va_sld hx hb hX hbl hbA hS (vp_in_nI (by omega) (by omega)) dL_law_469 ?_
    rw [nI_clamp (show i + 2 < 2 ^ 31 by omega), evb]
    refine rd_callL (As := [.int va, .int vb]) (rest := []) (wX_len _ _ _ _ _ _ _ _ _ _ _ _ _ _ _ _ _ _ _ _ _ _ _ _ _ _ _ _ _ _ _ _ _ _ _ _ _ _ _ _ _ _ _ _ _ _ _ _ _ _ _ _ _ _ _ _ _ _ _ _ _ _ _ ) hx hb hml hown hts hE hl.1 hP hS (f_X9_way_n l G ν _ _ _ _ _ _ _ _ _ _ _ _ _ _ _ _ _ _ _ _ _ _ _ _ _ _ _ _ _ _ _ _ _ _ _ _ _ _ _ _ _ _ _ _ _ _ _ _ _ _ _ _ _ _ _ _ _ _ _ _ _ _ _ hg1 hg2 hn hq (by simpa using hab)) (cw_L_68 hts) ⟨(Nat.le_of_ble_eq_true rfl), (Nat.le_of_ble_eq_true rfl)⟩ ⟨(Nat.le_of_ble_eq_true rfl), (Nat.le_of_ble_eq_true rfl)⟩ rfl rfl rfl rfl rfl (Nat.le_of_ble_eq_true rfl) dL_law_470 ?_
    refine lv_aload_n hx hb dL_law_473 rfl (lv_at hl 2 rfl) ?_
    refine lv_aload_n hx hb dL_law_474 rfl (lv_at hl 0 rfl) ?_
    refine lv_iload_n hx hb dL_law_475 rfl (lv_at hl 3 rfl) ?_
    refine lv_iconst (v := 1) hx hb dL_law_476 (by decide) ?_
    refine lv_iadd hx hb dL_law_477 ?_
    rw [show nI i + (1 : Int32) = nI (i + 1) from nI_add i 1]
    refine va_sld hx hb hX hbl hbA hS (vp_in_nI (by omega) (by omega)) dL_law_478 ?_
    rw [nI_clamp (show i + 1 < 2 ^ 31 by omega), eva]
    refine lv_aload_n hx hb dL_law_479 rfl (lv_at hl 0 rfl) ?_
    refine lv_iload_n hx hb dL_law_480 rfl (lv_at hl 3 rfl) ?_
    refine lv_iconst (v := 2) hx hb dL_law_481 (by decide) ?_
    refine lv_iadd hx hb dL_law_482 ?_
    rw [show nI i + (2 : Int32) = nI (i + 2) from nI_add i 2]
    refine va_sld hx hb hX hbl hbA hS (vp_in_nI (by omega) (by omega)) dL_law_483 ?_
    rw [nI_clamp (show i + 2 < 2 ^ 31 by omega), evb]
    refine rd_callR (As := [.int va, .int vb]) (rest := [.int (-1)]) (wX_len _ _ _ _ _ _ _ _ _ _ _ _ _ _ _ _ _ _ _ _ _ _ _ _ _ _ _ _ _ _ _ _ _ _ _ _ _ _ _ _ _ _ _ _ _ _ _ _ _ _ _ _ _ _ _ _ _ _ _ _ _ _ _ ) (wM_len _ _ _ _ _ _ _ _ _ _ _ _ _ _ _ _ _ _ _ _ _ _ _ ) hx hb hml hown hts hE hl.1 hP hS (c_X10_way_n l G _ _ _ _ _ _ _ _ _ _ _ _ _ _ _ _ _ _ _ _ _ _ _ _ _ _ _ _ _ _ _ _ _ _ _ _ _ _ _ _ _ hro hco hg1 hg2 hn1 hn (fun z => hab (by rw [z.1, z.2]; rfl))) (cw_L_71 hts) ⟨(Nat.le_of_ble_eq_true rfl), (Nat.le_of_ble_eq_true rfl)⟩ ⟨(Nat.le_of_ble_eq_true rfl), (Nat.le_of_ble_eq_true rfl)⟩ rfl rfl rfl rfl rfl (Nat.le_of_ble_eq_true rfl) dL_law_484 ?_
    show WL p l e s m below meth c b H locs (F0 m 487 ls [.int (-1), .int (-1)])
    refine lv_icmp_eq (tgt := 900) hx hb dL_law_487 (by decide) (fun _ => ?_) (fun z => absurd (rfl) z)
    exact Kt sc sv tn Sg nb er ec eC eB eF eK en ey eY eD eR eq nr nc C B F K n y Yr Dn Rt q sn ad CC BB FF KK NN YY zn bd DC DB DF DK DN DY C2 B2 F2 K2 n2 y2 Pr Rs Qu qd hd wt Sp Be ts un tx ro co mp my md mr dr nw tk cs sa go to tn dm at_ so sn zn sv _ _ _ hP hD (hT) (hG) (hM) (hSh) (hKp) (hSe) hS hl

set_option maxHeartbeats 4000000 in
set_option maxRecDepth 100000 in
theorem law_sure {p : Program} {l : Launch} {e : Env} {s : State} {m : MethodId} {below : List Frame} {meth : Method} {c : Code} {b L i : Nat} {xs : Nat → Int32} {G : Gv} {ν μ : Nat → Nat} {A : Nat → Prop} {H : Heap} {locs : List Loc} {ls : Array Slot} {sc : Int64} {sv : Nat} {tn : Nat} {Sg : Nat → Int32} {nb : Nat → Int32} {er : Nat} {ec : Nat} {eC : Nat → Int32} {eB : Nat → Int32} {eF : Nat → Int32} {eK : Nat → Int32} {en : Nat} {ey : Int32} {eY : Nat → Int32} {eD : Nat → Int32} {eR : Nat → Int32} {eq : Nat} {nr : Nat} {nc : Nat} {C : Nat → Int32} {B : Nat → Int32} {F : Nat → Int32} {K : Nat → Int32} {n : Nat} {y : Int32} {Yr : Nat → Int32} {Dn : Nat → Int32} {Rt : Nat → Int32} {q : Nat} {sn : Nat} {ad : Nat → Nat → Nat} {CC : Nat → Nat → Int32} {BB : Nat → Nat → Int32} {FF : Nat → Nat → Int32} {KK : Nat → Nat → Int32} {NN : Nat → Nat} {YY : Nat → Int32} {zn : Nat} {bd : Nat → Nat → Nat} {DC : Nat → Nat → Int32} {DB : Nat → Nat → Int32} {DF : Nat → Nat → Int32} {DK : Nat → Nat → Int32} {DN : Nat → Nat} {DY : Nat → Int32} {C2 : Nat → Int32} {B2 : Nat → Int32} {F2 : Nat → Int32} {K2 : Nat → Int32} {n2 : Nat} {y2 : Int32} {Pr : Nat → Int32} {Rs : Nat → Int32} {Qu : Nat → Int32} {qd : Int64} {hd : Nat} {wt : Nat} {Sp : Nat → Int32} {Be : Nat → Int32} {ts : Int32} {un : Nat} {tx : Nat → Int32} {ro : Nat → Int32} {co : Nat → Int32} {mp : Nat → Int32} {my : Nat → Int32} {md : Nat → Int32} {mr : Nat → Int32} {dr : Nat → Int32} {nw : Nat → Int32} {tk : Nat → Int32} {cs : Nat → Int32} {sa : Nat → Int32} {go : Nat → Int32} {to : Nat → Int32} {dm : Nat} {at_ : Nat} {so : Bool} (hC : LC p s m meth c b L xs G A) (hL : L ≤ 2048) (hi : i + 4 ≤ L) (hP : va_P G.1 vwCl (wX G ν sc sv tn Sg nb er ec eC eB eF eK en ey eY eD eR eq nr nc C B F K n y Yr Dn Rt q sn ad CC BB FF KK NN YY zn bd DC DB DF DK DN DY C2 B2 F2 K2 n2 y2 Pr Rs Qu qd hd wt Sp Be ts un ++ wM G μ tx ro co mp my md mr dr nw tk cs sa go to tn dm at_ so sn zn sv) H) (hD : va_D A (wX G ν sc sv tn Sg nb er ec eC eB eF eK en ey eY eD eR eq nr nc C B F K n y Yr Dn Rt q sn ad CC BB FF KK NN YY zn bd DC DB DF DK DN DY C2 B2 F2 K2 n2 y2 Pr Rs Qu qd hd wt Sp Be ts un ++ wM G μ tx ro co mp my md mr dr nw tk cs sa go to tn dm at_ so sn zn sv)) (hT : TeR Sg tn tx tn) (hG : GrR nr nc Yr Dn Rt q ro co mp my md mr) (hM : MoR nr nc C B F K n y nw 0) (hSh : sn ≤ 8 ∧ sn = sn ∧ ShR nr nc CC BB FF KK NN YY sn nw 42) (hKp : zn ≤ 2 ∧ zn = zn ∧ ShR nr nc DC DB DF DK DN DY zn nw 378) (hSe : SeR sc sv sa sv) (hS : va_S A s.heap H locs) (hl : lv_has ls 4 [(0, .ref b), (1, .ref (ν 0)), (2, .ref (μ 0)), (3, .int (nI i))]) (Kt : Kp p l e s m below meth c b i G ν μ A) : WL p l e s m below meth c b H locs (F0 m 492 ls []) := by
  obtain ⟨hx, hb, hr, hml, hown, hts, hX, hbl, hlk, hE, hA, hbA⟩ := hC
  have ht : tn ≤ 200 := hT.1
  have hnar := hT.2.2.2
  have hsn : sn ≤ 8 := hSh.1
  have hzn : zn ≤ 2 := hKp.1
  have hsv : sv ≤ 12 := hSe.1
  obtain ⟨hg1, hg2, hro, hco, hmp, hq, hvc, hsc⟩ := id hG
  obtain ⟨⟨hn0, hn⟩, hn1, hy0, ⟨yv, hyv2, hyv⟩, hv, hvf, hsm⟩ := id hM
  have hcl := cells_le hg1 hg2
  have hyw : y.toInt < 1000 := by rw [hyv, nI_toInt (by omega)]; omega
  obtain ⟨vt, evt⟩ : ∃ v, xs (i + 1) = v := ⟨_, rfl⟩
  obtain ⟨va, eva⟩ : ∃ v, xs (i + 2) = v := ⟨_, rfl⟩
  obtain ⟨vb, evb⟩ : ∃ v, xs (i + 3) = v := ⟨_, rfl⟩
  by_cases h3 : inB vt q = true ∧ (inG nr nc va && inG nr nc vb) = true
  · obtain ⟨j, hj, e3⟩ := inB_nat h3.1 (by omega)
    subst e3
    have hab := h3.2
    have hab1 := (Bool.and_eq_true_iff.mp hab)
    obtain ⟨av, hav, e1⟩ := inB_nat hab1.1 (by omega)
    subst e1
    obtain ⟨bv, hbv, e2⟩ := inB_nat hab1.2 (by omega)
    subst e2
    refine lv_aload_n hx hb dL_law_492 rfl (lv_at hl 1 rfl) ?_
    refine lv_aload_n hx hb dL_law_493 rfl (lv_at hl 0 rfl) ?_
    refine lv_iload_n hx hb dL_law_494 rfl (lv_at hl 3 rfl) ?_
    refine lv_iconst (v := 1) hx hb dL_law_495 (by decide) ?_
    refine lv_iadd hx hb dL_law_496 ?_
    rw [show nI i + (1 : Int32) = nI (i + 1) from nI_add i 1]
    refine va_sld hx hb hX hbl hbA hS (vp_in_nI (by omega) (by omega)) dL_law_497 ?_
    rw [nI_clamp (show i + 1 < 2 ^ 31 by omega), evt]
    refine lv_aload_n hx hb dL_law_498 rfl (lv_at hl 0 rfl) ?_
    refine lv_iload_n hx hb dL_law_499 rfl (lv_at hl 3 rfl) ?_
    refine lv_iconst (v := 2) hx hb dL_law_500 (by decide) ?_
    refine lv_iadd hx hb dL_law_501 ?_
    rw [show nI i + (2 : Int32) = nI (i + 2) from nI_add i 2]
    refine va_sld hx hb hX hbl hbA hS (vp_in_nI (by omega) (by omega)) dL_law_502 ?_
    rw [nI_clamp (show i + 2 < 2 ^ 31 by omega), eva]
    refine lv_aload_n hx hb dL_law_503 rfl (lv_at hl 0 rfl) ?_
    refine lv_iload_n hx hb dL_law_504 rfl (lv_at hl 3 rfl) ?_
    refine lv_iconst (v := 3) hx hb dL_law_505 (by decide) ?_
    refine lv_iadd hx hb dL_law_506 ?_
    rw [show nI i + (3 : Int32) = nI (i + 3) from nI_add i 3]
    refine va_sld hx hb hX hbl hbA hS (vp_in_nI (by omega) (by omega)) dL_law_507 ?_
    rw [nI_clamp (show i + 3 < 2 ^ 31 by omega), evb]
    refine ct_callL (As := [.int (nI j), .int (nI av), .int (nI bv)]) (rest := []) (wX_len _ _ _ _ _ _ _ _ _ _ _ _ _ _ _ _ _ _ _ _ _ _ _ _ _ _ _ _ _ _ _ _ _ _ _ _ _ _ _ _ _ _ _ _ _ _ _ _ _ _ _ _ _ _ _ _ _ _ _ _ _ _ _ ) (wM_len _ _ _ _ _ _ _ _ _ _ _ _ _ _ _ _ _ _ _ _ _ _ _ ) hx hb hml hown hts hE hA hl.1 hP hD hS (f_X9_sure_y l G ν _ _ _ _ _ _ _ _ _ _ _ _ _ _ _ _ _ _ _ _ _ _ _ _ _ _ _ _ _ _ _ _ _ _ _ _ _ _ _ _ _ _ _ _ _ _ _ _ _ _ _ _ _ _ _ _ _ _ _ _ _ _ _ _ hg1 hg2 hn hq h3.1 h3.2) (cw_L_72 hts) ⟨(Nat.le_of_ble_eq_true rfl), (Nat.le_of_ble_eq_true rfl)⟩ ⟨(Nat.le_of_ble_eq_true rfl), (Nat.le_of_ble_eq_true rfl)⟩ rfl rfl rfl rfl rfl (Nat.le_of_ble_eq_true rfl) dL_law_508 (fun v9 w9 H locs hpo hP hD hS => ?_)
    obtain ⟨rfl, Pr9x, Rs9x, Qu9x, qd9x, hd9x, wt9x, rfl⟩ := hpo
    have hP : va_P G.1 vwCl (wX G ν sc sv tn Sg nb er ec eC eB eF eK en ey eY eD eR eq nr nc C B F K n y Yr Dn Rt q sn ad CC BB FF KK NN YY zn bd DC DB DF DK DN DY C2 B2 F2 K2 n2 y2 Pr9x Rs9x Qu9x qd9x hd9x wt9x Sp Be ts un ++ wM G μ tx ro co mp my md mr dr nw tk cs sa go to tn dm at_ so sn zn sv) H := swap_P hP
    have hD : va_D A (wX G ν sc sv tn Sg nb er ec eC eB eF eK en ey eY eD eR eq nr nc C B F K n y Yr Dn Rt q sn ad CC BB FF KK NN YY zn bd DC DB DF DK DN DY C2 B2 F2 K2 n2 y2 Pr9x Rs9x Qu9x qd9x hd9x wt9x Sp Be ts un ++ wM G μ tx ro co mp my md mr dr nw tk cs sa go to tn dm at_ so sn zn sv) := swap_D (n := 15) (k := 93) rfl rfl nd15 nd93 hD
    show WL p l e s m below meth c b H locs (F0 m 511 ls [.int (orN (spX (swC nr nc C F K n Yr Dn Rt q (nI j)) nr nc (nI av) (nI bv)))])
    refine lv_aload_n hx hb dL_law_511 rfl (lv_at hl 2 rfl) ?_
    refine lv_aload_n hx hb dL_law_512 rfl (lv_at hl 0 rfl) ?_
    refine lv_iload_n hx hb dL_law_513 rfl (lv_at hl 3 rfl) ?_
    refine lv_iconst (v := 1) hx hb dL_law_514 (by decide) ?_
    refine lv_iadd hx hb dL_law_515 ?_
    rw [show nI i + (1 : Int32) = nI (i + 1) from nI_add i 1]
    refine va_sld hx hb hX hbl hbA hS (vp_in_nI (by omega) (by omega)) dL_law_516 ?_
    rw [nI_clamp (show i + 1 < 2 ^ 31 by omega), evt]
    refine lv_aload_n hx hb dL_law_517 rfl (lv_at hl 0 rfl) ?_
    refine lv_iload_n hx hb dL_law_518 rfl (lv_at hl 3 rfl) ?_
    refine lv_iconst (v := 2) hx hb dL_law_519 (by decide) ?_
    refine lv_iadd hx hb dL_law_520 ?_
    rw [show nI i + (2 : Int32) = nI (i + 2) from nI_add i 2]
    refine va_sld hx hb hX hbl hbA hS (vp_in_nI (by omega) (by omega)) dL_law_521 ?_
    rw [nI_clamp (show i + 2 < 2 ^ 31 by omega), eva]
    refine lv_aload_n hx hb dL_law_522 rfl (lv_at hl 0 rfl) ?_
    refine lv_iload_n hx hb dL_law_523 rfl (lv_at hl 3 rfl) ?_
    refine lv_iconst (v := 3) hx hb dL_law_524 (by decide) ?_
    refine lv_iadd hx hb dL_law_525 ?_
    rw [show nI i + (3 : Int32) = nI (i + 3) from nI_add i 3]
    refine va_sld hx hb hX hbl hbA hS (vp_in_nI (by omega) (by omega)) dL_law_526 ?_
    rw [nI_clamp (show i + 3 < 2 ^ 31 by omega), evb]
    refine ct_callR (As := [.int (nI j), .int (nI av), .int (nI bv)]) (rest := [.int (orN (spX (swC nr nc C F K n Yr Dn Rt q (nI j)) nr nc (nI av) (nI bv)))]) (wX_len _ _ _ _ _ _ _ _ _ _ _ _ _ _ _ _ _ _ _ _ _ _ _ _ _ _ _ _ _ _ _ _ _ _ _ _ _ _ _ _ _ _ _ _ _ _ _ _ _ _ _ _ _ _ _ _ _ _ _ _ _ _ _ ) (wM_len _ _ _ _ _ _ _ _ _ _ _ _ _ _ _ _ _ _ _ _ _ _ _ ) hx hb hml hown hts hE hA hl.1 hP hD hS (c_X10_sure_y l G _ _ _ _ _ _ _ _ _ _ _ _ _ _ _ _ _ _ _ _ _ _ _ _ _ _ _ _ _ _ _ _ _ _ _ _ _ _ _ _ _ _ _ hro hco hg1 hg2 hn1 hn hmp hq hj hav hbv) (cw_L_76 hts) ⟨(Nat.le_of_ble_eq_true rfl), (Nat.le_of_ble_eq_true rfl)⟩ ⟨(Nat.le_of_ble_eq_true rfl), (Nat.le_of_ble_eq_true rfl)⟩ rfl rfl rfl rfl rfl (Nat.le_of_ble_eq_true rfl) dL_law_527 (fun v9 w9 H locs hpo hP hD hS => ?_)
    obtain ⟨rfl, tk9m, cs9m, rfl⟩ := hpo
    have hP : va_P G.1 vwCl (wX G ν sc sv tn Sg nb er ec eC eB eF eK en ey eY eD eR eq nr nc C B F K n y Yr Dn Rt q sn ad CC BB FF KK NN YY zn bd DC DB DF DK DN DY C2 B2 F2 K2 n2 y2 Pr9x Rs9x Qu9x qd9x hd9x wt9x Sp Be ts un ++ wM G μ tx ro co mp my md mr dr nw tk9m cs9m sa go to tn dm at_ so sn zn sv) H := hP
    have hD : va_D A (wX G ν sc sv tn Sg nb er ec eC eB eF eK en ey eY eD eR eq nr nc C B F K n y Yr Dn Rt q sn ad CC BB FF KK NN YY zn bd DC DB DF DK DN DY C2 B2 F2 K2 n2 y2 Pr9x Rs9x Qu9x qd9x hd9x wt9x Sp Be ts un ++ wM G μ tx ro co mp my md mr dr nw tk9m cs9m sa go to tn dm at_ so sn zn sv) := hD
    show WL p l e s m below meth c b H locs (F0 m 530 ls [.int (stX nr nc (swM nr nc nw my md mr n j) av bv), .int (orN (spX (swC nr nc C F K n Yr Dn Rt q (nI j)) nr nc (nI av) (nI bv)))])
    refine lv_icmp_eq (tgt := 900) hx hb dL_law_530 (by decide) (fun _ => ?_) (fun z => absurd (by rw [sw_same hg1 hg2 hv hsm hvc hsc hq hj]; exact way_same hg1 hg2 _ hav hbv) z)
    exact Kt sc sv tn Sg nb er ec eC eB eF eK en ey eY eD eR eq nr nc C B F K n y Yr Dn Rt q sn ad CC BB FF KK NN YY zn bd DC DB DF DK DN DY C2 B2 F2 K2 n2 y2 Pr9x Rs9x Qu9x qd9x hd9x wt9x Sp Be ts un tx ro co mp my md mr dr nw tk9m cs9m sa go to tn dm at_ so sn zn sv _ _ _ hP hD (hT) (hG) (hM) (hSh) (hKp) (hSe) hS hl
  · refine lv_aload_n hx hb dL_law_492 rfl (lv_at hl 1 rfl) ?_
    refine lv_aload_n hx hb dL_law_493 rfl (lv_at hl 0 rfl) ?_
    refine lv_iload_n hx hb dL_law_494 rfl (lv_at hl 3 rfl) ?_
    refine lv_iconst (v := 1) hx hb dL_law_495 (by decide) ?_
    refine lv_iadd hx hb dL_law_496 ?_
    rw [show nI i + (1 : Int32) = nI (i + 1) from nI_add i 1]
    refine va_sld hx hb hX hbl hbA hS (vp_in_nI (by omega) (by omega)) dL_law_497 ?_
    rw [nI_clamp (show i + 1 < 2 ^ 31 by omega), evt]
    refine lv_aload_n hx hb dL_law_498 rfl (lv_at hl 0 rfl) ?_
    refine lv_iload_n hx hb dL_law_499 rfl (lv_at hl 3 rfl) ?_
    refine lv_iconst (v := 2) hx hb dL_law_500 (by decide) ?_
    refine lv_iadd hx hb dL_law_501 ?_
    rw [show nI i + (2 : Int32) = nI (i + 2) from nI_add i 2]
    refine va_sld hx hb hX hbl hbA hS (vp_in_nI (by omega) (by omega)) dL_law_502 ?_
    rw [nI_clamp (show i + 2 < 2 ^ 31 by omega), eva]
    refine lv_aload_n hx hb dL_law_503 rfl (lv_at hl 0 rfl) ?_
    refine lv_iload_n hx hb dL_law_504 rfl (lv_at hl 3 rfl) ?_
    refine lv_iconst (v := 3) hx hb dL_law_505 (by decide) ?_
    refine lv_iadd hx hb dL_law_506 ?_
    rw [show nI i + (3 : Int32) = nI (i + 3) from nI_add i 3]
    refine va_sld hx hb hX hbl hbA hS (vp_in_nI (by omega) (by omega)) dL_law_507 ?_
    rw [nI_clamp (show i + 3 < 2 ^ 31 by omega), evb]
    refine rd_callL (As := [.int vt, .int va, .int vb]) (rest := []) (wX_len _ _ _ _ _ _ _ _ _ _ _ _ _ _ _ _ _ _ _ _ _ _ _ _ _ _ _ _ _ _ _ _ _ _ _ _ _ _ _ _ _ _ _ _ _ _ _ _ _ _ _ _ _ _ _ _ _ _ _ _ _ _ _ ) hx hb hml hown hts hE hl.1 hP hS (f_X9_sure_n l G ν _ _ _ _ _ _ _ _ _ _ _ _ _ _ _ _ _ _ _ _ _ _ _ _ _ _ _ _ _ _ _ _ _ _ _ _ _ _ _ _ _ _ _ _ _ _ _ _ _ _ _ _ _ _ _ _ _ _ _ _ _ _ _ _ hg1 hg2 hn hq h3) (cw_L_72 hts) ⟨(Nat.le_of_ble_eq_true rfl), (Nat.le_of_ble_eq_true rfl)⟩ ⟨(Nat.le_of_ble_eq_true rfl), (Nat.le_of_ble_eq_true rfl)⟩ rfl rfl rfl rfl rfl (Nat.le_of_ble_eq_true rfl) dL_law_508 ?_
    refine lv_aload_n hx hb dL_law_511 rfl (lv_at hl 2 rfl) ?_
    refine lv_aload_n hx hb dL_law_512 rfl (lv_at hl 0 rfl) ?_
    refine lv_iload_n hx hb dL_law_513 rfl (lv_at hl 3 rfl) ?_
    refine lv_iconst (v := 1) hx hb dL_law_514 (by decide) ?_
    refine lv_iadd hx hb dL_law_515 ?_
    rw [show nI i + (1 : Int32) = nI (i + 1) from nI_add i 1]
    refine va_sld hx hb hX hbl hbA hS (vp_in_nI (by omega) (by omega)) dL_law_516 ?_
    rw [nI_clamp (show i + 1 < 2 ^ 31 by omega), evt]
    refine lv_aload_n hx hb dL_law_517 rfl (lv_at hl 0 rfl) ?_
    refine lv_iload_n hx hb dL_law_518 rfl (lv_at hl 3 rfl) ?_
    refine lv_iconst (v := 2) hx hb dL_law_519 (by decide) ?_
    refine lv_iadd hx hb dL_law_520 ?_
    rw [show nI i + (2 : Int32) = nI (i + 2) from nI_add i 2]
    refine va_sld hx hb hX hbl hbA hS (vp_in_nI (by omega) (by omega)) dL_law_521 ?_
    rw [nI_clamp (show i + 2 < 2 ^ 31 by omega), eva]
    refine lv_aload_n hx hb dL_law_522 rfl (lv_at hl 0 rfl) ?_
    refine lv_iload_n hx hb dL_law_523 rfl (lv_at hl 3 rfl) ?_
    refine lv_iconst (v := 3) hx hb dL_law_524 (by decide) ?_
    refine lv_iadd hx hb dL_law_525 ?_
    rw [show nI i + (3 : Int32) = nI (i + 3) from nI_add i 3]
    refine va_sld hx hb hX hbl hbA hS (vp_in_nI (by omega) (by omega)) dL_law_526 ?_
    rw [nI_clamp (show i + 3 < 2 ^ 31 by omega), evb]
    refine rd_callR (As := [.int vt, .int va, .int vb]) (rest := [.int (-1)]) (wX_len _ _ _ _ _ _ _ _ _ _ _ _ _ _ _ _ _ _ _ _ _ _ _ _ _ _ _ _ _ _ _ _ _ _ _ _ _ _ _ _ _ _ _ _ _ _ _ _ _ _ _ _ _ _ _ _ _ _ _ _ _ _ _ ) (wM_len _ _ _ _ _ _ _ _ _ _ _ _ _ _ _ _ _ _ _ _ _ _ _ ) hx hb hml hown hts hE hl.1 hP hS (c_X10_sure_n l G _ _ _ _ _ _ _ _ _ _ _ _ _ _ _ _ _ _ _ _ _ _ _ _ _ _ _ _ _ _ _ _ _ _ _ _ _ _ _ _ _ _ _ hro hco hg1 hg2 hn1 hn hmp hq (fun z => h3 ⟨z.1, by rw [z.2.1, z.2.2]; rfl⟩)) (cw_L_76 hts) ⟨(Nat.le_of_ble_eq_true rfl), (Nat.le_of_ble_eq_true rfl)⟩ ⟨(Nat.le_of_ble_eq_true rfl), (Nat.le_of_ble_eq_true rfl)⟩ rfl rfl rfl rfl rfl (Nat.le_of_ble_eq_true rfl) dL_law_527 ?_
    show WL p l e s m below meth c b H locs (F0 m 530 ls [.int (-1), .int (-1)])
    refine lv_icmp_eq (tgt := 900) hx hb dL_law_530 (by decide) (fun _ => ?_) (fun z => absurd (rfl) z)
    exact Kt sc sv tn Sg nb er ec eC eB eF eK en ey eY eD eR eq nr nc C B F K n y Yr Dn Rt q sn ad CC BB FF KK NN YY zn bd DC DB DF DK DN DY C2 B2 F2 K2 n2 y2 Pr Rs Qu qd hd wt Sp Be ts un tx ro co mp my md mr dr nw tk cs sa go to tn dm at_ so sn zn sv _ _ _ hP hD (hT) (hG) (hM) (hSh) (hKp) (hSe) hS hl

set_option maxHeartbeats 4000000 in
set_option maxRecDepth 100000 in
theorem law_pull {p : Program} {l : Launch} {e : Env} {s : State} {m : MethodId} {below : List Frame} {meth : Method} {c : Code} {b L i : Nat} {xs : Nat → Int32} {G : Gv} {ν μ : Nat → Nat} {A : Nat → Prop} {H : Heap} {locs : List Loc} {ls : Array Slot} {sc : Int64} {sv : Nat} {tn : Nat} {Sg : Nat → Int32} {nb : Nat → Int32} {er : Nat} {ec : Nat} {eC : Nat → Int32} {eB : Nat → Int32} {eF : Nat → Int32} {eK : Nat → Int32} {en : Nat} {ey : Int32} {eY : Nat → Int32} {eD : Nat → Int32} {eR : Nat → Int32} {eq : Nat} {nr : Nat} {nc : Nat} {C : Nat → Int32} {B : Nat → Int32} {F : Nat → Int32} {K : Nat → Int32} {n : Nat} {y : Int32} {Yr : Nat → Int32} {Dn : Nat → Int32} {Rt : Nat → Int32} {q : Nat} {sn : Nat} {ad : Nat → Nat → Nat} {CC : Nat → Nat → Int32} {BB : Nat → Nat → Int32} {FF : Nat → Nat → Int32} {KK : Nat → Nat → Int32} {NN : Nat → Nat} {YY : Nat → Int32} {zn : Nat} {bd : Nat → Nat → Nat} {DC : Nat → Nat → Int32} {DB : Nat → Nat → Int32} {DF : Nat → Nat → Int32} {DK : Nat → Nat → Int32} {DN : Nat → Nat} {DY : Nat → Int32} {C2 : Nat → Int32} {B2 : Nat → Int32} {F2 : Nat → Int32} {K2 : Nat → Int32} {n2 : Nat} {y2 : Int32} {Pr : Nat → Int32} {Rs : Nat → Int32} {Qu : Nat → Int32} {qd : Int64} {hd : Nat} {wt : Nat} {Sp : Nat → Int32} {Be : Nat → Int32} {ts : Int32} {un : Nat} {tx : Nat → Int32} {ro : Nat → Int32} {co : Nat → Int32} {mp : Nat → Int32} {my : Nat → Int32} {md : Nat → Int32} {mr : Nat → Int32} {dr : Nat → Int32} {nw : Nat → Int32} {tk : Nat → Int32} {cs : Nat → Int32} {sa : Nat → Int32} {go : Nat → Int32} {to : Nat → Int32} {dm : Nat} {at_ : Nat} {so : Bool} (hC : LC p s m meth c b L xs G A) (hL : L ≤ 2048) (hi : i + 4 ≤ L) (hP : va_P G.1 vwCl (wX G ν sc sv tn Sg nb er ec eC eB eF eK en ey eY eD eR eq nr nc C B F K n y Yr Dn Rt q sn ad CC BB FF KK NN YY zn bd DC DB DF DK DN DY C2 B2 F2 K2 n2 y2 Pr Rs Qu qd hd wt Sp Be ts un ++ wM G μ tx ro co mp my md mr dr nw tk cs sa go to tn dm at_ so sn zn sv) H) (hD : va_D A (wX G ν sc sv tn Sg nb er ec eC eB eF eK en ey eY eD eR eq nr nc C B F K n y Yr Dn Rt q sn ad CC BB FF KK NN YY zn bd DC DB DF DK DN DY C2 B2 F2 K2 n2 y2 Pr Rs Qu qd hd wt Sp Be ts un ++ wM G μ tx ro co mp my md mr dr nw tk cs sa go to tn dm at_ so sn zn sv)) (hT : TeR Sg tn tx tn) (hG : GrR nr nc Yr Dn Rt q ro co mp my md mr) (hM : MoR nr nc C B F K n y nw 0) (hSh : sn ≤ 8 ∧ sn = sn ∧ ShR nr nc CC BB FF KK NN YY sn nw 42) (hKp : zn ≤ 2 ∧ zn = zn ∧ ShR nr nc DC DB DF DK DN DY zn nw 378) (hSe : SeR sc sv sa sv) (hS : va_S A s.heap H locs) (hl : lv_has ls 4 [(0, .ref b), (1, .ref (ν 0)), (2, .ref (μ 0)), (3, .int (nI i))]) (Kt : Kp p l e s m below meth c b i G ν μ A) : WL p l e s m below meth c b H locs (F0 m 535 ls []) := by
  obtain ⟨hx, hb, hr, hml, hown, hts, hX, hbl, hlk, hE, hA, hbA⟩ := hC
  have ht : tn ≤ 200 := hT.1
  have hnar := hT.2.2.2
  have hsn : sn ≤ 8 := hSh.1
  have hzn : zn ≤ 2 := hKp.1
  have hsv : sv ≤ 12 := hSe.1
  obtain ⟨hg1, hg2, hro, hco, hmp, hq, hvc, hsc⟩ := id hG
  obtain ⟨⟨hn0, hn⟩, hn1, hy0, ⟨yv, hyv2, hyv⟩, hv, hvf, hsm⟩ := id hM
  have hcl := cells_le hg1 hg2
  have hyw : y.toInt < 1000 := by rw [hyv, nI_toInt (by omega)]; omega
  obtain ⟨va, eva⟩ : ∃ v, xs (i + 1) = v := ⟨_, rfl⟩
  obtain ⟨vb, evb⟩ : ∃ v, xs (i + 2) = v := ⟨_, rfl⟩
  by_cases hf3 : xs (i + 3) = 0
  · by_cases hab : (inG nr nc va && inG nr nc vb) = true
    · have hab1 := (Bool.and_eq_true_iff.mp hab)
      obtain ⟨av, hav, e1⟩ := inB_nat hab1.1 (by omega)
      subst e1
      obtain ⟨bv, hbv, e2⟩ := inB_nat hab1.2 (by omega)
      subst e2
      refine lv_aload_n hx hb dL_law_535 rfl (lv_at hl 1 rfl) ?_
      refine lv_aload_n hx hb dL_law_536 rfl (lv_at hl 0 rfl) ?_
      refine lv_iload_n hx hb dL_law_537 rfl (lv_at hl 3 rfl) ?_
      refine lv_iconst (v := 1) hx hb dL_law_538 (by decide) ?_
      refine lv_iadd hx hb dL_law_539 ?_
      rw [show nI i + (1 : Int32) = nI (i + 1) from nI_add i 1]
      refine va_sld hx hb hX hbl hbA hS (vp_in_nI (by omega) (by omega)) dL_law_540 ?_
      rw [nI_clamp (show i + 1 < 2 ^ 31 by omega), eva]
      refine lv_aload_n hx hb dL_law_541 rfl (lv_at hl 0 rfl) ?_
      refine lv_iload_n hx hb dL_law_542 rfl (lv_at hl 3 rfl) ?_
      refine lv_iconst (v := 2) hx hb dL_law_543 (by decide) ?_
      refine lv_iadd hx hb dL_law_544 ?_
      rw [show nI i + (2 : Int32) = nI (i + 2) from nI_add i 2]
      refine va_sld hx hb hX hbl hbA hS (vp_in_nI (by omega) (by omega)) dL_law_545 ?_
      rw [nI_clamp (show i + 2 < 2 ^ 31 by omega), evb]
      refine lv_aload_n hx hb dL_law_546 rfl (lv_at hl 0 rfl) ?_
      refine lv_iload_n hx hb dL_law_547 rfl (lv_at hl 3 rfl) ?_
      refine lv_iconst (v := 3) hx hb dL_law_548 (by decide) ?_
      refine lv_iadd hx hb dL_law_549 ?_
      rw [show nI i + (3 : Int32) = nI (i + 3) from nI_add i 3]
      refine va_sld hx hb hX hbl hbA hS (vp_in_nI (by omega) (by omega)) dL_law_550 ?_
      rw [nI_clamp (show i + 3 < 2 ^ 31 by omega)]
      refine lv_if_eq (tgt := 558) hx hb dL_law_551 (by decide) (fun _ => ?_) (fun z => absurd hf3 z)
      refine lv_iconst (v := 0) hx hb dL_law_558 (by decide) ?_
      refine ct_callL (As := [.int (nI av), .int (nI bv), .int 0]) (rest := []) (wX_len _ _ _ _ _ _ _ _ _ _ _ _ _ _ _ _ _ _ _ _ _ _ _ _ _ _ _ _ _ _ _ _ _ _ _ _ _ _ _ _ _ _ _ _ _ _ _ _ _ _ _ _ _ _ _ _ _ _ _ _ _ _ _ ) (wM_len _ _ _ _ _ _ _ _ _ _ _ _ _ _ _ _ _ _ _ _ _ _ _ ) hx hb hml hown hts hE hA hl.1 hP hD hS (f_X9_pull_p l G ν _ _ _ _ _ _ _ _ _ _ _ _ _ _ _ _ _ _ _ _ _ _ _ _ _ _ _ _ _ _ _ _ _ _ _ _ _ _ _ _ _ _ _ _ _ _ _ _ _ _ _ _ _ _ _ _ _ _ _ _ _ _ _ hg1 hg2 hn hq hab) (cw_L_77 hts) ⟨(Nat.le_of_ble_eq_true rfl), (Nat.le_of_ble_eq_true rfl)⟩ ⟨(Nat.le_of_ble_eq_true rfl), (Nat.le_of_ble_eq_true rfl)⟩ rfl rfl rfl rfl rfl (Nat.le_of_ble_eq_true rfl) dL_law_559 (fun v9 w9 H locs hpo hP hD hS => ?_)
      obtain ⟨rfl, Pr9x, Rs9x, Qu9x, qd9x, hd9x, wt9x, rfl⟩ := hpo
      have hP : va_P G.1 vwCl (wX G ν sc sv tn Sg nb er ec eC eB eF eK en ey eY eD eR eq nr nc C B F K n y Yr Dn Rt q sn ad CC BB FF KK NN YY zn bd DC DB DF DK DN DY C2 B2 F2 K2 n2 y2 Pr9x Rs9x Qu9x qd9x hd9x wt9x Sp Be ts un ++ wM G μ tx ro co mp my md mr dr nw tk cs sa go to tn dm at_ so sn zn sv) H := swap_P hP
      have hD : va_D A (wX G ν sc sv tn Sg nb er ec eC eB eF eK en ey eY eD eR eq nr nc C B F K n y Yr Dn Rt q sn ad CC BB FF KK NN YY zn bd DC DB DF DK DN DY C2 B2 F2 K2 n2 y2 Pr9x Rs9x Qu9x qd9x hd9x wt9x Sp Be ts un ++ wM G μ tx ro co mp my md mr dr nw tk cs sa go to tn dm at_ so sn zn sv) := swap_D (n := 15) (k := 93) rfl rfl nd15 nd93 hD
      show WL p l e s m below meth c b H locs (F0 m 562 ls [.int (plR (frC C B F y n) (frC C B F y n ^^^ (-1)) nr nc (nI av) (nI bv))])
      refine lv_aload_n hx hb dL_law_562 rfl (lv_at hl 2 rfl) ?_
      refine lv_aload_n hx hb dL_law_563 rfl (lv_at hl 0 rfl) ?_
      refine lv_iload_n hx hb dL_law_564 rfl (lv_at hl 3 rfl) ?_
      refine lv_iconst (v := 1) hx hb dL_law_565 (by decide) ?_
      refine lv_iadd hx hb dL_law_566 ?_
      rw [show nI i + (1 : Int32) = nI (i + 1) from nI_add i 1]
      refine va_sld hx hb hX hbl hbA hS (vp_in_nI (by omega) (by omega)) dL_law_567 ?_
      rw [nI_clamp (show i + 1 < 2 ^ 31 by omega), eva]
      refine lv_aload_n hx hb dL_law_568 rfl (lv_at hl 0 rfl) ?_
      refine lv_iload_n hx hb dL_law_569 rfl (lv_at hl 3 rfl) ?_
      refine lv_iconst (v := 2) hx hb dL_law_570 (by decide) ?_
      refine lv_iadd hx hb dL_law_571 ?_
      rw [show nI i + (2 : Int32) = nI (i + 2) from nI_add i 2]
      refine va_sld hx hb hX hbl hbA hS (vp_in_nI (by omega) (by omega)) dL_law_572 ?_
      rw [nI_clamp (show i + 2 < 2 ^ 31 by omega), evb]
      refine lv_aload_n hx hb dL_law_573 rfl (lv_at hl 0 rfl) ?_
      refine lv_iload_n hx hb dL_law_574 rfl (lv_at hl 3 rfl) ?_
      refine lv_iconst (v := 3) hx hb dL_law_575 (by decide) ?_
      refine lv_iadd hx hb dL_law_576 ?_
      rw [show nI i + (3 : Int32) = nI (i + 3) from nI_add i 3]
      refine va_sld hx hb hX hbl hbA hS (vp_in_nI (by omega) (by omega)) dL_law_577 ?_
      rw [nI_clamp (show i + 3 < 2 ^ 31 by omega)]
      refine lv_if_eq (tgt := 585) hx hb dL_law_578 (by decide) (fun _ => ?_) (fun z => absurd hf3 z)
      refine lv_iconst (v := 0) hx hb dL_law_585 (by decide) ?_
      refine ct_callR (As := [.int (nI av), .int (nI bv), .int 0]) (rest := [.int (plR (frC C B F y n) (frC C B F y n ^^^ (-1)) nr nc (nI av) (nI bv))]) (wX_len _ _ _ _ _ _ _ _ _ _ _ _ _ _ _ _ _ _ _ _ _ _ _ _ _ _ _ _ _ _ _ _ _ _ _ _ _ _ _ _ _ _ _ _ _ _ _ _ _ _ _ _ _ _ _ _ _ _ _ _ _ _ _ ) (wM_len _ _ _ _ _ _ _ _ _ _ _ _ _ _ _ _ _ _ _ _ _ _ _ ) hx hb hml hown hts hE hA hl.1 hP hD hS (c_X10_pull_p l G _ _ _ _ _ _ _ _ _ _ _ _ _ _ _ _ _ _ _ _ _ _ _ _ _ _ _ _ _ _ _ _ _ _ _ _ _ _ _ _ _ hro hco hg1 hg2 hn1 hn hav hbv) (cw_L_81 hts) ⟨(Nat.le_of_ble_eq_true rfl), (Nat.le_of_ble_eq_true rfl)⟩ ⟨(Nat.le_of_ble_eq_true rfl), (Nat.le_of_ble_eq_true rfl)⟩ rfl rfl rfl rfl rfl (Nat.le_of_ble_eq_true rfl) dL_law_586 (fun v9 w9 H locs hpo hP hD hS => ?_)
      obtain ⟨rfl, tk9m, cs9m, rfl⟩ := hpo
      have hP : va_P G.1 vwCl (wX G ν sc sv tn Sg nb er ec eC eB eF eK en ey eY eD eR eq nr nc C B F K n y Yr Dn Rt q sn ad CC BB FF KK NN YY zn bd DC DB DF DK DN DY C2 B2 F2 K2 n2 y2 Pr9x Rs9x Qu9x qd9x hd9x wt9x Sp Be ts un ++ wM G μ tx ro co mp my md mr dr nw tk9m cs9m sa go to tn dm at_ so sn zn sv) H := hP
      have hD : va_D A (wX G ν sc sv tn Sg nb er ec eC eB eF eK en ey eY eD eR eq nr nc C B F K n y Yr Dn Rt q sn ad CC BB FF KK NN YY zn bd DC DB DF DK DN DY C2 B2 F2 K2 n2 y2 Pr9x Rs9x Qu9x qd9x hd9x wt9x Sp Be ts un ++ wM G μ tx ro co mp my md mr dr nw tk9m cs9m sa go to tn dm at_ so sn zn sv) := hD
      show WL p l e s m below meth c b H locs (F0 m 589 ls [.int (fnX nr nc (bi1 (stC (cel nw 0) (sta nw 0) (fal nw 0) (nw 0) n)) bv av + bi1 (stC (cel nw 0) (sta nw 0) (fal nw 0) (nw 0) n) av), .int (plR (frC C B F y n) (frC C B F y n ^^^ (-1)) nr nc (nI av) (nI bv))])
      refine lv_icmp_eq (tgt := 900) hx hb dL_law_589 (by decide) (fun _ => ?_) (fun z => absurd (by rw [hy0, stC_same hv hsm hyw]; exact pull_same hg1 hg2 _ hav hbv) z)
      exact Kt sc sv tn Sg nb er ec eC eB eF eK en ey eY eD eR eq nr nc C B F K n y Yr Dn Rt q sn ad CC BB FF KK NN YY zn bd DC DB DF DK DN DY C2 B2 F2 K2 n2 y2 Pr9x Rs9x Qu9x qd9x hd9x wt9x Sp Be ts un tx ro co mp my md mr dr nw tk9m cs9m sa go to tn dm at_ so sn zn sv _ _ _ hP hD (hT) (hG) (hM) (hSh) (hKp) (hSe) hS hl
    · refine lv_aload_n hx hb dL_law_535 rfl (lv_at hl 1 rfl) ?_
      refine lv_aload_n hx hb dL_law_536 rfl (lv_at hl 0 rfl) ?_
      refine lv_iload_n hx hb dL_law_537 rfl (lv_at hl 3 rfl) ?_
      refine lv_iconst (v := 1) hx hb dL_law_538 (by decide) ?_
      refine lv_iadd hx hb dL_law_539 ?_
      rw [show nI i + (1 : Int32) = nI (i + 1) from nI_add i 1]
      refine va_sld hx hb hX hbl hbA hS (vp_in_nI (by omega) (by omega)) dL_law_540 ?_
      rw [nI_clamp (show i + 1 < 2 ^ 31 by omega), eva]
      refine lv_aload_n hx hb dL_law_541 rfl (lv_at hl 0 rfl) ?_
      refine lv_iload_n hx hb dL_law_542 rfl (lv_at hl 3 rfl) ?_
      refine lv_iconst (v := 2) hx hb dL_law_543 (by decide) ?_
      refine lv_iadd hx hb dL_law_544 ?_
      rw [show nI i + (2 : Int32) = nI (i + 2) from nI_add i 2]
      refine va_sld hx hb hX hbl hbA hS (vp_in_nI (by omega) (by omega)) dL_law_545 ?_
      rw [nI_clamp (show i + 2 < 2 ^ 31 by omega), evb]
      refine lv_aload_n hx hb dL_law_546 rfl (lv_at hl 0 rfl) ?_
      refine lv_iload_n hx hb dL_law_547 rfl (lv_at hl 3 rfl) ?_
      refine lv_iconst (v := 3) hx hb dL_law_548 (by decide) ?_
      refine lv_iadd hx hb dL_law_549 ?_
      rw [show nI i + (3 : Int32) = nI (i + 3) from nI_add i 3]
      refine va_sld hx hb hX hbl hbA hS (vp_in_nI (by omega) (by omega)) dL_law_550 ?_
      rw [nI_clamp (show i + 3 < 2 ^ 31 by omega)]
      refine lv_if_eq (tgt := 558) hx hb dL_law_551 (by decide) (fun _ => ?_) (fun z => absurd hf3 z)
      refine lv_iconst (v := 0) hx hb dL_law_558 (by decide) ?_
      refine rd_callL (As := [.int va, .int vb, .int 0]) (rest := []) (wX_len _ _ _ _ _ _ _ _ _ _ _ _ _ _ _ _ _ _ _ _ _ _ _ _ _ _ _ _ _ _ _ _ _ _ _ _ _ _ _ _ _ _ _ _ _ _ _ _ _ _ _ _ _ _ _ _ _ _ _ _ _ _ _ ) hx hb hml hown hts hE hl.1 hP hS (f_X9_pull_n l G ν _ _ _ _ _ _ _ _ _ _ _ _ _ _ _ _ _ _ _ _ _ _ _ _ _ _ _ _ _ _ _ _ _ _ _ _ _ _ _ _ _ _ _ _ _ _ _ _ _ _ _ _ _ _ _ _ _ _ _ _ _ _ _ false hg1 hg2 hn hq (by simpa using hab)) (cw_L_77 hts) ⟨(Nat.le_of_ble_eq_true rfl), (Nat.le_of_ble_eq_true rfl)⟩ ⟨(Nat.le_of_ble_eq_true rfl), (Nat.le_of_ble_eq_true rfl)⟩ rfl rfl rfl rfl rfl (Nat.le_of_ble_eq_true rfl) dL_law_559 ?_
      refine lv_aload_n hx hb dL_law_562 rfl (lv_at hl 2 rfl) ?_
      refine lv_aload_n hx hb dL_law_563 rfl (lv_at hl 0 rfl) ?_
      refine lv_iload_n hx hb dL_law_564 rfl (lv_at hl 3 rfl) ?_
      refine lv_iconst (v := 1) hx hb dL_law_565 (by decide) ?_
      refine lv_iadd hx hb dL_law_566 ?_
      rw [show nI i + (1 : Int32) = nI (i + 1) from nI_add i 1]
      refine va_sld hx hb hX hbl hbA hS (vp_in_nI (by omega) (by omega)) dL_law_567 ?_
      rw [nI_clamp (show i + 1 < 2 ^ 31 by omega), eva]
      refine lv_aload_n hx hb dL_law_568 rfl (lv_at hl 0 rfl) ?_
      refine lv_iload_n hx hb dL_law_569 rfl (lv_at hl 3 rfl) ?_
      refine lv_iconst (v := 2) hx hb dL_law_570 (by decide) ?_
      refine lv_iadd hx hb dL_law_571 ?_
      rw [show nI i + (2 : Int32) = nI (i + 2) from nI_add i 2]
      refine va_sld hx hb hX hbl hbA hS (vp_in_nI (by omega) (by omega)) dL_law_572 ?_
      rw [nI_clamp (show i + 2 < 2 ^ 31 by omega), evb]
      refine lv_aload_n hx hb dL_law_573 rfl (lv_at hl 0 rfl) ?_
      refine lv_iload_n hx hb dL_law_574 rfl (lv_at hl 3 rfl) ?_
      refine lv_iconst (v := 3) hx hb dL_law_575 (by decide) ?_
      refine lv_iadd hx hb dL_law_576 ?_
      rw [show nI i + (3 : Int32) = nI (i + 3) from nI_add i 3]
      refine va_sld hx hb hX hbl hbA hS (vp_in_nI (by omega) (by omega)) dL_law_577 ?_
      rw [nI_clamp (show i + 3 < 2 ^ 31 by omega)]
      refine lv_if_eq (tgt := 585) hx hb dL_law_578 (by decide) (fun _ => ?_) (fun z => absurd hf3 z)
      refine lv_iconst (v := 0) hx hb dL_law_585 (by decide) ?_
      refine rd_callR (As := [.int va, .int vb, .int 0]) (rest := [.int (-1)]) (wX_len _ _ _ _ _ _ _ _ _ _ _ _ _ _ _ _ _ _ _ _ _ _ _ _ _ _ _ _ _ _ _ _ _ _ _ _ _ _ _ _ _ _ _ _ _ _ _ _ _ _ _ _ _ _ _ _ _ _ _ _ _ _ _ ) (wM_len _ _ _ _ _ _ _ _ _ _ _ _ _ _ _ _ _ _ _ _ _ _ _ ) hx hb hml hown hts hE hl.1 hP hS (c_X10_pull_n l G _ _ _ _ _ _ _ _ _ _ _ _ _ _ _ _ _ _ _ _ _ _ _ _ _ _ _ _ _ _ _ _ _ _ _ _ _ _ _ _ _ false hro hco hg1 hg2 hn1 hn (fun z => hab (by rw [z.1, z.2]; rfl))) (cw_L_81 hts) ⟨(Nat.le_of_ble_eq_true rfl), (Nat.le_of_ble_eq_true rfl)⟩ ⟨(Nat.le_of_ble_eq_true rfl), (Nat.le_of_ble_eq_true rfl)⟩ rfl rfl rfl rfl rfl (Nat.le_of_ble_eq_true rfl) dL_law_586 ?_
      show WL p l e s m below meth c b H locs (F0 m 589 ls [.int (-1), .int (-1)])
      refine lv_icmp_eq (tgt := 900) hx hb dL_law_589 (by decide) (fun _ => ?_) (fun z => absurd (rfl) z)
      exact Kt sc sv tn Sg nb er ec eC eB eF eK en ey eY eD eR eq nr nc C B F K n y Yr Dn Rt q sn ad CC BB FF KK NN YY zn bd DC DB DF DK DN DY C2 B2 F2 K2 n2 y2 Pr Rs Qu qd hd wt Sp Be ts un tx ro co mp my md mr dr nw tk cs sa go to tn dm at_ so sn zn sv _ _ _ hP hD (hT) (hG) (hM) (hSh) (hKp) (hSe) hS hl
  · by_cases hab : (inG nr nc va && inG nr nc vb) = true
    · have hab1 := (Bool.and_eq_true_iff.mp hab)
      obtain ⟨av, hav, e1⟩ := inB_nat hab1.1 (by omega)
      subst e1
      obtain ⟨bv, hbv, e2⟩ := inB_nat hab1.2 (by omega)
      subst e2
      have hfs := friend_same hg1 hg2 hv hsm hy0 hyv hyv2 hn hav hbv
      refine lv_aload_n hx hb dL_law_535 rfl (lv_at hl 1 rfl) ?_
      refine lv_aload_n hx hb dL_law_536 rfl (lv_at hl 0 rfl) ?_
      refine lv_iload_n hx hb dL_law_537 rfl (lv_at hl 3 rfl) ?_
      refine lv_iconst (v := 1) hx hb dL_law_538 (by decide) ?_
      refine lv_iadd hx hb dL_law_539 ?_
      rw [show nI i + (1 : Int32) = nI (i + 1) from nI_add i 1]
      refine va_sld hx hb hX hbl hbA hS (vp_in_nI (by omega) (by omega)) dL_law_540 ?_
      rw [nI_clamp (show i + 1 < 2 ^ 31 by omega), eva]
      refine lv_aload_n hx hb dL_law_541 rfl (lv_at hl 0 rfl) ?_
      refine lv_iload_n hx hb dL_law_542 rfl (lv_at hl 3 rfl) ?_
      refine lv_iconst (v := 2) hx hb dL_law_543 (by decide) ?_
      refine lv_iadd hx hb dL_law_544 ?_
      rw [show nI i + (2 : Int32) = nI (i + 2) from nI_add i 2]
      refine va_sld hx hb hX hbl hbA hS (vp_in_nI (by omega) (by omega)) dL_law_545 ?_
      rw [nI_clamp (show i + 2 < 2 ^ 31 by omega), evb]
      refine lv_aload_n hx hb dL_law_546 rfl (lv_at hl 0 rfl) ?_
      refine lv_iload_n hx hb dL_law_547 rfl (lv_at hl 3 rfl) ?_
      refine lv_iconst (v := 3) hx hb dL_law_548 (by decide) ?_
      refine lv_iadd hx hb dL_law_549 ?_
      rw [show nI i + (3 : Int32) = nI (i + 3) from nI_add i 3]
      refine va_sld hx hb hX hbl hbA hS (vp_in_nI (by omega) (by omega)) dL_law_550 ?_
      rw [nI_clamp (show i + 3 < 2 ^ 31 by omega)]
      refine lv_if_eq (tgt := 558) hx hb dL_law_551 (by decide) (fun z => absurd z hf3) (fun _ => ?_)
      refine lv_iconst (v := 1) hx hb dL_law_554 (by decide) ?_
      refine lv_goto (tgt := 559) hx hb dL_law_555 (by decide) ?_
      refine ct_callL (As := [.int (nI av), .int (nI bv), .int 1]) (rest := []) (wX_len _ _ _ _ _ _ _ _ _ _ _ _ _ _ _ _ _ _ _ _ _ _ _ _ _ _ _ _ _ _ _ _ _ _ _ _ _ _ _ _ _ _ _ _ _ _ _ _ _ _ _ _ _ _ _ _ _ _ _ _ _ _ _ ) (wM_len _ _ _ _ _ _ _ _ _ _ _ _ _ _ _ _ _ _ _ _ _ _ _ ) hx hb hml hown hts hE hA hl.1 hP hD hS (f_X9_pull_f l G ν _ _ _ _ _ _ _ _ _ _ _ _ _ _ _ _ _ _ _ _ _ _ _ _ _ _ _ _ _ _ _ _ _ _ _ _ _ _ _ _ _ _ _ _ _ _ _ _ _ _ _ _ _ _ _ _ _ _ _ _ _ _ _ hg1 hg2 hn hq hab) (cw_L_77 hts) ⟨(Nat.le_of_ble_eq_true rfl), (Nat.le_of_ble_eq_true rfl)⟩ ⟨(Nat.le_of_ble_eq_true rfl), (Nat.le_of_ble_eq_true rfl)⟩ rfl rfl rfl rfl rfl (Nat.le_of_ble_eq_true rfl) dL_law_559 (fun v9 w9 H locs hpo hP hD hS => ?_)
      obtain ⟨rfl, Pr9x, Rs9x, Qu9x, qd9x, hd9x, wt9x, rfl⟩ := hpo
      have hP : va_P G.1 vwCl (wX G ν sc sv tn Sg nb er ec eC eB eF eK en ey eY eD eR eq nr nc C B F K n y Yr Dn Rt q sn ad CC BB FF KK NN YY zn bd DC DB DF DK DN DY C2 B2 F2 K2 n2 y2 Pr9x Rs9x Qu9x qd9x hd9x wt9x Sp Be ts un ++ wM G μ tx ro co mp my md mr dr nw tk cs sa go to tn dm at_ so sn zn sv) H := swap_P hP
      have hD : va_D A (wX G ν sc sv tn Sg nb er ec eC eB eF eK en ey eY eD eR eq nr nc C B F K n y Yr Dn Rt q sn ad CC BB FF KK NN YY zn bd DC DB DF DK DN DY C2 B2 F2 K2 n2 y2 Pr9x Rs9x Qu9x qd9x hd9x wt9x Sp Be ts un ++ wM G μ tx ro co mp my md mr dr nw tk cs sa go to tn dm at_ so sn zn sv) := swap_D (n := 15) (k := 93) rfl rfl nd15 nd93 hD
      show WL p l e s m below meth c b H locs (F0 m 562 ls [.int (plR (drC nr nc C F K y n) (buC nr nc C B F K y n) nr nc (nI av) (nI bv))])
      refine lv_aload_n hx hb dL_law_562 rfl (lv_at hl 2 rfl) ?_
      refine lv_aload_n hx hb dL_law_563 rfl (lv_at hl 0 rfl) ?_
      refine lv_iload_n hx hb dL_law_564 rfl (lv_at hl 3 rfl) ?_
      refine lv_iconst (v := 1) hx hb dL_law_565 (by decide) ?_
      refine lv_iadd hx hb dL_law_566 ?_
      rw [show nI i + (1 : Int32) = nI (i + 1) from nI_add i 1]
      refine va_sld hx hb hX hbl hbA hS (vp_in_nI (by omega) (by omega)) dL_law_567 ?_
      rw [nI_clamp (show i + 1 < 2 ^ 31 by omega), eva]
      refine lv_aload_n hx hb dL_law_568 rfl (lv_at hl 0 rfl) ?_
      refine lv_iload_n hx hb dL_law_569 rfl (lv_at hl 3 rfl) ?_
      refine lv_iconst (v := 2) hx hb dL_law_570 (by decide) ?_
      refine lv_iadd hx hb dL_law_571 ?_
      rw [show nI i + (2 : Int32) = nI (i + 2) from nI_add i 2]
      refine va_sld hx hb hX hbl hbA hS (vp_in_nI (by omega) (by omega)) dL_law_572 ?_
      rw [nI_clamp (show i + 2 < 2 ^ 31 by omega), evb]
      refine lv_aload_n hx hb dL_law_573 rfl (lv_at hl 0 rfl) ?_
      refine lv_iload_n hx hb dL_law_574 rfl (lv_at hl 3 rfl) ?_
      refine lv_iconst (v := 3) hx hb dL_law_575 (by decide) ?_
      refine lv_iadd hx hb dL_law_576 ?_
      rw [show nI i + (3 : Int32) = nI (i + 3) from nI_add i 3]
      refine va_sld hx hb hX hbl hbA hS (vp_in_nI (by omega) (by omega)) dL_law_577 ?_
      rw [nI_clamp (show i + 3 < 2 ^ 31 by omega)]
      refine lv_if_eq (tgt := 585) hx hb dL_law_578 (by decide) (fun z => absurd z hf3) (fun _ => ?_)
      refine lv_iconst (v := 1) hx hb dL_law_581 (by decide) ?_
      refine lv_goto (tgt := 586) hx hb dL_law_582 (by decide) ?_
      refine ct_callR (As := [.int (nI av), .int (nI bv), .int 1]) (rest := [.int (plR (drC nr nc C F K y n) (buC nr nc C B F K y n) nr nc (nI av) (nI bv))]) (wX_len _ _ _ _ _ _ _ _ _ _ _ _ _ _ _ _ _ _ _ _ _ _ _ _ _ _ _ _ _ _ _ _ _ _ _ _ _ _ _ _ _ _ _ _ _ _ _ _ _ _ _ _ _ _ _ _ _ _ _ _ _ _ _ ) (wM_len _ _ _ _ _ _ _ _ _ _ _ _ _ _ _ _ _ _ _ _ _ _ _ ) hx hb hml hown hts hE hA hl.1 hP hD hS (c_X10_pull_f l G _ _ _ _ _ _ _ _ _ _ _ _ _ _ _ _ _ _ _ _ _ _ _ _ _ _ _ _ _ _ _ _ _ _ _ _ _ _ _ _ _ hro hco hg1 hg2 hn1 hn hav hbv) (cw_L_81 hts) ⟨(Nat.le_of_ble_eq_true rfl), (Nat.le_of_ble_eq_true rfl)⟩ ⟨(Nat.le_of_ble_eq_true rfl), (Nat.le_of_ble_eq_true rfl)⟩ rfl rfl rfl rfl rfl (Nat.le_of_ble_eq_true rfl) dL_law_586 (fun v9 w9 H locs hpo hP hD hS => ?_)
      obtain ⟨rfl, tk9m, cs9m, rfl⟩ := hpo
      have hP : va_P G.1 vwCl (wX G ν sc sv tn Sg nb er ec eC eB eF eK en ey eY eD eR eq nr nc C B F K n y Yr Dn Rt q sn ad CC BB FF KK NN YY zn bd DC DB DF DK DN DY C2 B2 F2 K2 n2 y2 Pr9x Rs9x Qu9x qd9x hd9x wt9x Sp Be ts un ++ wM G μ tx ro co mp my md mr dr ((frA nr nc nw n av bv (2 ^ n)).1) tk9m cs9m sa go to tn dm at_ so sn zn sv) H := hP
      have hD : va_D A (wX G ν sc sv tn Sg nb er ec eC eB eF eK en ey eY eD eR eq nr nc C B F K n y Yr Dn Rt q sn ad CC BB FF KK NN YY zn bd DC DB DF DK DN DY C2 B2 F2 K2 n2 y2 Pr9x Rs9x Qu9x qd9x hd9x wt9x Sp Be ts un ++ wM G μ tx ro co mp my md mr dr ((frA nr nc nw n av bv (2 ^ n)).1) tk9m cs9m sa go to tn dm at_ so sn zn sv) := hD
      show WL p l e s m below meth c b H locs (F0 m 589 ls [.int ((frA nr nc nw n av bv (2 ^ n)).2), .int (plR (drC nr nc C F K y n) (buC nr nc C B F K y n) nr nc (nI av) (nI bv))])
      refine lv_icmp_eq (tgt := 900) hx hb dL_law_589 (by decide) (fun _ => ?_) (fun z => absurd (hfs.1.symm) z)
      exact Kt sc sv tn Sg nb er ec eC eB eF eK en ey eY eD eR eq nr nc C B F K n y Yr Dn Rt q sn ad CC BB FF KK NN YY zn bd DC DB DF DK DN DY C2 B2 F2 K2 n2 y2 Pr9x Rs9x Qu9x qd9x hd9x wt9x Sp Be ts un tx ro co mp my md mr dr ((frA nr nc nw n av bv (2 ^ n)).1) tk9m cs9m sa go to tn dm at_ so sn zn sv _ _ _ hP hD (hT) (hG) (MoR_nw hM (fun k h1 => hfs.2 _ (by omega))) (⟨hsn, rfl, ShR_nw hSh.2.2 (fun k h1 h2 => hfs.2 _ (by omega))⟩) (⟨hzn, rfl, ShR_nw hKp.2.2 (fun k h1 h2 => hfs.2 _ (by omega))⟩) (hSe) hS hl
    · refine lv_aload_n hx hb dL_law_535 rfl (lv_at hl 1 rfl) ?_
      refine lv_aload_n hx hb dL_law_536 rfl (lv_at hl 0 rfl) ?_
      refine lv_iload_n hx hb dL_law_537 rfl (lv_at hl 3 rfl) ?_
      refine lv_iconst (v := 1) hx hb dL_law_538 (by decide) ?_
      refine lv_iadd hx hb dL_law_539 ?_
      rw [show nI i + (1 : Int32) = nI (i + 1) from nI_add i 1]
      refine va_sld hx hb hX hbl hbA hS (vp_in_nI (by omega) (by omega)) dL_law_540 ?_
      rw [nI_clamp (show i + 1 < 2 ^ 31 by omega), eva]
      refine lv_aload_n hx hb dL_law_541 rfl (lv_at hl 0 rfl) ?_
      refine lv_iload_n hx hb dL_law_542 rfl (lv_at hl 3 rfl) ?_
      refine lv_iconst (v := 2) hx hb dL_law_543 (by decide) ?_
      refine lv_iadd hx hb dL_law_544 ?_
      rw [show nI i + (2 : Int32) = nI (i + 2) from nI_add i 2]
      refine va_sld hx hb hX hbl hbA hS (vp_in_nI (by omega) (by omega)) dL_law_545 ?_
      rw [nI_clamp (show i + 2 < 2 ^ 31 by omega), evb]
      refine lv_aload_n hx hb dL_law_546 rfl (lv_at hl 0 rfl) ?_
      refine lv_iload_n hx hb dL_law_547 rfl (lv_at hl 3 rfl) ?_
      refine lv_iconst (v := 3) hx hb dL_law_548 (by decide) ?_
      refine lv_iadd hx hb dL_law_549 ?_
      rw [show nI i + (3 : Int32) = nI (i + 3) from nI_add i 3]
      refine va_sld hx hb hX hbl hbA hS (vp_in_nI (by omega) (by omega)) dL_law_550 ?_
      rw [nI_clamp (show i + 3 < 2 ^ 31 by omega)]
      refine lv_if_eq (tgt := 558) hx hb dL_law_551 (by decide) (fun z => absurd z hf3) (fun _ => ?_)
      refine lv_iconst (v := 1) hx hb dL_law_554 (by decide) ?_
      refine lv_goto (tgt := 559) hx hb dL_law_555 (by decide) ?_
      refine rd_callL (As := [.int va, .int vb, .int 1]) (rest := []) (wX_len _ _ _ _ _ _ _ _ _ _ _ _ _ _ _ _ _ _ _ _ _ _ _ _ _ _ _ _ _ _ _ _ _ _ _ _ _ _ _ _ _ _ _ _ _ _ _ _ _ _ _ _ _ _ _ _ _ _ _ _ _ _ _ ) hx hb hml hown hts hE hl.1 hP hS (f_X9_pull_n l G ν _ _ _ _ _ _ _ _ _ _ _ _ _ _ _ _ _ _ _ _ _ _ _ _ _ _ _ _ _ _ _ _ _ _ _ _ _ _ _ _ _ _ _ _ _ _ _ _ _ _ _ _ _ _ _ _ _ _ _ _ _ _ _ true hg1 hg2 hn hq (by simpa using hab)) (cw_L_77 hts) ⟨(Nat.le_of_ble_eq_true rfl), (Nat.le_of_ble_eq_true rfl)⟩ ⟨(Nat.le_of_ble_eq_true rfl), (Nat.le_of_ble_eq_true rfl)⟩ rfl rfl rfl rfl rfl (Nat.le_of_ble_eq_true rfl) dL_law_559 ?_
      refine lv_aload_n hx hb dL_law_562 rfl (lv_at hl 2 rfl) ?_
      refine lv_aload_n hx hb dL_law_563 rfl (lv_at hl 0 rfl) ?_
      refine lv_iload_n hx hb dL_law_564 rfl (lv_at hl 3 rfl) ?_
      refine lv_iconst (v := 1) hx hb dL_law_565 (by decide) ?_
      refine lv_iadd hx hb dL_law_566 ?_
      rw [show nI i + (1 : Int32) = nI (i + 1) from nI_add i 1]
      refine va_sld hx hb hX hbl hbA hS (vp_in_nI (by omega) (by omega)) dL_law_567 ?_
      rw [nI_clamp (show i + 1 < 2 ^ 31 by omega), eva]
      refine lv_aload_n hx hb dL_law_568 rfl (lv_at hl 0 rfl) ?_
      refine lv_iload_n hx hb dL_law_569 rfl (lv_at hl 3 rfl) ?_
      refine lv_iconst (v := 2) hx hb dL_law_570 (by decide) ?_
      refine lv_iadd hx hb dL_law_571 ?_
      rw [show nI i + (2 : Int32) = nI (i + 2) from nI_add i 2]
      refine va_sld hx hb hX hbl hbA hS (vp_in_nI (by omega) (by omega)) dL_law_572 ?_
      rw [nI_clamp (show i + 2 < 2 ^ 31 by omega), evb]
      refine lv_aload_n hx hb dL_law_573 rfl (lv_at hl 0 rfl) ?_
      refine lv_iload_n hx hb dL_law_574 rfl (lv_at hl 3 rfl) ?_
      refine lv_iconst (v := 3) hx hb dL_law_575 (by decide) ?_
      refine lv_iadd hx hb dL_law_576 ?_
      rw [show nI i + (3 : Int32) = nI (i + 3) from nI_add i 3]
      refine va_sld hx hb hX hbl hbA hS (vp_in_nI (by omega) (by omega)) dL_law_577 ?_
      rw [nI_clamp (show i + 3 < 2 ^ 31 by omega)]
      refine lv_if_eq (tgt := 585) hx hb dL_law_578 (by decide) (fun z => absurd z hf3) (fun _ => ?_)
      refine lv_iconst (v := 1) hx hb dL_law_581 (by decide) ?_
      refine lv_goto (tgt := 586) hx hb dL_law_582 (by decide) ?_
      refine rd_callR (As := [.int va, .int vb, .int 1]) (rest := [.int (-1)]) (wX_len _ _ _ _ _ _ _ _ _ _ _ _ _ _ _ _ _ _ _ _ _ _ _ _ _ _ _ _ _ _ _ _ _ _ _ _ _ _ _ _ _ _ _ _ _ _ _ _ _ _ _ _ _ _ _ _ _ _ _ _ _ _ _ ) (wM_len _ _ _ _ _ _ _ _ _ _ _ _ _ _ _ _ _ _ _ _ _ _ _ ) hx hb hml hown hts hE hl.1 hP hS (c_X10_pull_n l G _ _ _ _ _ _ _ _ _ _ _ _ _ _ _ _ _ _ _ _ _ _ _ _ _ _ _ _ _ _ _ _ _ _ _ _ _ _ _ _ _ true hro hco hg1 hg2 hn1 hn (fun z => hab (by rw [z.1, z.2]; rfl))) (cw_L_81 hts) ⟨(Nat.le_of_ble_eq_true rfl), (Nat.le_of_ble_eq_true rfl)⟩ ⟨(Nat.le_of_ble_eq_true rfl), (Nat.le_of_ble_eq_true rfl)⟩ rfl rfl rfl rfl rfl (Nat.le_of_ble_eq_true rfl) dL_law_586 ?_
      show WL p l e s m below meth c b H locs (F0 m 589 ls [.int (-1), .int (-1)])
      refine lv_icmp_eq (tgt := 900) hx hb dL_law_589 (by decide) (fun _ => ?_) (fun z => absurd (rfl) z)
      exact Kt sc sv tn Sg nb er ec eC eB eF eK en ey eY eD eR eq nr nc C B F K n y Yr Dn Rt q sn ad CC BB FF KK NN YY zn bd DC DB DF DK DN DY C2 B2 F2 K2 n2 y2 Pr Rs Qu qd hd wt Sp Be ts un tx ro co mp my md mr dr nw tk cs sa go to tn dm at_ so sn zn sv _ _ _ hP hD (hT) (hG) (hM) (hSh) (hKp) (hSe) hS hl

set_option maxHeartbeats 4000000 in
set_option maxRecDepth 100000 in
theorem law_wander {p : Program} {l : Launch} {e : Env} {s : State} {m : MethodId} {below : List Frame} {meth : Method} {c : Code} {b L i : Nat} {xs : Nat → Int32} {G : Gv} {ν μ : Nat → Nat} {A : Nat → Prop} {H : Heap} {locs : List Loc} {ls : Array Slot} {sc : Int64} {sv : Nat} {tn : Nat} {Sg : Nat → Int32} {nb : Nat → Int32} {er : Nat} {ec : Nat} {eC : Nat → Int32} {eB : Nat → Int32} {eF : Nat → Int32} {eK : Nat → Int32} {en : Nat} {ey : Int32} {eY : Nat → Int32} {eD : Nat → Int32} {eR : Nat → Int32} {eq : Nat} {nr : Nat} {nc : Nat} {C : Nat → Int32} {B : Nat → Int32} {F : Nat → Int32} {K : Nat → Int32} {n : Nat} {y : Int32} {Yr : Nat → Int32} {Dn : Nat → Int32} {Rt : Nat → Int32} {q : Nat} {sn : Nat} {ad : Nat → Nat → Nat} {CC : Nat → Nat → Int32} {BB : Nat → Nat → Int32} {FF : Nat → Nat → Int32} {KK : Nat → Nat → Int32} {NN : Nat → Nat} {YY : Nat → Int32} {zn : Nat} {bd : Nat → Nat → Nat} {DC : Nat → Nat → Int32} {DB : Nat → Nat → Int32} {DF : Nat → Nat → Int32} {DK : Nat → Nat → Int32} {DN : Nat → Nat} {DY : Nat → Int32} {C2 : Nat → Int32} {B2 : Nat → Int32} {F2 : Nat → Int32} {K2 : Nat → Int32} {n2 : Nat} {y2 : Int32} {Pr : Nat → Int32} {Rs : Nat → Int32} {Qu : Nat → Int32} {qd : Int64} {hd : Nat} {wt : Nat} {Sp : Nat → Int32} {Be : Nat → Int32} {ts : Int32} {un : Nat} {tx : Nat → Int32} {ro : Nat → Int32} {co : Nat → Int32} {mp : Nat → Int32} {my : Nat → Int32} {md : Nat → Int32} {mr : Nat → Int32} {dr : Nat → Int32} {nw : Nat → Int32} {tk : Nat → Int32} {cs : Nat → Int32} {sa : Nat → Int32} {go : Nat → Int32} {to : Nat → Int32} {dm : Nat} {at_ : Nat} {so : Bool} (hC : LC p s m meth c b L xs G A) (hL : L ≤ 2048) (hi : i + 4 ≤ L) (hP : va_P G.1 vwCl (wX G ν sc sv tn Sg nb er ec eC eB eF eK en ey eY eD eR eq nr nc C B F K n y Yr Dn Rt q sn ad CC BB FF KK NN YY zn bd DC DB DF DK DN DY C2 B2 F2 K2 n2 y2 Pr Rs Qu qd hd wt Sp Be ts un ++ wM G μ tx ro co mp my md mr dr nw tk cs sa go to tn dm at_ so sn zn sv) H) (hD : va_D A (wX G ν sc sv tn Sg nb er ec eC eB eF eK en ey eY eD eR eq nr nc C B F K n y Yr Dn Rt q sn ad CC BB FF KK NN YY zn bd DC DB DF DK DN DY C2 B2 F2 K2 n2 y2 Pr Rs Qu qd hd wt Sp Be ts un ++ wM G μ tx ro co mp my md mr dr nw tk cs sa go to tn dm at_ so sn zn sv)) (hT : TeR Sg tn tx tn) (hG : GrR nr nc Yr Dn Rt q ro co mp my md mr) (hM : MoR nr nc C B F K n y nw 0) (hSh : sn ≤ 8 ∧ sn = sn ∧ ShR nr nc CC BB FF KK NN YY sn nw 42) (hKp : zn ≤ 2 ∧ zn = zn ∧ ShR nr nc DC DB DF DK DN DY zn nw 378) (hSe : SeR sc sv sa sv) (hS : va_S A s.heap H locs) (hl : lv_has ls 4 [(0, .ref b), (1, .ref (ν 0)), (2, .ref (μ 0)), (3, .int (nI i))]) (Kt : Kp p l e s m below meth c b i G ν μ A) : WL p l e s m below meth c b H locs (F0 m 594 ls []) := by
  obtain ⟨hx, hb, hr, hml, hown, hts, hX, hbl, hlk, hE, hA, hbA⟩ := hC
  have ht : tn ≤ 200 := hT.1
  have hnar := hT.2.2.2
  have hsn : sn ≤ 8 := hSh.1
  have hzn : zn ≤ 2 := hKp.1
  have hsv : sv ≤ 12 := hSe.1
  obtain ⟨hg1, hg2, hro, hco, hmp, hq, hvc, hsc⟩ := id hG
  obtain ⟨⟨hn0, hn⟩, hn1, hy0, ⟨yv, hyv2, hyv⟩, hv, hvf, hsm⟩ := id hM
  have hcl := cells_le hg1 hg2
  have hyw : y.toInt < 1000 := by rw [hyv, nI_toInt (by omega)]; omega
  obtain ⟨vt, evt⟩ : ∃ v, xs (i + 1) = v := ⟨_, rfl⟩
  obtain ⟨va, eva⟩ : ∃ v, xs (i + 2) = v := ⟨_, rfl⟩
  obtain ⟨vb, evb⟩ : ∃ v, xs (i + 3) = v := ⟨_, rfl⟩
  by_cases h3 : inB vt q = true ∧ (inG nr nc va && inG nr nc vb) = true
  · obtain ⟨j, hj, e3⟩ := inB_nat h3.1 (by omega)
    subst e3
    have hab := h3.2
    have hab1 := (Bool.and_eq_true_iff.mp hab)
    obtain ⟨av, hav, e1⟩ := inB_nat hab1.1 (by omega)
    subst e1
    obtain ⟨bv, hbv, e2⟩ := inB_nat hab1.2 (by omega)
    subst e2
    by_cases h4 : hs (frC C B F y n) (nI av) = true ∧ hs (frC C B F y n) (nI bv) = true
    · have hga : gb (stC C B F y n) av = false := by have z := h4.1; rw [fr_gb (by omega)] at z; simpa using z
      have hgb : gb (stC C B F y n) bv = false := by have z := h4.2; rw [fr_gb (by omega)] at z; simpa using z
      refine lv_aload_n hx hb dL_law_594 rfl (lv_at hl 1 rfl) ?_
      refine lv_aload_n hx hb dL_law_595 rfl (lv_at hl 0 rfl) ?_
      refine lv_iload_n hx hb dL_law_596 rfl (lv_at hl 3 rfl) ?_
      refine lv_iconst (v := 1) hx hb dL_law_597 (by decide) ?_
      refine lv_iadd hx hb dL_law_598 ?_
      rw [show nI i + (1 : Int32) = nI (i + 1) from nI_add i 1]
      refine va_sld hx hb hX hbl hbA hS (vp_in_nI (by omega) (by omega)) dL_law_599 ?_
      rw [nI_clamp (show i + 1 < 2 ^ 31 by omega), evt]
      refine lv_aload_n hx hb dL_law_600 rfl (lv_at hl 0 rfl) ?_
      refine lv_iload_n hx hb dL_law_601 rfl (lv_at hl 3 rfl) ?_
      refine lv_iconst (v := 2) hx hb dL_law_602 (by decide) ?_
      refine lv_iadd hx hb dL_law_603 ?_
      rw [show nI i + (2 : Int32) = nI (i + 2) from nI_add i 2]
      refine va_sld hx hb hX hbl hbA hS (vp_in_nI (by omega) (by omega)) dL_law_604 ?_
      rw [nI_clamp (show i + 2 < 2 ^ 31 by omega), eva]
      refine lv_aload_n hx hb dL_law_605 rfl (lv_at hl 0 rfl) ?_
      refine lv_iload_n hx hb dL_law_606 rfl (lv_at hl 3 rfl) ?_
      refine lv_iconst (v := 3) hx hb dL_law_607 (by decide) ?_
      refine lv_iadd hx hb dL_law_608 ?_
      rw [show nI i + (3 : Int32) = nI (i + 3) from nI_add i 3]
      refine va_sld hx hb hX hbl hbA hS (vp_in_nI (by omega) (by omega)) dL_law_609 ?_
      rw [nI_clamp (show i + 3 < 2 ^ 31 by omega), evb]
      refine ct_callL (As := [.int (nI j), .int (nI av), .int (nI bv)]) (rest := []) (wX_len _ _ _ _ _ _ _ _ _ _ _ _ _ _ _ _ _ _ _ _ _ _ _ _ _ _ _ _ _ _ _ _ _ _ _ _ _ _ _ _ _ _ _ _ _ _ _ _ _ _ _ _ _ _ _ _ _ _ _ _ _ _ _ ) (wM_len _ _ _ _ _ _ _ _ _ _ _ _ _ _ _ _ _ _ _ _ _ _ _ ) hx hb hml hown hts hE hA hl.1 hP hD hS (f_X9_wander_y l G ν _ _ _ _ _ _ _ _ _ _ _ _ _ _ _ _ _ _ _ _ _ _ _ _ _ _ _ _ _ _ _ _ _ _ _ _ _ _ _ _ _ _ _ _ _ _ _ _ _ _ _ _ _ _ _ _ _ _ _ _ _ _ _ _ hg1 hg2 hn hq h3.1 h3.2 h4.1 h4.2) (cw_L_82 hts) ⟨(Nat.le_of_ble_eq_true rfl), (Nat.le_of_ble_eq_true rfl)⟩ ⟨(Nat.le_of_ble_eq_true rfl), (Nat.le_of_ble_eq_true rfl)⟩ rfl rfl rfl rfl rfl (Nat.le_of_ble_eq_true rfl) dL_law_610 (fun v9 w9 H locs hpo hP hD hS => ?_)
      obtain ⟨rfl, Pr9x, Rs9x, Qu9x, qd9x, hd9x, wt9x, rfl⟩ := hpo
      have hP : va_P G.1 vwCl (wX G ν sc sv tn Sg nb er ec eC eB eF eK en ey eY eD eR eq nr nc C B F K n y Yr Dn Rt q sn ad CC BB FF KK NN YY zn bd DC DB DF DK DN DY C2 B2 F2 K2 n2 y2 Pr9x Rs9x Qu9x qd9x hd9x wt9x Sp Be ts un ++ wM G μ tx ro co mp my md mr dr nw tk cs sa go to tn dm at_ so sn zn sv) H := swap_P hP
      have hD : va_D A (wX G ν sc sv tn Sg nb er ec eC eB eF eK en ey eY eD eR eq nr nc C B F K n y Yr Dn Rt q sn ad CC BB FF KK NN YY zn bd DC DB DF DK DN DY C2 B2 F2 K2 n2 y2 Pr9x Rs9x Qu9x qd9x hd9x wt9x Sp Be ts un ++ wM G μ tx ro co mp my md mr dr nw tk cs sa go to tn dm at_ so sn zn sv) := swap_D (n := 15) (k := 93) rfl rfl nd15 nd93 hD
      show WL p l e s m below meth c b H locs (F0 m 613 ls [.int (wdL nr nc (swC nr nc C F K n Yr Dn Rt q (nI j)) (frC C B F y n ^^^ (-1)) (nI bv) 201 0 0 (nI av))])
      refine lv_aload_n hx hb dL_law_613 rfl (lv_at hl 2 rfl) ?_
      refine lv_aload_n hx hb dL_law_614 rfl (lv_at hl 0 rfl) ?_
      refine lv_iload_n hx hb dL_law_615 rfl (lv_at hl 3 rfl) ?_
      refine lv_iconst (v := 1) hx hb dL_law_616 (by decide) ?_
      refine lv_iadd hx hb dL_law_617 ?_
      rw [show nI i + (1 : Int32) = nI (i + 1) from nI_add i 1]
      refine va_sld hx hb hX hbl hbA hS (vp_in_nI (by omega) (by omega)) dL_law_618 ?_
      rw [nI_clamp (show i + 1 < 2 ^ 31 by omega), evt]
      refine lv_aload_n hx hb dL_law_619 rfl (lv_at hl 0 rfl) ?_
      refine lv_iload_n hx hb dL_law_620 rfl (lv_at hl 3 rfl) ?_
      refine lv_iconst (v := 2) hx hb dL_law_621 (by decide) ?_
      refine lv_iadd hx hb dL_law_622 ?_
      rw [show nI i + (2 : Int32) = nI (i + 2) from nI_add i 2]
      refine va_sld hx hb hX hbl hbA hS (vp_in_nI (by omega) (by omega)) dL_law_623 ?_
      rw [nI_clamp (show i + 2 < 2 ^ 31 by omega), eva]
      refine lv_aload_n hx hb dL_law_624 rfl (lv_at hl 0 rfl) ?_
      refine lv_iload_n hx hb dL_law_625 rfl (lv_at hl 3 rfl) ?_
      refine lv_iconst (v := 3) hx hb dL_law_626 (by decide) ?_
      refine lv_iadd hx hb dL_law_627 ?_
      rw [show nI i + (3 : Int32) = nI (i + 3) from nI_add i 3]
      refine va_sld hx hb hX hbl hbA hS (vp_in_nI (by omega) (by omega)) dL_law_628 ?_
      rw [nI_clamp (show i + 3 < 2 ^ 31 by omega), evb]
      refine ct_callR (As := [.int (nI j), .int (nI av), .int (nI bv)]) (rest := [.int (wdL nr nc (swC nr nc C F K n Yr Dn Rt q (nI j)) (frC C B F y n ^^^ (-1)) (nI bv) 201 0 0 (nI av))]) (wX_len _ _ _ _ _ _ _ _ _ _ _ _ _ _ _ _ _ _ _ _ _ _ _ _ _ _ _ _ _ _ _ _ _ _ _ _ _ _ _ _ _ _ _ _ _ _ _ _ _ _ _ _ _ _ _ _ _ _ _ _ _ _ _ ) (wM_len _ _ _ _ _ _ _ _ _ _ _ _ _ _ _ _ _ _ _ _ _ _ _ ) hx hb hml hown hts hE hA hl.1 hP hD hS (c_X10_wander_y l G _ _ _ _ _ _ _ _ _ _ _ _ _ _ _ _ _ _ _ _ _ _ _ _ _ _ _ _ _ _ _ _ _ _ _ _ _ _ _ _ _ _ _ hro hco hg1 hg2 hn1 hn hmp hq hj hav hbv (by rw [hy0, stC_same hv hsm hyw, hsM_b _ (by omega)]; exact hga) (by rw [hy0, stC_same hv hsm hyw, hsM_b _ (by omega)]; exact hgb)) (cw_L_85 hts) ⟨(Nat.le_of_ble_eq_true rfl), (Nat.le_of_ble_eq_true rfl)⟩ ⟨(Nat.le_of_ble_eq_true rfl), (Nat.le_of_ble_eq_true rfl)⟩ rfl rfl rfl rfl rfl (Nat.le_of_ble_eq_true rfl) dL_law_629 (fun v9 w9 H locs hpo hP hD hS => ?_)
      obtain ⟨rfl, tk9m, cs9m, rfl⟩ := hpo
      have hP : va_P G.1 vwCl (wX G ν sc sv tn Sg nb er ec eC eB eF eK en ey eY eD eR eq nr nc C B F K n y Yr Dn Rt q sn ad CC BB FF KK NN YY zn bd DC DB DF DK DN DY C2 B2 F2 K2 n2 y2 Pr9x Rs9x Qu9x qd9x hd9x wt9x Sp Be ts un ++ wM G μ tx ro co mp my md mr dr nw tk9m cs9m sa go to tn dm at_ so sn zn sv) H := hP
      have hD : va_D A (wX G ν sc sv tn Sg nb er ec eC eB eF eK en ey eY eD eR eq nr nc C B F K n y Yr Dn Rt q sn ad CC BB FF KK NN YY zn bd DC DB DF DK DN DY C2 B2 F2 K2 n2 y2 Pr9x Rs9x Qu9x qd9x hd9x wt9x Sp Be ts un ++ wM G μ tx ro co mp my md mr dr nw tk9m cs9m sa go to tn dm at_ so sn zn sv) := hD
      show WL p l e s m below meth c b H locs (F0 m 632 ls [.int (wdM nr nc (stC (cel nw 0) (sta nw 0) (fal nw 0) (nw 0) n) bv 201 0 (cst (swM nr nc nw my md mr n j) 1 2) av), .int (wdL nr nc (swC nr nc C F K n Yr Dn Rt q (nI j)) (frC C B F y n ^^^ (-1)) (nI bv) 201 0 0 (nI av))])
      refine lv_icmp_eq (tgt := 900) hx hb dL_law_632 (by decide) (fun _ => ?_) (fun z => absurd (by rw [hy0, stC_same hv hsm hyw, sw_same hg1 hg2 hv hsm hvc hsc hq hj]; exact wander_same hg1 hg2 hav hbv hgb (fun _ _ => rfl)) z)
      exact Kt sc sv tn Sg nb er ec eC eB eF eK en ey eY eD eR eq nr nc C B F K n y Yr Dn Rt q sn ad CC BB FF KK NN YY zn bd DC DB DF DK DN DY C2 B2 F2 K2 n2 y2 Pr9x Rs9x Qu9x qd9x hd9x wt9x Sp Be ts un tx ro co mp my md mr dr nw tk9m cs9m sa go to tn dm at_ so sn zn sv _ _ _ hP hD (hT) (hG) (hM) (hSh) (hKp) (hSe) hS hl
    · refine lv_aload_n hx hb dL_law_594 rfl (lv_at hl 1 rfl) ?_
      refine lv_aload_n hx hb dL_law_595 rfl (lv_at hl 0 rfl) ?_
      refine lv_iload_n hx hb dL_law_596 rfl (lv_at hl 3 rfl) ?_
      refine lv_iconst (v := 1) hx hb dL_law_597 (by decide) ?_
      refine lv_iadd hx hb dL_law_598 ?_
      rw [show nI i + (1 : Int32) = nI (i + 1) from nI_add i 1]
      refine va_sld hx hb hX hbl hbA hS (vp_in_nI (by omega) (by omega)) dL_law_599 ?_
      rw [nI_clamp (show i + 1 < 2 ^ 31 by omega), evt]
      refine lv_aload_n hx hb dL_law_600 rfl (lv_at hl 0 rfl) ?_
      refine lv_iload_n hx hb dL_law_601 rfl (lv_at hl 3 rfl) ?_
      refine lv_iconst (v := 2) hx hb dL_law_602 (by decide) ?_
      refine lv_iadd hx hb dL_law_603 ?_
      rw [show nI i + (2 : Int32) = nI (i + 2) from nI_add i 2]
      refine va_sld hx hb hX hbl hbA hS (vp_in_nI (by omega) (by omega)) dL_law_604 ?_
      rw [nI_clamp (show i + 2 < 2 ^ 31 by omega), eva]
      refine lv_aload_n hx hb dL_law_605 rfl (lv_at hl 0 rfl) ?_
      refine lv_iload_n hx hb dL_law_606 rfl (lv_at hl 3 rfl) ?_
      refine lv_iconst (v := 3) hx hb dL_law_607 (by decide) ?_
      refine lv_iadd hx hb dL_law_608 ?_
      rw [show nI i + (3 : Int32) = nI (i + 3) from nI_add i 3]
      refine va_sld hx hb hX hbl hbA hS (vp_in_nI (by omega) (by omega)) dL_law_609 ?_
      rw [nI_clamp (show i + 3 < 2 ^ 31 by omega), evb]
      refine rd_callL (As := [.int (nI j), .int (nI av), .int (nI bv)]) (rest := []) (wX_len _ _ _ _ _ _ _ _ _ _ _ _ _ _ _ _ _ _ _ _ _ _ _ _ _ _ _ _ _ _ _ _ _ _ _ _ _ _ _ _ _ _ _ _ _ _ _ _ _ _ _ _ _ _ _ _ _ _ _ _ _ _ _ ) hx hb hml hown hts hE hl.1 hP hS (f_X9_wander_n l G ν _ _ _ _ _ _ _ _ _ _ _ _ _ _ _ _ _ _ _ _ _ _ _ _ _ _ _ _ _ _ _ _ _ _ _ _ _ _ _ _ _ _ _ _ _ _ _ _ _ _ _ _ _ _ _ _ _ _ _ _ _ _ _ _ hg1 hg2 hn hq (fun z => h4 ⟨z.2.2.1, z.2.2.2⟩)) (cw_L_82 hts) ⟨(Nat.le_of_ble_eq_true rfl), (Nat.le_of_ble_eq_true rfl)⟩ ⟨(Nat.le_of_ble_eq_true rfl), (Nat.le_of_ble_eq_true rfl)⟩ rfl rfl rfl rfl rfl (Nat.le_of_ble_eq_true rfl) dL_law_610 ?_
      refine lv_aload_n hx hb dL_law_613 rfl (lv_at hl 2 rfl) ?_
      refine lv_aload_n hx hb dL_law_614 rfl (lv_at hl 0 rfl) ?_
      refine lv_iload_n hx hb dL_law_615 rfl (lv_at hl 3 rfl) ?_
      refine lv_iconst (v := 1) hx hb dL_law_616 (by decide) ?_
      refine lv_iadd hx hb dL_law_617 ?_
      rw [show nI i + (1 : Int32) = nI (i + 1) from nI_add i 1]
      refine va_sld hx hb hX hbl hbA hS (vp_in_nI (by omega) (by omega)) dL_law_618 ?_
      rw [nI_clamp (show i + 1 < 2 ^ 31 by omega), evt]
      refine lv_aload_n hx hb dL_law_619 rfl (lv_at hl 0 rfl) ?_
      refine lv_iload_n hx hb dL_law_620 rfl (lv_at hl 3 rfl) ?_
      refine lv_iconst (v := 2) hx hb dL_law_621 (by decide) ?_
      refine lv_iadd hx hb dL_law_622 ?_
      rw [show nI i + (2 : Int32) = nI (i + 2) from nI_add i 2]
      refine va_sld hx hb hX hbl hbA hS (vp_in_nI (by omega) (by omega)) dL_law_623 ?_
      rw [nI_clamp (show i + 2 < 2 ^ 31 by omega), eva]
      refine lv_aload_n hx hb dL_law_624 rfl (lv_at hl 0 rfl) ?_
      refine lv_iload_n hx hb dL_law_625 rfl (lv_at hl 3 rfl) ?_
      refine lv_iconst (v := 3) hx hb dL_law_626 (by decide) ?_
      refine lv_iadd hx hb dL_law_627 ?_
      rw [show nI i + (3 : Int32) = nI (i + 3) from nI_add i 3]
      refine va_sld hx hb hX hbl hbA hS (vp_in_nI (by omega) (by omega)) dL_law_628 ?_
      rw [nI_clamp (show i + 3 < 2 ^ 31 by omega), evb]
      refine rd_callR (As := [.int (nI j), .int (nI av), .int (nI bv)]) (rest := [.int (if inB (nI j) q && (inG nr nc (nI av) && inG nr nc (nI bv)) then -4 else -1)]) (wX_len _ _ _ _ _ _ _ _ _ _ _ _ _ _ _ _ _ _ _ _ _ _ _ _ _ _ _ _ _ _ _ _ _ _ _ _ _ _ _ _ _ _ _ _ _ _ _ _ _ _ _ _ _ _ _ _ _ _ _ _ _ _ _ ) (wM_len _ _ _ _ _ _ _ _ _ _ _ _ _ _ _ _ _ _ _ _ _ _ _ ) hx hb hml hown hts hE hl.1 hP hS (c_X10_wander_o l G _ _ _ _ _ _ _ _ _ _ _ _ _ _ _ _ _ _ _ _ _ _ _ _ _ _ _ _ _ _ _ _ _ _ _ _ _ _ _ _ _ _ _ hro hco hg1 hg2 hn1 hn hmp hq hj hav hbv (fun z => h4 ⟨by have z1 := z.1; rw [hy0, stC_same hv hsm hyw, hsM_b _ (by omega)] at z1; rw [fr_gb (by omega), z1]; rfl, by have z1 := z.2; rw [hy0, stC_same hv hsm hyw, hsM_b _ (by omega)] at z1; rw [fr_gb (by omega), z1]; rfl⟩)) (cw_L_85 hts) ⟨(Nat.le_of_ble_eq_true rfl), (Nat.le_of_ble_eq_true rfl)⟩ ⟨(Nat.le_of_ble_eq_true rfl), (Nat.le_of_ble_eq_true rfl)⟩ rfl rfl rfl rfl rfl (Nat.le_of_ble_eq_true rfl) dL_law_629 ?_
      show WL p l e s m below meth c b H locs (F0 m 632 ls [.int (-4), .int (if inB (nI j) q && (inG nr nc (nI av) && inG nr nc (nI bv)) then -4 else -1)])
      refine lv_icmp_eq (tgt := 900) hx hb dL_law_632 (by decide) (fun _ => ?_) (fun z => absurd (by rw [h3.1, h3.2]; rfl) z)
      exact Kt sc sv tn Sg nb er ec eC eB eF eK en ey eY eD eR eq nr nc C B F K n y Yr Dn Rt q sn ad CC BB FF KK NN YY zn bd DC DB DF DK DN DY C2 B2 F2 K2 n2 y2 Pr Rs Qu qd hd wt Sp Be ts un tx ro co mp my md mr dr nw tk cs sa go to tn dm at_ so sn zn sv _ _ _ hP hD (hT) (hG) (hM) (hSh) (hKp) (hSe) hS hl
  · refine lv_aload_n hx hb dL_law_594 rfl (lv_at hl 1 rfl) ?_
    refine lv_aload_n hx hb dL_law_595 rfl (lv_at hl 0 rfl) ?_
    refine lv_iload_n hx hb dL_law_596 rfl (lv_at hl 3 rfl) ?_
    refine lv_iconst (v := 1) hx hb dL_law_597 (by decide) ?_
    refine lv_iadd hx hb dL_law_598 ?_
    rw [show nI i + (1 : Int32) = nI (i + 1) from nI_add i 1]
    refine va_sld hx hb hX hbl hbA hS (vp_in_nI (by omega) (by omega)) dL_law_599 ?_
    rw [nI_clamp (show i + 1 < 2 ^ 31 by omega), evt]
    refine lv_aload_n hx hb dL_law_600 rfl (lv_at hl 0 rfl) ?_
    refine lv_iload_n hx hb dL_law_601 rfl (lv_at hl 3 rfl) ?_
    refine lv_iconst (v := 2) hx hb dL_law_602 (by decide) ?_
    refine lv_iadd hx hb dL_law_603 ?_
    rw [show nI i + (2 : Int32) = nI (i + 2) from nI_add i 2]
    refine va_sld hx hb hX hbl hbA hS (vp_in_nI (by omega) (by omega)) dL_law_604 ?_
    rw [nI_clamp (show i + 2 < 2 ^ 31 by omega), eva]
    refine lv_aload_n hx hb dL_law_605 rfl (lv_at hl 0 rfl) ?_
    refine lv_iload_n hx hb dL_law_606 rfl (lv_at hl 3 rfl) ?_
    refine lv_iconst (v := 3) hx hb dL_law_607 (by decide) ?_
    refine lv_iadd hx hb dL_law_608 ?_
    rw [show nI i + (3 : Int32) = nI (i + 3) from nI_add i 3]
    refine va_sld hx hb hX hbl hbA hS (vp_in_nI (by omega) (by omega)) dL_law_609 ?_
    rw [nI_clamp (show i + 3 < 2 ^ 31 by omega), evb]
    refine rd_callL (As := [.int vt, .int va, .int vb]) (rest := []) (wX_len _ _ _ _ _ _ _ _ _ _ _ _ _ _ _ _ _ _ _ _ _ _ _ _ _ _ _ _ _ _ _ _ _ _ _ _ _ _ _ _ _ _ _ _ _ _ _ _ _ _ _ _ _ _ _ _ _ _ _ _ _ _ _ ) hx hb hml hown hts hE hl.1 hP hS (f_X9_wander_n l G ν _ _ _ _ _ _ _ _ _ _ _ _ _ _ _ _ _ _ _ _ _ _ _ _ _ _ _ _ _ _ _ _ _ _ _ _ _ _ _ _ _ _ _ _ _ _ _ _ _ _ _ _ _ _ _ _ _ _ _ _ _ _ _ _ hg1 hg2 hn hq (fun z => h3 ⟨z.1, z.2.1⟩)) (cw_L_82 hts) ⟨(Nat.le_of_ble_eq_true rfl), (Nat.le_of_ble_eq_true rfl)⟩ ⟨(Nat.le_of_ble_eq_true rfl), (Nat.le_of_ble_eq_true rfl)⟩ rfl rfl rfl rfl rfl (Nat.le_of_ble_eq_true rfl) dL_law_610 ?_
    refine lv_aload_n hx hb dL_law_613 rfl (lv_at hl 2 rfl) ?_
    refine lv_aload_n hx hb dL_law_614 rfl (lv_at hl 0 rfl) ?_
    refine lv_iload_n hx hb dL_law_615 rfl (lv_at hl 3 rfl) ?_
    refine lv_iconst (v := 1) hx hb dL_law_616 (by decide) ?_
    refine lv_iadd hx hb dL_law_617 ?_
    rw [show nI i + (1 : Int32) = nI (i + 1) from nI_add i 1]
    refine va_sld hx hb hX hbl hbA hS (vp_in_nI (by omega) (by omega)) dL_law_618 ?_
    rw [nI_clamp (show i + 1 < 2 ^ 31 by omega), evt]
    refine lv_aload_n hx hb dL_law_619 rfl (lv_at hl 0 rfl) ?_
    refine lv_iload_n hx hb dL_law_620 rfl (lv_at hl 3 rfl) ?_
    refine lv_iconst (v := 2) hx hb dL_law_621 (by decide) ?_
    refine lv_iadd hx hb dL_law_622 ?_
    rw [show nI i + (2 : Int32) = nI (i + 2) from nI_add i 2]
    refine va_sld hx hb hX hbl hbA hS (vp_in_nI (by omega) (by omega)) dL_law_623 ?_
    rw [nI_clamp (show i + 2 < 2 ^ 31 by omega), eva]
    refine lv_aload_n hx hb dL_law_624 rfl (lv_at hl 0 rfl) ?_
    refine lv_iload_n hx hb dL_law_625 rfl (lv_at hl 3 rfl) ?_
    refine lv_iconst (v := 3) hx hb dL_law_626 (by decide) ?_
    refine lv_iadd hx hb dL_law_627 ?_
    rw [show nI i + (3 : Int32) = nI (i + 3) from nI_add i 3]
    refine va_sld hx hb hX hbl hbA hS (vp_in_nI (by omega) (by omega)) dL_law_628 ?_
    rw [nI_clamp (show i + 3 < 2 ^ 31 by omega), evb]
    refine rd_callR (As := [.int vt, .int va, .int vb]) (rest := [.int (if inB vt q && (inG nr nc va && inG nr nc vb) then -4 else -1)]) (wX_len _ _ _ _ _ _ _ _ _ _ _ _ _ _ _ _ _ _ _ _ _ _ _ _ _ _ _ _ _ _ _ _ _ _ _ _ _ _ _ _ _ _ _ _ _ _ _ _ _ _ _ _ _ _ _ _ _ _ _ _ _ _ _ ) (wM_len _ _ _ _ _ _ _ _ _ _ _ _ _ _ _ _ _ _ _ _ _ _ _ ) hx hb hml hown hts hE hl.1 hP hS (c_X10_wander_n l G _ _ _ _ _ _ _ _ _ _ _ _ _ _ _ _ _ _ _ _ _ _ _ _ _ _ _ _ _ _ _ _ _ _ _ _ _ _ _ _ _ _ _ hro hco hg1 hg2 hn1 hn hmp hq (fun z => h3 ⟨z.1, by rw [z.2.1, z.2.2]; rfl⟩)) (cw_L_85 hts) ⟨(Nat.le_of_ble_eq_true rfl), (Nat.le_of_ble_eq_true rfl)⟩ ⟨(Nat.le_of_ble_eq_true rfl), (Nat.le_of_ble_eq_true rfl)⟩ rfl rfl rfl rfl rfl (Nat.le_of_ble_eq_true rfl) dL_law_629 ?_
    show WL p l e s m below meth c b H locs (F0 m 632 ls [.int (-1), .int (if inB vt q && (inG nr nc va && inG nr nc vb) then -4 else -1)])
    refine lv_icmp_eq (tgt := 900) hx hb dL_law_632 (by decide) (fun _ => ?_) (fun z => absurd (if_neg (fun z => h3 (Bool.and_eq_true_iff.mp z))) z)
    exact Kt sc sv tn Sg nb er ec eC eB eF eK en ey eY eD eR eq nr nc C B F K n y Yr Dn Rt q sn ad CC BB FF KK NN YY zn bd DC DB DF DK DN DY C2 B2 F2 K2 n2 y2 Pr Rs Qu qd hd wt Sp Be ts un tx ro co mp my md mr dr nw tk cs sa go to tn dm at_ so sn zn sv _ _ _ hP hD (hT) (hG) (hM) (hSh) (hKp) (hSe) hS hl

set_option maxHeartbeats 4000000 in
set_option maxRecDepth 100000 in
theorem law_wrong {p : Program} {l : Launch} {e : Env} {s : State} {m : MethodId} {below : List Frame} {meth : Method} {c : Code} {b L i : Nat} {xs : Nat → Int32} {G : Gv} {ν μ : Nat → Nat} {A : Nat → Prop} {H : Heap} {locs : List Loc} {ls : Array Slot} {sc : Int64} {sv : Nat} {tn : Nat} {Sg : Nat → Int32} {nb : Nat → Int32} {er : Nat} {ec : Nat} {eC : Nat → Int32} {eB : Nat → Int32} {eF : Nat → Int32} {eK : Nat → Int32} {en : Nat} {ey : Int32} {eY : Nat → Int32} {eD : Nat → Int32} {eR : Nat → Int32} {eq : Nat} {nr : Nat} {nc : Nat} {C : Nat → Int32} {B : Nat → Int32} {F : Nat → Int32} {K : Nat → Int32} {n : Nat} {y : Int32} {Yr : Nat → Int32} {Dn : Nat → Int32} {Rt : Nat → Int32} {q : Nat} {sn : Nat} {ad : Nat → Nat → Nat} {CC : Nat → Nat → Int32} {BB : Nat → Nat → Int32} {FF : Nat → Nat → Int32} {KK : Nat → Nat → Int32} {NN : Nat → Nat} {YY : Nat → Int32} {zn : Nat} {bd : Nat → Nat → Nat} {DC : Nat → Nat → Int32} {DB : Nat → Nat → Int32} {DF : Nat → Nat → Int32} {DK : Nat → Nat → Int32} {DN : Nat → Nat} {DY : Nat → Int32} {C2 : Nat → Int32} {B2 : Nat → Int32} {F2 : Nat → Int32} {K2 : Nat → Int32} {n2 : Nat} {y2 : Int32} {Pr : Nat → Int32} {Rs : Nat → Int32} {Qu : Nat → Int32} {qd : Int64} {hd : Nat} {wt : Nat} {Sp : Nat → Int32} {Be : Nat → Int32} {ts : Int32} {un : Nat} {tx : Nat → Int32} {ro : Nat → Int32} {co : Nat → Int32} {mp : Nat → Int32} {my : Nat → Int32} {md : Nat → Int32} {mr : Nat → Int32} {dr : Nat → Int32} {nw : Nat → Int32} {tk : Nat → Int32} {cs : Nat → Int32} {sa : Nat → Int32} {go : Nat → Int32} {to : Nat → Int32} {dm : Nat} {at_ : Nat} {so : Bool} (hC : LC p s m meth c b L xs G A) (hL : L ≤ 2048) (hi : i + 4 ≤ L) (hP : va_P G.1 vwCl (wX G ν sc sv tn Sg nb er ec eC eB eF eK en ey eY eD eR eq nr nc C B F K n y Yr Dn Rt q sn ad CC BB FF KK NN YY zn bd DC DB DF DK DN DY C2 B2 F2 K2 n2 y2 Pr Rs Qu qd hd wt Sp Be ts un ++ wM G μ tx ro co mp my md mr dr nw tk cs sa go to tn dm at_ so sn zn sv) H) (hD : va_D A (wX G ν sc sv tn Sg nb er ec eC eB eF eK en ey eY eD eR eq nr nc C B F K n y Yr Dn Rt q sn ad CC BB FF KK NN YY zn bd DC DB DF DK DN DY C2 B2 F2 K2 n2 y2 Pr Rs Qu qd hd wt Sp Be ts un ++ wM G μ tx ro co mp my md mr dr nw tk cs sa go to tn dm at_ so sn zn sv)) (hT : TeR Sg tn tx tn) (hG : GrR nr nc Yr Dn Rt q ro co mp my md mr) (hM : MoR nr nc C B F K n y nw 0) (hSh : sn ≤ 8 ∧ sn = sn ∧ ShR nr nc CC BB FF KK NN YY sn nw 42) (hKp : zn ≤ 2 ∧ zn = zn ∧ ShR nr nc DC DB DF DK DN DY zn nw 378) (hSe : SeR sc sv sa sv) (hS : va_S A s.heap H locs) (hl : lv_has ls 4 [(0, .ref b), (1, .ref (ν 0)), (2, .ref (μ 0)), (3, .int (nI i))]) (Kt : Kp p l e s m below meth c b i G ν μ A) : WL p l e s m below meth c b H locs (F0 m 637 ls []) := by
  obtain ⟨hx, hb, hr, hml, hown, hts, hX, hbl, hlk, hE, hA, hbA⟩ := hC
  have ht : tn ≤ 200 := hT.1
  have hnar := hT.2.2.2
  have hsn : sn ≤ 8 := hSh.1
  have hzn : zn ≤ 2 := hKp.1
  have hsv : sv ≤ 12 := hSe.1
  obtain ⟨hg1, hg2, hro, hco, hmp, hq, hvc, hsc⟩ := id hG
  obtain ⟨⟨hn0, hn⟩, hn1, hy0, ⟨yv, hyv2, hyv⟩, hv, hvf, hsm⟩ := id hM
  have hcl := cells_le hg1 hg2
  have hyw : y.toInt < 1000 := by rw [hyv, nI_toInt (by omega)]; omega
  obtain ⟨vt, evt⟩ : ∃ v, xs (i + 1) = v := ⟨_, rfl⟩
  obtain ⟨w, ew⟩ : ∃ v, xs (i + 2) = v := ⟨_, rfl⟩
  by_cases h3 : inB vt q = true ∧ inn w 0 1 = true
  · obtain ⟨j, hj, e3⟩ := inB_nat h3.1 (by omega)
    subst e3
    refine lv_aload_n hx hb dL_law_637 rfl (lv_at hl 1 rfl) ?_
    refine lv_aload_n hx hb dL_law_638 rfl (lv_at hl 0 rfl) ?_
    refine lv_iload_n hx hb dL_law_639 rfl (lv_at hl 3 rfl) ?_
    refine lv_iconst (v := 1) hx hb dL_law_640 (by decide) ?_
    refine lv_iadd hx hb dL_law_641 ?_
    rw [show nI i + (1 : Int32) = nI (i + 1) from nI_add i 1]
    refine va_sld hx hb hX hbl hbA hS (vp_in_nI (by omega) (by omega)) dL_law_642 ?_
    rw [nI_clamp (show i + 1 < 2 ^ 31 by omega), evt]
    refine lv_aload_n hx hb dL_law_643 rfl (lv_at hl 0 rfl) ?_
    refine lv_iload_n hx hb dL_law_644 rfl (lv_at hl 3 rfl) ?_
    refine lv_iconst (v := 2) hx hb dL_law_645 (by decide) ?_
    refine lv_iadd hx hb dL_law_646 ?_
    rw [show nI i + (2 : Int32) = nI (i + 2) from nI_add i 2]
    refine va_sld hx hb hX hbl hbA hS (vp_in_nI (by omega) (by omega)) dL_law_647 ?_
    rw [nI_clamp (show i + 2 < 2 ^ 31 by omega), ew]
    refine rd_callL (As := [.int (nI j), .int w]) (rest := []) (wX_len _ _ _ _ _ _ _ _ _ _ _ _ _ _ _ _ _ _ _ _ _ _ _ _ _ _ _ _ _ _ _ _ _ _ _ _ _ _ _ _ _ _ _ _ _ _ _ _ _ _ _ _ _ _ _ _ _ _ _ _ _ _ _ ) hx hb hml hown hts hE hl.1 hP hS (f_X9_wrong l G ν _ _ _ _ _ _ _ _ _ _ _ _ _ _ _ _ _ _ _ _ _ _ _ _ _ _ _ _ _ _ _ _ _ _ _ _ _ _ _ _ _ _ _ _ _ _ _ _ _ _ _ _ _ _ _ _ _ _ _ _ _ _ _ hg1 hg2 hn hq) (cw_L_86 hts) ⟨(Nat.le_of_ble_eq_true rfl), (Nat.le_of_ble_eq_true rfl)⟩ ⟨(Nat.le_of_ble_eq_true rfl), (Nat.le_of_ble_eq_true rfl)⟩ rfl rfl rfl rfl rfl (Nat.le_of_ble_eq_true rfl) dL_law_648 ?_
    refine lv_aload_n hx hb dL_law_651 rfl (lv_at hl 2 rfl) ?_
    refine lv_aload_n hx hb dL_law_652 rfl (lv_at hl 0 rfl) ?_
    refine lv_iload_n hx hb dL_law_653 rfl (lv_at hl 3 rfl) ?_
    refine lv_iconst (v := 1) hx hb dL_law_654 (by decide) ?_
    refine lv_iadd hx hb dL_law_655 ?_
    rw [show nI i + (1 : Int32) = nI (i + 1) from nI_add i 1]
    refine va_sld hx hb hX hbl hbA hS (vp_in_nI (by omega) (by omega)) dL_law_656 ?_
    rw [nI_clamp (show i + 1 < 2 ^ 31 by omega), evt]
    refine lv_aload_n hx hb dL_law_657 rfl (lv_at hl 0 rfl) ?_
    refine lv_iload_n hx hb dL_law_658 rfl (lv_at hl 3 rfl) ?_
    refine lv_iconst (v := 2) hx hb dL_law_659 (by decide) ?_
    refine lv_iadd hx hb dL_law_660 ?_
    rw [show nI i + (2 : Int32) = nI (i + 2) from nI_add i 2]
    refine va_sld hx hb hX hbl hbA hS (vp_in_nI (by omega) (by omega)) dL_law_661 ?_
    rw [nI_clamp (show i + 2 < 2 ^ 31 by omega), ew]
    refine rd_callR (As := [.int (nI j), .int w]) (rest := [.int (wgR nr nc C F K n Yr Dn Rt q (nI j) w)]) (wX_len _ _ _ _ _ _ _ _ _ _ _ _ _ _ _ _ _ _ _ _ _ _ _ _ _ _ _ _ _ _ _ _ _ _ _ _ _ _ _ _ _ _ _ _ _ _ _ _ _ _ _ _ _ _ _ _ _ _ _ _ _ _ _ ) (wM_len _ _ _ _ _ _ _ _ _ _ _ _ _ _ _ _ _ _ _ _ _ _ _ ) hx hb hml hown hts hE hl.1 hP hS (c_X10_wrong_y l G _ _ _ _ _ _ _ _ _ _ _ _ _ _ _ _ _ _ _ _ _ _ _ _ _ _ _ _ _ _ _ _ _ _ _ _ _ _ _ _ _ _ hro hco hg1 hg2 hn1 hn hmp hq hj h3.2) (cw_L_89 hts) ⟨(Nat.le_of_ble_eq_true rfl), (Nat.le_of_ble_eq_true rfl)⟩ ⟨(Nat.le_of_ble_eq_true rfl), (Nat.le_of_ble_eq_true rfl)⟩ rfl rfl rfl rfl rfl (Nat.le_of_ble_eq_true rfl) dL_law_662 ?_
    show WL p l e s m below meth c b H locs (F0 m 665 ls [.int (if w = 0 then mnM (wgM nw (my j) (swM nr nc nw my md mr n j) n) 64 else fsx (hsM (wgM nw (my j) (swM nr nc nw my md mr n j) n)) 64 0), .int (wgR nr nc C F K n Yr Dn Rt q (nI j) w)])
    refine lv_icmp_eq (tgt := 900) hx hb dL_law_665 (by decide) (fun _ => ?_) (fun z => absurd ((wrong_same hg1 hg2 hv hsm hvc hsc hq hj (by rw [zo_inn]; exact h3.2)).symm) z)
    exact Kt sc sv tn Sg nb er ec eC eB eF eK en ey eY eD eR eq nr nc C B F K n y Yr Dn Rt q sn ad CC BB FF KK NN YY zn bd DC DB DF DK DN DY C2 B2 F2 K2 n2 y2 Pr Rs Qu qd hd wt Sp Be ts un tx ro co mp my md mr dr nw tk cs sa go to tn dm at_ so sn zn sv _ _ _ hP hD (hT) (hG) (hM) (hSh) (hKp) (hSe) hS hl
  · refine lv_aload_n hx hb dL_law_637 rfl (lv_at hl 1 rfl) ?_
    refine lv_aload_n hx hb dL_law_638 rfl (lv_at hl 0 rfl) ?_
    refine lv_iload_n hx hb dL_law_639 rfl (lv_at hl 3 rfl) ?_
    refine lv_iconst (v := 1) hx hb dL_law_640 (by decide) ?_
    refine lv_iadd hx hb dL_law_641 ?_
    rw [show nI i + (1 : Int32) = nI (i + 1) from nI_add i 1]
    refine va_sld hx hb hX hbl hbA hS (vp_in_nI (by omega) (by omega)) dL_law_642 ?_
    rw [nI_clamp (show i + 1 < 2 ^ 31 by omega), evt]
    refine lv_aload_n hx hb dL_law_643 rfl (lv_at hl 0 rfl) ?_
    refine lv_iload_n hx hb dL_law_644 rfl (lv_at hl 3 rfl) ?_
    refine lv_iconst (v := 2) hx hb dL_law_645 (by decide) ?_
    refine lv_iadd hx hb dL_law_646 ?_
    rw [show nI i + (2 : Int32) = nI (i + 2) from nI_add i 2]
    refine va_sld hx hb hX hbl hbA hS (vp_in_nI (by omega) (by omega)) dL_law_647 ?_
    rw [nI_clamp (show i + 2 < 2 ^ 31 by omega), ew]
    refine rd_callL (As := [.int vt, .int w]) (rest := []) (wX_len _ _ _ _ _ _ _ _ _ _ _ _ _ _ _ _ _ _ _ _ _ _ _ _ _ _ _ _ _ _ _ _ _ _ _ _ _ _ _ _ _ _ _ _ _ _ _ _ _ _ _ _ _ _ _ _ _ _ _ _ _ _ _ ) hx hb hml hown hts hE hl.1 hP hS (f_X9_wrong l G ν _ _ _ _ _ _ _ _ _ _ _ _ _ _ _ _ _ _ _ _ _ _ _ _ _ _ _ _ _ _ _ _ _ _ _ _ _ _ _ _ _ _ _ _ _ _ _ _ _ _ _ _ _ _ _ _ _ _ _ _ _ _ _ hg1 hg2 hn hq) (cw_L_86 hts) ⟨(Nat.le_of_ble_eq_true rfl), (Nat.le_of_ble_eq_true rfl)⟩ ⟨(Nat.le_of_ble_eq_true rfl), (Nat.le_of_ble_eq_true rfl)⟩ rfl rfl rfl rfl rfl (Nat.le_of_ble_eq_true rfl) dL_law_648 ?_
    refine lv_aload_n hx hb dL_law_651 rfl (lv_at hl 2 rfl) ?_
    refine lv_aload_n hx hb dL_law_652 rfl (lv_at hl 0 rfl) ?_
    refine lv_iload_n hx hb dL_law_653 rfl (lv_at hl 3 rfl) ?_
    refine lv_iconst (v := 1) hx hb dL_law_654 (by decide) ?_
    refine lv_iadd hx hb dL_law_655 ?_
    rw [show nI i + (1 : Int32) = nI (i + 1) from nI_add i 1]
    refine va_sld hx hb hX hbl hbA hS (vp_in_nI (by omega) (by omega)) dL_law_656 ?_
    rw [nI_clamp (show i + 1 < 2 ^ 31 by omega), evt]
    refine lv_aload_n hx hb dL_law_657 rfl (lv_at hl 0 rfl) ?_
    refine lv_iload_n hx hb dL_law_658 rfl (lv_at hl 3 rfl) ?_
    refine lv_iconst (v := 2) hx hb dL_law_659 (by decide) ?_
    refine lv_iadd hx hb dL_law_660 ?_
    rw [show nI i + (2 : Int32) = nI (i + 2) from nI_add i 2]
    refine va_sld hx hb hX hbl hbA hS (vp_in_nI (by omega) (by omega)) dL_law_661 ?_
    rw [nI_clamp (show i + 2 < 2 ^ 31 by omega), ew]
    refine rd_callR (As := [.int vt, .int w]) (rest := [.int (wgR nr nc C F K n Yr Dn Rt q vt w)]) (wX_len _ _ _ _ _ _ _ _ _ _ _ _ _ _ _ _ _ _ _ _ _ _ _ _ _ _ _ _ _ _ _ _ _ _ _ _ _ _ _ _ _ _ _ _ _ _ _ _ _ _ _ _ _ _ _ _ _ _ _ _ _ _ _ ) (wM_len _ _ _ _ _ _ _ _ _ _ _ _ _ _ _ _ _ _ _ _ _ _ _ ) hx hb hml hown hts hE hl.1 hP hS (c_X10_wrong_n l G _ _ _ _ _ _ _ _ _ _ _ _ _ _ _ _ _ _ _ _ _ _ _ _ _ _ _ _ _ _ _ _ _ _ _ _ _ _ _ _ _ _ hro hco hg1 hg2 hn1 hn hmp hq h3) (cw_L_89 hts) ⟨(Nat.le_of_ble_eq_true rfl), (Nat.le_of_ble_eq_true rfl)⟩ ⟨(Nat.le_of_ble_eq_true rfl), (Nat.le_of_ble_eq_true rfl)⟩ rfl rfl rfl rfl rfl (Nat.le_of_ble_eq_true rfl) dL_law_662 ?_
    show WL p l e s m below meth c b H locs (F0 m 665 ls [.int (-1), .int (wgR nr nc C F K n Yr Dn Rt q vt w)])
    refine lv_icmp_eq (tgt := 900) hx hb dL_law_665 (by decide) (fun _ => ?_) (fun z => absurd (wrong_no h3) z)
    exact Kt sc sv tn Sg nb er ec eC eB eF eK en ey eY eD eR eq nr nc C B F K n y Yr Dn Rt q sn ad CC BB FF KK NN YY zn bd DC DB DF DK DN DY C2 B2 F2 K2 n2 y2 Pr Rs Qu qd hd wt Sp Be ts un tx ro co mp my md mr dr nw tk cs sa go to tn dm at_ so sn zn sv _ _ _ hP hD (hT) (hG) (hM) (hSh) (hKp) (hSe) hS hl
