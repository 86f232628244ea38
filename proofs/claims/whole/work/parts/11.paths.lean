/-! the search, the tour, a country copied -/
theorem rch_eta (Pr : Nat → Int32) (x z : Int32) (σ : Pst) : ((rch Pr x z σ).1, (rch Pr x z σ).2.1, (rch Pr x z σ).2.2.1, σ.2.2.2.1, (rch Pr x z σ).2.2.2.2) = rch Pr x z σ := by
  have h := rch_hd Pr x z σ
  rw [← h]
theorem mtR_0 (Pr : Nat → Int32) (nr nc f : Nat) (σ : Pst) (h : σ.2.2.2.2 = 0) : mtR Pr nr nc f σ = σ := by
  cases f with
  | zero => rfl
  | succ f => rw [mtR, if_neg (by omega)]
theorem mtR_s (Pr : Nat → Int32) (nr nc f : Nat) (σ : Pst) (h : 0 < σ.2.2.2.2) : mtR Pr nr nc (f + 1) σ = mtR Pr nr nc f (mtS Pr nr nc σ) := by rw [mtR, if_pos h]
theorem nI_0le {a : Nat} (ha : a < 2 ^ 31) (h : nI a ≤ 0) : a = 0 := by
  have := (nI_leI (a := a) (b := 0) ha (by decide)).mp h
  omega
theorem nI_0lt {a : Nat} (h : ¬ nI a ≤ 0) : 0 < a := by
  rcases Nat.eq_zero_or_pos a with h0 | h0
  · subst h0
    exact absurd (show nI 0 ≤ 0 by decide) h
  · exact h0
theorem g8 (g k : Nat) : nI g * 8 + nI k = nI (g * 8 + k) := by rw [show (8 : Int32) = nI 8 from rfl, pk_mul, nI_add]
theorem gt_of_nI {a b : Nat} (ha : a < 2 ^ 31) (hb : b < 2 ^ 31) (h : nI a < nI b) : a < b := (nI_ltI ha hb).mp h
theorem ngt_of_nI {a b : Nat} (ha : a < 2 ^ 31) (hb : b < 2 ^ 31) (h : ¬ nI a < nI b) : b ≤ a := by
  rw [nI_ltI ha hb] at h
  omega

set_option maxHeartbeats 4000000 in
set_option maxRecDepth 100000 in
theorem c_X5_measureTo (l : Launch) (G : Gv) (p0 : Nat) (p1 : Nat) (p2 : Nat) (p3 : Nat) (Pr : Nat → Int32) (Rs : Nat → Int32) (Qu : Nat → Int32) (qd : Int64) (hd : Nat) (wt : Nat) (g0 : Nat) (nr : Nat) (nc : Nat) (goal : Int32) (hg1 : 2 ≤ nr ∧ nr ≤ 8) (hg2 : 2 ≤ nc ∧ nc ≤ 8) : Ct l yX5_measureTo cX5_measureTo 6 none (rmz 4 90) G [.ref p0, .ref g0, .int goal] [(p0, .inr (5, [.ref p1, .ref p2, .ref p3, .long qd, .int (nI hd), .int (nI wt)])), (p1, .inl (kI G, 64, .inl Pr)), (p2, .inl (kI G, 64, .inl Rs)), (p3, .inl (kI G, 64, .inl Qu)), (g0, .inr (2, [.int (nI nr), .int (nI nc)]))] (one none [(p0, .inr (5, [.ref p1, .ref p2, .ref p3, .long ((mtZ Pr nr nc goal Rs Qu).2.2.1), .int (nI (mtZ Pr nr nc goal Rs Qu).2.2.2.1), .int (nI (mtZ Pr nr nc goal Rs Qu).2.2.2.2)])), (p1, .inl (kI G, 64, .inl Pr)), (p2, .inl (kI G, 64, .inl ((mtZ Pr nr nc goal Rs Qu).1))), (p3, .inl (kI G, 64, .inl ((mtZ Pr nr nc goal Rs Qu).2.1))), (g0, .inr (2, [.int (nI nr), .int (nI nc)]))]) := by
  refine Ct.ofW (by decide) (Nat.le_of_ble_eq_true rfl) ?_
  intro p e s m below meth c ls A hx hb hml hr hown hts hlk hnm hP hD hA hE hS hl
  obtain ⟨H, eH⟩ : ∃ H : Heap, H = s.heap := ⟨_, rfl⟩
  obtain ⟨locs, eL⟩ : ∃ ll : List Loc, ll = [] := ⟨_, rfl⟩
  rw [← eH] at hP
  have hS : va_S A s.heap H locs := by rw [eH, eL]; exact hS
  show WC p l e _ s m _ below meth c G A _ s.heap [] 0 0 _
  rw [← eH, ← eL]
  clear eH eL
  have hl : lv_has ls 6 [(0, .ref p0), (1, .ref g0), (2, .int goal)] := hl
  have J_45 : ∀ (n_ : Nat) (k : Nat) (R1 : Nat → Int32) (Q1 : Nat → Int32) (d1 : Int64) (h1 : Nat) (w1 : Nat) (hk : k ≤ 4096) (hh : h1 < 64) (hw : w1 ≤ 64) (hM : mtZ Pr nr nc goal Rs Qu = mtR Pr nr nc (4096 - k) (R1, Q1, d1, h1, w1)) (hm_45 : 4096 - k < n_), ∀ (H : Heap) (locs : List Loc), va_P G.1 vwCl [(p0, .inr (5, [.ref p1, .ref p2, .ref p3, .long d1, .int (nI h1), .int (nI w1)])), (p1, .inl (kI G, 64, .inl Pr)), (p2, .inl (kI G, 64, .inl R1)), (p3, .inl (kI G, 64, .inl Q1)), (g0, .inr (2, [.int (nI nr), .int (nI nc)]))] H → va_D A [(p0, .inr (5, [.ref p1, .ref p2, .ref p3, .long d1, .int (nI h1), .int (nI w1)])), (p1, .inl (kI G, 64, .inl Pr)), (p2, .inl (kI G, 64, .inl R1)), (p3, .inl (kI G, 64, .inl Q1)), (g0, .inr (2, [.int (nI nr), .int (nI nc)]))] → va_S A s.heap H locs → ∀ ls : Array Slot, lv_has ls 6 [(0, .ref p0), (1, .ref g0), (2, .int goal), (3, .int (nI k))] → WC p l e (rmz 4 90) s m [.ref p0, .ref g0, .int goal] below meth c G A (one none [(p0, .inr (5, [.ref p1, .ref p2, .ref p3, .long ((mtZ Pr nr nc goal Rs Qu).2.2.1), .int (nI (mtZ Pr nr nc goal Rs Qu).2.2.2.1), .int (nI (mtZ Pr nr nc goal Rs Qu).2.2.2.2)])), (p1, .inl (kI G, 64, .inl Pr)), (p2, .inl (kI G, 64, .inl ((mtZ Pr nr nc goal Rs Qu).1))), (p3, .inl (kI G, 64, .inl ((mtZ Pr nr nc goal Rs Qu).2.1))), (g0, .inr (2, [.int (nI nr), .int (nI nc)]))]) H locs 0 0 (F0 m 45 ls []) := by
    intro n_
    induction n_ with
    | zero =>
      intro k R1 Q1 d1 h1 w1 hk hh hw hM hm_45
      exact absurd hm_45 (Nat.not_lt_zero _)
    | succ n_ ih_45 =>
      intro k R1 Q1 d1 h1 w1 hk hh hw hM hm_45 H locs hP hD hS ls hl
      have J_68 : ∀ (n_ : Nat) (d : Nat) (R2 : Nat → Int32) (Q2 : Nat → Int32) (d2 : Int64) (h2 : Nat) (w2 : Nat) (hkn : k < 4096) (hw1 : 0 < w1) (hh2 : h2 < 64) (hw2 : w2 ≤ 64) (hd4 : d ≤ 4) (hI : (R2, Q2, d2, h2, w2) = it (mtI Pr nr nc (Q1 h1)) (tkq (R1, Q1, d1, h1, w1)) d) (hm_68 : 4 - d < n_), ∀ (H : Heap) (locs : List Loc), va_P G.1 vwCl [(p0, .inr (5, [.ref p1, .ref p2, .ref p3, .long d2, .int (nI h2), .int (nI w2)])), (p1, .inl (kI G, 64, .inl Pr)), (p2, .inl (kI G, 64, .inl R2)), (p3, .inl (kI G, 64, .inl Q2)), (g0, .inr (2, [.int (nI nr), .int (nI nc)]))] H → va_D A [(p0, .inr (5, [.ref p1, .ref p2, .ref p3, .long d2, .int (nI h2), .int (nI w2)])), (p1, .inl (kI G, 64, .inl Pr)), (p2, .inl (kI G, 64, .inl R2)), (p3, .inl (kI G, 64, .inl Q2)), (g0, .inr (2, [.int (nI nr), .int (nI nc)]))] → va_S A s.heap H locs → ∀ ls : Array Slot, lv_has ls 6 [(0, .ref p0), (1, .ref g0), (2, .int goal), (3, .int (nI k)), (4, .int (Q1 h1)), (5, .int (nI d))] → WC p l e (rmz 4 90) s m [.ref p0, .ref g0, .int goal] below meth c G A (one none [(p0, .inr (5, [.ref p1, .ref p2, .ref p3, .long ((mtZ Pr nr nc goal Rs Qu).2.2.1), .int (nI (mtZ Pr nr nc goal Rs Qu).2.2.2.1), .int (nI (mtZ Pr nr nc goal Rs Qu).2.2.2.2)])), (p1, .inl (kI G, 64, .inl Pr)), (p2, .inl (kI G, 64, .inl ((mtZ Pr nr nc goal Rs Qu).1))), (p3, .inl (kI G, 64, .inl ((mtZ Pr nr nc goal Rs Qu).2.1))), (g0, .inr (2, [.int (nI nr), .int (nI nc)]))]) H locs 0 0 (F0 m 68 ls []) := by
        intro n_
        induction n_ with
        | zero =>
          intro d R2 Q2 d2 h2 w2 hkn hw1 hh2 hw2 hd4 hI hm_68
          exact absurd hm_68 (Nat.not_lt_zero _)
        | succ n_ ih_68 =>
          intro d R2 Q2 d2 h2 w2 hkn hw1 hh2 hw2 hd4 hI hm_68 H locs hP hD hS ls hl
          refine lv_iload hx hb dX5_measureTo_68 (lv_at hl 5 rfl) ?_
          refine lv_iconst (v := 4) hx hb dX5_measureTo_70 (by decide) ?_
          refine lv_icmp_ge (tgt := 105) hx hb dX5_measureTo_71 (by decide) (fun c71 => ?_) (fun c71 => ?_)
          · have hdn : 4 ≤ d := le_of_le (n := 4) (by omega) (by omega) c71
            refine lv_iinc (v := nI (k + 1)) (lv' := [(3, .int (nI (k + 1))), (0, .ref p0), (1, .ref g0), (2, .int goal), (4, .int (Q1 h1)), (5, .int (nI d))]) hx hb dX5_measureTo_105 hl (k := 3) rfl (nI_1 k) (by decide) rfl (fun ls hl => ?_)
            refine lv_goto (tgt := 45) hx hb dX5_measureTo_108 (by decide) ?_
            exact ih_45 (k + 1) R2 Q2 d2 h2 w2 (by first | assumption | omega | rfl) (by first | assumption | omega | rfl) (by first | assumption | omega | rfl) (by rw [hM, show 4096 - k = (4096 - (k + 1)) + 1 by omega, mtR_s _ _ _ _ _ hw1, mtS, ← show d = 4 by omega]; exact congrArg (mtR Pr nr nc (4096 - (k + 1))) hI.symm) (by omega) _ _ hP hD hS ls (lv_sub hl [1, 2, 3, 0] rfl)
          · have hdn : d < 4 := lt_of_nle (n := 4) (by omega) (by omega) c71
            refine lv_aload_n hx hb dX5_measureTo_74 rfl (lv_at hl 0 rfl) ?_
            refine lv_aload_n hx hb dX5_measureTo_75 rfl (lv_at hl 1 rfl) ?_
            refine lv_iload hx hb dX5_measureTo_76 (lv_at hl 4 rfl) ?_
            refine lv_iload hx hb dX5_measureTo_78 (lv_at hl 5 rfl) ?_
            refine rd_callV (As := [.int (Q1 h1), .int (nI d)]) (rest := [.ref p0]) hx hb hml hown hts (hE.at0 hS) hl.1 (c_X2_beside l G g0 nr nc (Q1 h1) (nI d) (by first | assumption | omega) (by first | assumption | omega)) (cw_X5_57 hts) ⟨(Nat.le_of_ble_eq_true rfl), (Nat.le_of_ble_eq_true rfl)⟩ ⟨Nat.zero_le _, Nat.zero_le _⟩ rfl (sub_P hP [4] rfl) rfl rfl rfl rfl (Nat.le_of_ble_eq_true rfl) dX5_measureTo_80 ?_
            refine lv_aload_n hx hb dX5_measureTo_83 rfl (lv_at hl 0 rfl) ?_
            refine lv_iload hx hb dX5_measureTo_84 (lv_at hl 4 rfl) ?_
            refine rd_callV (As := [.int (Q1 h1)]) (rest := [.int (bsd nr nc (Q1 h1) (nI d)), .ref p0]) hx hb hml hown hts (hE.at0 hS) hl.1 (c_X5_restFrom l G p0 p1 p2 p3 Pr R2 Q2 d2 h2 w2 (Q1 h1) ) (cw_X5_29 hts) ⟨(Nat.le_of_ble_eq_true rfl), (Nat.le_of_ble_eq_true rfl)⟩ ⟨Nat.zero_le _, Nat.zero_le _⟩ rfl (sub_P hP [0, 1, 2, 3] rfl) rfl rfl rfl rfl (Nat.le_of_ble_eq_true rfl) dX5_measureTo_86 ?_
            refine lv_aload_n hx hb dX5_measureTo_89 rfl (lv_at hl 0 rfl) ?_
            refine lv_iload hx hb dX5_measureTo_90 (lv_at hl 4 rfl) ?_
            refine rd_callV (As := [.int (Q1 h1)]) (rest := [.int (atF R2 (Q1 h1)), .int (bsd nr nc (Q1 h1) (nI d)), .ref p0]) hx hb hml hown hts (hE.at0 hS) hl.1 (c_X5_priceOf l G p0 p1 p2 p3 Pr R2 Q2 d2 h2 w2 (Q1 h1) ) (cw_X5_63 hts) ⟨(Nat.le_of_ble_eq_true rfl), (Nat.le_of_ble_eq_true rfl)⟩ ⟨Nat.zero_le _, Nat.zero_le _⟩ rfl (sub_P hP [0, 1, 2, 3] rfl) rfl rfl rfl rfl (Nat.le_of_ble_eq_true rfl) dX5_measureTo_92 ?_
            refine lv_iadd hx hb dX5_measureTo_95 ?_
            refine ct_callV (w1 := [(p0, .inr (5, [.ref p1, .ref p2, .ref p3, .long ((rch Pr (bsd nr nc (Q1 h1) (nI d)) ((atF R2 (Q1 h1)) + (atF Pr (Q1 h1))) (R2, Q2, d2, h2, w2)).2.2.1), .int (nI h2), .int (nI (rch Pr (bsd nr nc (Q1 h1) (nI d)) ((atF R2 (Q1 h1)) + (atF Pr (Q1 h1))) (R2, Q2, d2, h2, w2)).2.2.2.2)])), (p1, .inl (kI G, 64, .inl Pr)), (p2, .inl (kI G, 64, .inl ((rch Pr (bsd nr nc (Q1 h1) (nI d)) ((atF R2 (Q1 h1)) + (atF Pr (Q1 h1))) (R2, Q2, d2, h2, w2)).1))), (p3, .inl (kI G, 64, .inl ((rch Pr (bsd nr nc (Q1 h1) (nI d)) ((atF R2 (Q1 h1)) + (atF Pr (Q1 h1))) (R2, Q2, d2, h2, w2)).2.1)))]) (wr := [(g0, .inr (2, [.int (nI nr), .int (nI nc)]))]) (wn := [(p0, .inr (5, [.ref p1, .ref p2, .ref p3, .long ((rch Pr (bsd nr nc (Q1 h1) (nI d)) ((atF R2 (Q1 h1)) + (atF Pr (Q1 h1))) (R2, Q2, d2, h2, w2)).2.2.1), .int (nI h2), .int (nI (rch Pr (bsd nr nc (Q1 h1) (nI d)) ((atF R2 (Q1 h1)) + (atF Pr (Q1 h1))) (R2, Q2, d2, h2, w2)).2.2.2.2)])), (p1, .inl (kI G, 64, .inl Pr)), (p2, .inl (kI G, 64, .inl ((rch Pr (bsd nr nc (Q1 h1) (nI d)) ((atF R2 (Q1 h1)) + (atF Pr (Q1 h1))) (R2, Q2, d2, h2, w2)).1))), (p3, .inl (kI G, 64, .inl ((rch Pr (bsd nr nc (Q1 h1) (nI d)) ((atF R2 (Q1 h1)) + (atF Pr (Q1 h1))) (R2, Q2, d2, h2, w2)).2.1))), (g0, .inr (2, [.int (nI nr), .int (nI nc)]))]) (As := [.int (bsd nr nc (Q1 h1) (nI d)), .int ((atF R2 (Q1 h1)) + (atF Pr (Q1 h1)))]) (rest := []) hx hb hml hown hts hE hA hl.1 hP hD hS (c_X5_reach l G p0 p1 p2 p3 Pr R2 Q2 d2 h2 w2 (bsd nr nc (Q1 h1) (nI d)) ((atF R2 (Q1 h1)) + (atF Pr (Q1 h1))) (by first | assumption | omega) (by first | assumption | omega)) (cw_X5_49 hts) ⟨(Nat.le_of_ble_eq_true rfl), (Nat.le_of_ble_eq_true rfl)⟩ ⟨(Nat.le_of_ble_eq_true rfl), (Nat.le_of_ble_eq_true rfl)⟩ rfl [0, 1, 2, 3] [4] [1, 2, 3, 4, 0] rfl rfl ⟨by decide, by decide, by decide, by decide⟩ rfl rfl rfl rfl rfl (Nat.le_of_ble_eq_true rfl) dX5_measureTo_96 (fun H locs hP hD hS => ?_)
            show WC p l e _ s m _ below meth c G A _ H locs 0 0 (F0 m 99 ls [])
            refine lv_iinc (v := nI (d + 1)) (lv' := [(5, .int (nI (d + 1))), (0, .ref p0), (1, .ref g0), (2, .int goal), (3, .int (nI k)), (4, .int (Q1 h1))]) hx hb dX5_measureTo_99 hl (k := 5) rfl (nI_1 d) (by decide) rfl (fun ls hl => ?_)
            refine lv_goto (tgt := 68) hx hb dX5_measureTo_102 (by decide) ?_
            exact ih_68 (d + 1) ((rch Pr (bsd nr nc (Q1 h1) (nI d)) ((atF R2 (Q1 h1)) + (atF Pr (Q1 h1))) (R2, Q2, d2, h2, w2)).1) ((rch Pr (bsd nr nc (Q1 h1) (nI d)) ((atF R2 (Q1 h1)) + (atF Pr (Q1 h1))) (R2, Q2, d2, h2, w2)).2.1) ((rch Pr (bsd nr nc (Q1 h1) (nI d)) ((atF R2 (Q1 h1)) + (atF Pr (Q1 h1))) (R2, Q2, d2, h2, w2)).2.2.1) h2 ((rch Pr (bsd nr nc (Q1 h1) (nI d)) ((atF R2 (Q1 h1)) + (atF Pr (Q1 h1))) (R2, Q2, d2, h2, w2)).2.2.2.2) (by first | assumption | omega | rfl) (by first | assumption | omega | rfl) (by first | assumption | omega | rfl) (rch_wt _ _ _ _ hw2) (by first | assumption | omega | rfl) (by rw [it_s, ← hI]; exact rch_eta Pr _ _ (R2, Q2, d2, h2, w2)) (by omega) _ _ hP hD hS ls (lv_sub hl [1, 2, 3, 4, 5, 0] rfl)
      refine lv_iload_n hx hb dX5_measureTo_45 rfl (lv_at hl 3 rfl) ?_
      refine lv_sipush (v := 4096) hx hb dX5_measureTo_46 (by decide) ?_
      refine lv_icmp_ge (tgt := 111) hx hb dX5_measureTo_49 (by decide) (fun c49 => ?_) (fun c49 => ?_)
      · have hkn : 4096 ≤ k := le_of_le (n := 4096) (by omega) (by omega) c49
        have hZ : mtZ Pr nr nc goal Rs Qu = (R1, Q1, d1, h1, w1) := by rw [hM, show 4096 - k = 0 by omega]; rfl
        exact ct_vret hx hb hr hlk dX5_measureTo_111 hP hD hS (by simp only [one, hZ]; exact ⟨trivial, trivial⟩)
      · have hkn : k < 4096 := lt_of_nle (n := 4096) (by omega) (by omega) c49
        refine lv_aload_n hx hb dX5_measureTo_52 rfl (lv_at hl 0 rfl) ?_
        refine va_get hx hb hts inlX5 hown hE.1 hP 0 rfl rfl 5 (by decide) (fl_X5_46 hts) (fun _ h9 => h9) rfl dX5_measureTo_53 ?_
        refine lv_if_le (tgt := 111) hx hb dX5_measureTo_56 (by decide) (fun c56 => ?_) (fun c56 => ?_)
        · have hZ : mtZ Pr nr nc goal Rs Qu = (R1, Q1, d1, h1, w1) := hM.trans (mtR_0 _ _ _ _ _ (nI_0le (a := w1) (by omega) c56))
          exact ct_vret hx hb hr hlk dX5_measureTo_111 hP hD hS (by simp only [one, hZ]; exact ⟨trivial, trivial⟩)
        · have hw1 := nI_0lt c56
          refine lv_aload_n hx hb dX5_measureTo_59 rfl (lv_at hl 0 rfl) ?_
          refine ct_callV (w1 := [(p0, .inr (5, [.ref p1, .ref p2, .ref p3, .long (d1 &&& (bt (Q1 h1) ^^^ (-1))), .int (nI ((h1 + 1) % 64)), .int (nI (w1 - 1))])), (p1, .inl (kI G, 64, .inl Pr)), (p2, .inl (kI G, 64, .inl R1)), (p3, .inl (kI G, 64, .inl Q1))]) (wr := [(g0, .inr (2, [.int (nI nr), .int (nI nc)]))]) (wn := [(p0, .inr (5, [.ref p1, .ref p2, .ref p3, .long (d1 &&& (bt (Q1 h1) ^^^ (-1))), .int (nI ((h1 + 1) % 64)), .int (nI (w1 - 1))])), (p1, .inl (kI G, 64, .inl Pr)), (p2, .inl (kI G, 64, .inl R1)), (p3, .inl (kI G, 64, .inl Q1)), (g0, .inr (2, [.int (nI nr), .int (nI nc)]))]) (As := []) (rest := []) hx hb hml hown hts hE hA hl.1 hP hD hS (c_X5_takeFromQueue l G p0 p1 p2 p3 Pr R1 Q1 d1 h1 w1 (by first | assumption | omega) (by first | assumption | omega) (by first | assumption | omega)) (cw_X5_53 hts) ⟨(Nat.le_of_ble_eq_true rfl), (Nat.le_of_ble_eq_true rfl)⟩ ⟨(Nat.le_of_ble_eq_true rfl), (Nat.le_of_ble_eq_true rfl)⟩ rfl [0, 1, 2, 3] [4] [1, 2, 3, 4, 0] rfl rfl ⟨by decide, by decide, by decide, by decide⟩ rfl rfl rfl rfl rfl (Nat.le_of_ble_eq_true rfl) dX5_measureTo_60 (fun H locs hP hD hS => ?_)
          show WC p l e _ s m _ below meth c G A _ H locs 0 0 (F0 m 63 ls [.int (Q1 h1)])
          refine lv_istore (lv' := [(4, .int (Q1 h1)), (0, .ref p0), (1, .ref g0), (2, .int goal), (3, .int (nI k))]) hx hb dX5_measureTo_63 hl (by decide) rfl (fun ls hl => ?_)
          refine lv_iconst (v := 0) hx hb dX5_measureTo_65 (by decide) ?_
          refine lv_istore (lv' := [(5, .int 0), (4, .int (Q1 h1)), (0, .ref p0), (1, .ref g0), (2, .int goal), (3, .int (nI k))]) hx hb dX5_measureTo_66 hl (by decide) rfl (fun ls hl => ?_)
          exact J_68 (4 - 0 + 1) 0 R1 Q1 (d1 &&& (bt (Q1 h1) ^^^ (-1))) ((h1 + 1) % 64) (w1 - 1) (by first | assumption | omega | rfl) (by first | assumption | omega | rfl) (Nat.mod_lt _ (by decide)) (by omega) (by first | assumption | omega | rfl) rfl (Nat.lt_succ_self _) _ _ hP hD hS ls (lv_sub hl [2, 3, 4, 5, 1, 0] rfl)
  have J_2 : ∀ (n_ : Nat) (k : Nat) (R1 : Nat → Int32) (hk : k ≤ 64) (ha : R1 = fil Rs k) (hm_2 : 64 - k < n_), ∀ (H : Heap) (locs : List Loc), va_P G.1 vwCl [(p0, .inr (5, [.ref p1, .ref p2, .ref p3, .long qd, .int (nI hd), .int (nI wt)])), (p1, .inl (kI G, 64, .inl Pr)), (p2, .inl (kI G, 64, .inl R1)), (p3, .inl (kI G, 64, .inl Qu)), (g0, .inr (2, [.int (nI nr), .int (nI nc)]))] H → va_D A [(p0, .inr (5, [.ref p1, .ref p2, .ref p3, .long qd, .int (nI hd), .int (nI wt)])), (p1, .inl (kI G, 64, .inl Pr)), (p2, .inl (kI G, 64, .inl R1)), (p3, .inl (kI G, 64, .inl Qu)), (g0, .inr (2, [.int (nI nr), .int (nI nc)]))] → va_S A s.heap H locs → ∀ ls : Array Slot, lv_has ls 6 [(0, .ref p0), (1, .ref g0), (2, .int goal), (3, .int (nI k))] → WC p l e (rmz 4 90) s m [.ref p0, .ref g0, .int goal] below meth c G A (one none [(p0, .inr (5, [.ref p1, .ref p2, .ref p3, .long ((mtZ Pr nr nc goal Rs Qu).2.2.1), .int (nI (mtZ Pr nr nc goal Rs Qu).2.2.2.1), .int (nI (mtZ Pr nr nc goal Rs Qu).2.2.2.2)])), (p1, .inl (kI G, 64, .inl Pr)), (p2, .inl (kI G, 64, .inl ((mtZ Pr nr nc goal Rs Qu).1))), (p3, .inl (kI G, 64, .inl ((mtZ Pr nr nc goal Rs Qu).2.1))), (g0, .inr (2, [.int (nI nr), .int (nI nc)]))]) H locs 0 0 (F0 m 2 ls []) := by
    intro n_
    induction n_ with
    | zero =>
      intro k R1 hk ha hm_2
      exact absurd hm_2 (Nat.not_lt_zero _)
    | succ n_ ih_2 =>
      intro k R1 hk ha hm_2 H locs hP hD hS ls hl
      refine lv_iload_n hx hb dX5_measureTo_2 rfl (lv_at hl 3 rfl) ?_
      refine lv_bipush (v := 64) hx hb dX5_measureTo_3 (by decide) ?_
      refine lv_icmp_ge (tgt := 22) hx hb dX5_measureTo_5 (by decide) (fun c5 => ?_) (fun c5 => ?_)
      · have hkn : 64 ≤ k := le_of_le (n := 64) (by omega) (by omega) c5
        have ha64 : R1 = fil Rs 64 := by rw [ha, show k = 64 by omega]
        refine lv_aload_n hx hb dX5_measureTo_22 rfl (lv_at hl 0 rfl) ?_
        refine lv_lconst (v := 0) hx hb dX5_measureTo_23 (by decide) ?_
        refine va_put (v := .long 0) (ty := .long) hx hb hts inlX5 tyX5 tyX5_ok nmX5 hown hE.1 hP hD hS 0 rfl rfl 3 (by decide) (fl_X5_38 hts) (fun _ h9 => h9) rfl (by decide +kernel) rfl rfl (Nat.le_of_ble_eq_true rfl) dX5_measureTo_24 (fun H locs hP hD hS => ?_)
        have hP : va_P G.1 vwCl [(p0, .inr (5, [.ref p1, .ref p2, .ref p3, .long 0, .int (nI hd), .int (nI wt)])), (p1, .inl (kI G, 64, .inl Pr)), (p2, .inl (kI G, 64, .inl R1)), (p3, .inl (kI G, 64, .inl Qu)), (g0, .inr (2, [.int (nI nr), .int (nI nc)]))] H := hP
        have hD : va_D A [(p0, .inr (5, [.ref p1, .ref p2, .ref p3, .long 0, .int (nI hd), .int (nI wt)])), (p1, .inl (kI G, 64, .inl Pr)), (p2, .inl (kI G, 64, .inl R1)), (p3, .inl (kI G, 64, .inl Qu)), (g0, .inr (2, [.int (nI nr), .int (nI nc)]))] := hD
        refine lv_aload_n hx hb dX5_measureTo_27 rfl (lv_at hl 0 rfl) ?_
        refine lv_iconst (v := 0) hx hb dX5_measureTo_28 (by decide) ?_
        refine va_put (v := .int 0) (ty := .int) hx hb hts inlX5 tyX5 tyX5_ok nmX5 hown hE.1 hP hD hS 0 rfl rfl 4 (by decide) (fl_X5_42 hts) (fun _ h9 => h9) rfl (by decide +kernel) rfl rfl (Nat.le_of_ble_eq_true rfl) dX5_measureTo_29 (fun H locs hP hD hS => ?_)
        have hP : va_P G.1 vwCl [(p0, .inr (5, [.ref p1, .ref p2, .ref p3, .long 0, .int 0, .int (nI wt)])), (p1, .inl (kI G, 64, .inl Pr)), (p2, .inl (kI G, 64, .inl R1)), (p3, .inl (kI G, 64, .inl Qu)), (g0, .inr (2, [.int (nI nr), .int (nI nc)]))] H := hP
        have hD : va_D A [(p0, .inr (5, [.ref p1, .ref p2, .ref p3, .long 0, .int 0, .int (nI wt)])), (p1, .inl (kI G, 64, .inl Pr)), (p2, .inl (kI G, 64, .inl R1)), (p3, .inl (kI G, 64, .inl Qu)), (g0, .inr (2, [.int (nI nr), .int (nI nc)]))] := hD
        refine lv_aload_n hx hb dX5_measureTo_32 rfl (lv_at hl 0 rfl) ?_
        refine lv_iconst (v := 0) hx hb dX5_measureTo_33 (by decide) ?_
        refine va_put (v := .int 0) (ty := .int) hx hb hts inlX5 tyX5 tyX5_ok nmX5 hown hE.1 hP hD hS 0 rfl rfl 5 (by decide) (fl_X5_46 hts) (fun _ h9 => h9) rfl (by decide +kernel) rfl rfl (Nat.le_of_ble_eq_true rfl) dX5_measureTo_34 (fun H locs hP hD hS => ?_)
        have hP : va_P G.1 vwCl [(p0, .inr (5, [.ref p1, .ref p2, .ref p3, .long 0, .int 0, .int 0])), (p1, .inl (kI G, 64, .inl Pr)), (p2, .inl (kI G, 64, .inl R1)), (p3, .inl (kI G, 64, .inl Qu)), (g0, .inr (2, [.int (nI nr), .int (nI nc)]))] H := hP
        have hD : va_D A [(p0, .inr (5, [.ref p1, .ref p2, .ref p3, .long 0, .int 0, .int 0])), (p1, .inl (kI G, 64, .inl Pr)), (p2, .inl (kI G, 64, .inl R1)), (p3, .inl (kI G, 64, .inl Qu)), (g0, .inr (2, [.int (nI nr), .int (nI nc)]))] := hD
        refine lv_aload_n hx hb dX5_measureTo_37 rfl (lv_at hl 0 rfl) ?_
        refine lv_iload_n hx hb dX5_measureTo_38 rfl (lv_at hl 2 rfl) ?_
        refine lv_iconst (v := 0) hx hb dX5_measureTo_39 (by decide) ?_
        refine ct_callV (w1 := [(p0, .inr (5, [.ref p1, .ref p2, .ref p3, .long ((rch Pr goal 0 (R1, Qu, 0, 0, 0)).2.2.1), .int (nI 0), .int (nI (rch Pr goal 0 (R1, Qu, 0, 0, 0)).2.2.2.2)])), (p1, .inl (kI G, 64, .inl Pr)), (p2, .inl (kI G, 64, .inl ((rch Pr goal 0 (R1, Qu, 0, 0, 0)).1))), (p3, .inl (kI G, 64, .inl ((rch Pr goal 0 (R1, Qu, 0, 0, 0)).2.1)))]) (wr := [(g0, .inr (2, [.int (nI nr), .int (nI nc)]))]) (wn := [(p0, .inr (5, [.ref p1, .ref p2, .ref p3, .long ((rch Pr goal 0 (R1, Qu, 0, 0, 0)).2.2.1), .int (nI 0), .int (nI (rch Pr goal 0 (R1, Qu, 0, 0, 0)).2.2.2.2)])), (p1, .inl (kI G, 64, .inl Pr)), (p2, .inl (kI G, 64, .inl ((rch Pr goal 0 (R1, Qu, 0, 0, 0)).1))), (p3, .inl (kI G, 64, .inl ((rch Pr goal 0 (R1, Qu, 0, 0, 0)).2.1))), (g0, .inr (2, [.int (nI nr), .int (nI nc)]))]) (As := [.int goal, .int 0]) (rest := []) hx hb hml hown hts hE hA hl.1 hP hD hS (c_X5_reach l G p0 p1 p2 p3 Pr R1 Qu 0 0 0 goal 0 (by decide) (by decide)) (cw_X5_49 hts) ⟨(Nat.le_of_ble_eq_true rfl), (Nat.le_of_ble_eq_true rfl)⟩ ⟨(Nat.le_of_ble_eq_true rfl), (Nat.le_of_ble_eq_true rfl)⟩ rfl [0, 1, 2, 3] [4] [1, 2, 3, 4, 0] rfl rfl ⟨by decide, by decide, by decide, by decide⟩ rfl rfl rfl rfl rfl (Nat.le_of_ble_eq_true rfl) dX5_measureTo_40 (fun H locs hP hD hS => ?_)
        show WC p l e _ s m _ below meth c G A _ H locs 0 0 (F0 m 43 ls [])
        refine lv_iconst (v := 0) hx hb dX5_measureTo_43 (by decide) ?_
        refine lv_istore_n (lv' := [(3, .int 0), (0, .ref p0), (1, .ref g0), (2, .int goal)]) hx hb dX5_measureTo_44 rfl hl (by decide) rfl (fun ls hl => ?_)
        exact J_45 (4096 - 0 + 1) 0 ((rch Pr goal 0 (R1, Qu, 0, 0, 0)).1) ((rch Pr goal 0 (R1, Qu, 0, 0, 0)).2.1) ((rch Pr goal 0 (R1, Qu, 0, 0, 0)).2.2.1) 0 ((rch Pr goal 0 (R1, Qu, 0, 0, 0)).2.2.2.2) (by first | assumption | omega | rfl) (by first | assumption | omega | rfl) (rch_wt _ _ _ _ (Nat.zero_le _)) (by rw [mtZ, ← ha64]; exact congrArg (mtR Pr nr nc 4096) (rch_eta Pr goal 0 (R1, Qu, 0, 0, 0)).symm) (Nat.lt_succ_self _) _ _ hP hD hS ls (lv_sub hl [1, 2, 3, 0] rfl)
      · have hkn : k < 64 := lt_of_nle (n := 64) (by omega) (by omega) c5
        refine lv_aload_n hx hb dX5_measureTo_8 rfl (lv_at hl 0 rfl) ?_
        refine va_get hx hb hts inlX5 hown hE.1 hP 0 rfl rfl 1 (by decide) (fl_X5_15 hts) (fun _ h9 => h9) rfl dX5_measureTo_9 ?_
        refine lv_iload_n hx hb dX5_measureTo_12 rfl (lv_at hl 3 rfl) ?_
        refine lv_ldc hx hb hown (cn_X5_37 hts) dX5_measureTo_13 ?_
        refine va_iast hx hb hE.1 hP hD hS 2 0 rfl rfl (vp_in_nI hkn (by decide)) dX5_measureTo_15 (fun H locs hP hD hS => ?_)
        have hP : va_P G.1 vwCl [(p0, .inr (5, [.ref p1, .ref p2, .ref p3, .long qd, .int (nI hd), .int (nI wt)])), (p1, .inl (kI G, 64, .inl Pr)), (p2, .inl (kI G, 64, .inl (upd R1 (nI k).toNatClampNeg 1000000))), (p3, .inl (kI G, 64, .inl Qu)), (g0, .inr (2, [.int (nI nr), .int (nI nc)]))] H := hP
        have hD : va_D A [(p0, .inr (5, [.ref p1, .ref p2, .ref p3, .long qd, .int (nI hd), .int (nI wt)])), (p1, .inl (kI G, 64, .inl Pr)), (p2, .inl (kI G, 64, .inl (upd R1 (nI k).toNatClampNeg 1000000))), (p3, .inl (kI G, 64, .inl Qu)), (g0, .inr (2, [.int (nI nr), .int (nI nc)]))] := hD
        refine lv_iinc (v := nI (k + 1)) (lv' := [(3, .int (nI (k + 1))), (0, .ref p0), (1, .ref g0), (2, .int goal)]) hx hb dX5_measureTo_16 hl (k := 3) rfl (nI_1 k) (by decide) rfl (fun ls hl => ?_)
        refine lv_goto (tgt := 2) hx hb dX5_measureTo_19 (by decide) ?_
        exact ih_2 (k + 1) (upd R1 (nI k).toNatClampNeg 1000000) (by first | assumption | omega | rfl) (by rw [fil, it_s, ← fil, ← ha, nI_clamp (show k < 2 ^ 31 by omega)]) (by omega) _ _ hP hD hS ls (lv_sub hl [1, 2, 3, 0] rfl)
  refine lv_iconst (v := 0) hx hb dX5_measureTo_0 (by decide) ?_
  refine lv_istore_n (lv' := [(3, .int 0), (0, .ref p0), (1, .ref g0), (2, .int goal)]) hx hb dX5_measureTo_1 rfl hl (by decide) rfl (fun ls hl => ?_)
  exact J_2 (64 - 0 + 1) 0 Rs (by first | assumption | omega | rfl) rfl (Nat.lt_succ_self _) _ _ hP hD hS ls (lv_sub hl [1, 2, 3, 0] rfl)

set_option maxHeartbeats 4000000 in
set_option maxRecDepth 100000 in
theorem c_X5_stepsThrough (l : Launch) (G : Gv) (p0 : Nat) (p1 : Nat) (p2 : Nat) (p3 : Nat) (Pr : Nat → Int32) (Rs : Nat → Int32) (Qu : Nat → Int32) (qd : Int64) (hd : Nat) (wt : Nat) (g0 : Nat) (nr : Nat) (nc : Nat) (w : Int64) (a : Int32) (b : Int32) (hg1 : 2 ≤ nr ∧ nr ≤ 8) (hg2 : 2 ≤ nc ∧ nc ≤ 8) : Ct l yX5_stepsThrough cX5_stepsThrough 6 (some .int) (rmz 5 115) G [.ref p0, .ref g0, .long w, .int a, .int b] [(p0, .inr (5, [.ref p1, .ref p2, .ref p3, .long qd, .int (nI hd), .int (nI wt)])), (p1, .inl (kI G, 64, .inl Pr)), (p2, .inl (kI G, 64, .inl Rs)), (p3, .inl (kI G, 64, .inl Qu)), (g0, .inr (2, [.int (nI nr), .int (nI nc)]))] (one (some (.int (atF (mtZ (prA w 1 0 0 Pr 64) nr nc b Rs Qu).1 a))) [(p0, .inr (5, [.ref p1, .ref p2, .ref p3, .long ((mtZ (prA w 1 0 0 Pr 64) nr nc b Rs Qu).2.2.1), .int (nI (mtZ (prA w 1 0 0 Pr 64) nr nc b Rs Qu).2.2.2.1), .int (nI (mtZ (prA w 1 0 0 Pr 64) nr nc b Rs Qu).2.2.2.2)])), (p1, .inl (kI G, 64, .inl (prA w 1 0 0 Pr 64))), (p2, .inl (kI G, 64, .inl ((mtZ (prA w 1 0 0 Pr 64) nr nc b Rs Qu).1))), (p3, .inl (kI G, 64, .inl ((mtZ (prA w 1 0 0 Pr 64) nr nc b Rs Qu).2.1))), (g0, .inr (2, [.int (nI nr), .int (nI nc)]))]) := by
  refine Ct.ofW (by decide) (Nat.le_of_ble_eq_true rfl) ?_
  intro p e s m below meth c ls A hx hb hml hr hown hts hlk hnm hP hD hA hE hS hl
  obtain ⟨H, eH⟩ : ∃ H : Heap, H = s.heap := ⟨_, rfl⟩
  obtain ⟨locs, eL⟩ : ∃ ll : List Loc, ll = [] := ⟨_, rfl⟩
  rw [← eH] at hP
  have hS : va_S A s.heap H locs := by rw [eH, eL]; exact hS
  show WC p l e _ s m _ below meth c G A _ s.heap [] 0 0 _
  rw [← eH, ← eL]
  clear eH eL
  have hl : lv_has ls 6 [(0, .ref p0), (1, .ref g0), (2, .long w), (4, .int a), (5, .int b)] := hl
  refine lv_aload_n hx hb dX5_stepsThrough_0 rfl (lv_at hl 0 rfl) ?_
  refine lv_lload_n hx hb dX5_stepsThrough_1 rfl (lv_at hl 2 rfl) ?_
  refine lv_iconst (v := 1) hx hb dX5_stepsThrough_2 (by decide) ?_
  refine lv_lconst (v := 0) hx hb dX5_stepsThrough_3 (by decide) ?_
  refine lv_iconst (v := 0) hx hb dX5_stepsThrough_4 (by decide) ?_
  refine ct_callV (w1 := [(p0, .inr (5, [.ref p1, .ref p2, .ref p3, .long qd, .int (nI hd), .int (nI wt)])), (p1, .inl (kI G, 64, .inl (prA w 1 0 0 Pr 64))), (p2, .inl (kI G, 64, .inl Rs)), (p3, .inl (kI G, 64, .inl Qu))]) (wr := [(g0, .inr (2, [.int (nI nr), .int (nI nc)]))]) (wn := [(p0, .inr (5, [.ref p1, .ref p2, .ref p3, .long qd, .int (nI hd), .int (nI wt)])), (p1, .inl (kI G, 64, .inl (prA w 1 0 0 Pr 64))), (p2, .inl (kI G, 64, .inl Rs)), (p3, .inl (kI G, 64, .inl Qu)), (g0, .inr (2, [.int (nI nr), .int (nI nc)]))]) (As := [.long w, .int 1, .long 0, .int 0]) (rest := []) hx hb hml hown hts hE hA hl.1 hP hD hS (c_X5_price l G p0 p1 p2 p3 Pr Rs Qu qd hd wt w 1 0 0 ) (cw_X5_21 hts) ⟨(Nat.le_of_ble_eq_true rfl), (Nat.le_of_ble_eq_true rfl)⟩ ⟨(Nat.le_of_ble_eq_true rfl), (Nat.le_of_ble_eq_true rfl)⟩ rfl [0, 1, 2, 3] [4] [1, 2, 3, 4, 0] rfl rfl ⟨by decide, by decide, by decide, by decide⟩ rfl rfl rfl rfl rfl (Nat.le_of_ble_eq_true rfl) dX5_stepsThrough_5 (fun H locs hP hD hS => ?_)
  show WC p l e _ s m _ below meth c G A _ H locs 0 0 (F0 m 8 ls [])
  refine lv_aload_n hx hb dX5_stepsThrough_8 rfl (lv_at hl 0 rfl) ?_
  refine lv_aload_n hx hb dX5_stepsThrough_9 rfl (lv_at hl 1 rfl) ?_
  refine lv_iload hx hb dX5_stepsThrough_10 (lv_at hl 4 rfl) ?_
  refine ct_callV (w1 := [(p0, .inr (5, [.ref p1, .ref p2, .ref p3, .long ((mtZ (prA w 1 0 0 Pr 64) nr nc b Rs Qu).2.2.1), .int (nI (mtZ (prA w 1 0 0 Pr 64) nr nc b Rs Qu).2.2.2.1), .int (nI (mtZ (prA w 1 0 0 Pr 64) nr nc b Rs Qu).2.2.2.2)])), (p1, .inl (kI G, 64, .inl (prA w 1 0 0 Pr 64))), (p2, .inl (kI G, 64, .inl ((mtZ (prA w 1 0 0 Pr 64) nr nc b Rs Qu).1))), (p3, .inl (kI G, 64, .inl ((mtZ (prA w 1 0 0 Pr 64) nr nc b Rs Qu).2.1))), (g0, .inr (2, [.int (nI nr), .int (nI nc)]))]) (wr := []) (wn := [(p0, .inr (5, [.ref p1, .ref p2, .ref p3, .long ((mtZ (prA w 1 0 0 Pr 64) nr nc b Rs Qu).2.2.1), .int (nI (mtZ (prA w 1 0 0 Pr 64) nr nc b Rs Qu).2.2.2.1), .int (nI (mtZ (prA w 1 0 0 Pr 64) nr nc b Rs Qu).2.2.2.2)])), (p1, .inl (kI G, 64, .inl (prA w 1 0 0 Pr 64))), (p2, .inl (kI G, 64, .inl ((mtZ (prA w 1 0 0 Pr 64) nr nc b Rs Qu).1))), (p3, .inl (kI G, 64, .inl ((mtZ (prA w 1 0 0 Pr 64) nr nc b Rs Qu).2.1))), (g0, .inr (2, [.int (nI nr), .int (nI nc)]))]) (As := [.ref g0, .int b]) (rest := []) hx hb hml hown hts hE hA hl.1 hP hD hS (c_X5_measureTo l G p0 p1 p2 p3 (prA w 1 0 0 Pr 64) Rs Qu qd hd wt g0 nr nc b (by first | assumption | omega) (by first | assumption | omega)) (cw_X5_25 hts) ⟨(Nat.le_of_ble_eq_true rfl), (Nat.le_of_ble_eq_true rfl)⟩ ⟨(Nat.le_of_ble_eq_true rfl), (Nat.le_of_ble_eq_true rfl)⟩ rfl [0, 1, 2, 3, 4] [] [0, 1, 2, 3, 4] rfl rfl ⟨by decide, by decide, by decide, by decide⟩ rfl rfl rfl rfl rfl (Nat.le_of_ble_eq_true rfl) dX5_stepsThrough_12 (fun H locs hP hD hS => ?_)
  show WC p l e _ s m _ below meth c G A _ H locs 0 0 (F0 m 15 ls [])
  refine lv_aload_n hx hb dX5_stepsThrough_15 rfl (lv_at hl 0 rfl) ?_
  refine lv_iload hx hb dX5_stepsThrough_16 (lv_at hl 3 rfl) ?_
  refine rd_callV (As := [.int a]) (rest := []) hx hb hml hown hts (hE.at0 hS) hl.1 (c_X5_restFrom l G p0 p1 p2 p3 (prA w 1 0 0 Pr 64) ((mtZ (prA w 1 0 0 Pr 64) nr nc b Rs Qu).1) ((mtZ (prA w 1 0 0 Pr 64) nr nc b Rs Qu).2.1) ((mtZ (prA w 1 0 0 Pr 64) nr nc b Rs Qu).2.2.1) ((mtZ (prA w 1 0 0 Pr 64) nr nc b Rs Qu).2.2.2.1) ((mtZ (prA w 1 0 0 Pr 64) nr nc b Rs Qu).2.2.2.2) a ) (cw_X5_29 hts) ⟨(Nat.le_of_ble_eq_true rfl), (Nat.le_of_ble_eq_true rfl)⟩ ⟨Nat.zero_le _, Nat.zero_le _⟩ rfl (sub_P hP [0, 1, 2, 3] rfl) rfl rfl rfl rfl (Nat.le_of_ble_eq_true rfl) dX5_stepsThrough_18 ?_
  exact ct_iret hx hb hr hlk dX5_stepsThrough_21 hP hD hS (by first | exact ⟨rfl, rfl⟩ | (simp [one]; done))

set_option maxHeartbeats 4000000 in
set_option maxRecDepth 100000 in
theorem c_X1_copyFrom (l : Launch) (G : Gv) (o0 : Nat) (g0 : Nat) (nr : Nat) (nc : Nat) (a0 : Nat) (a1 : Nat) (a2 : Nat) (a3 : Nat) (a4 : Nat) (C : Nat → Int32) (B : Nat → Int32) (F : Nat → Int32) (K : Nat → Int32) (n : Nat) (y : Int32) (h0 : Nat) (h1 : Nat) (h2 : Nat) (h3 : Nat) (Yr : Nat → Int32) (Dn : Nat → Int32) (Rt : Nat → Int32) (q : Nat) (x0 : Nat) (f0 : Nat) (nr2 : Nat) (nc2 : Nat) (b0 : Nat) (b1 : Nat) (b2 : Nat) (b3 : Nat) (b4 : Nat) (C2 : Nat → Int32) (B2 : Nat → Int32) (F2 : Nat → Int32) (K2 : Nat → Int32) (n2 : Nat) (y2 : Int32) (k0 : Nat) (k1 : Nat) (k2 : Nat) (k3 : Nat) (Yr2 : Nat → Int32) (Dn2 : Nat → Int32) (Rt2 : Nat → Int32) (q2 : Nat) (hs1 : isS (nI nr2) = true) (hs2 : isS (nI nc2) = true) : Ct l yX1_copyFrom cX1_copyFrom 2 none (rmz 2 61) G [.ref o0, .ref x0] [(o0, .inr (1, [.ref g0, .ref a0, .ref h0])), (g0, .inr (2, [.int (nI nr), .int (nI nc)])), (a0, .inr (4, [.ref a1, .ref a2, .ref a3, .ref a4, .int (nI n), .int y])), (a1, .inl (kI G, 10, .inl C)), (a2, .inl (kI G, 10, .inl B)), (a3, .inl (kI G, 10, .inl F)), (a4, .inl (kI G, 10, .inl K)), (h0, .inr (0, [.ref h1, .ref h2, .ref h3, .int (nI q)])), (h1, .inl (kI G, 5, .inl Yr)), (h2, .inl (kI G, 5, .inl Dn)), (h3, .inl (kI G, 5, .inl Rt)), (x0, .inr (1, [.ref f0, .ref b0, .ref k0])), (f0, .inr (2, [.int (nI nr2), .int (nI nc2)])), (b0, .inr (4, [.ref b1, .ref b2, .ref b3, .ref b4, .int (nI n2), .int y2])), (b1, .inl (kI G, 10, .inl C2)), (b2, .inl (kI G, 10, .inl B2)), (b3, .inl (kI G, 10, .inl F2)), (b4, .inl (kI G, 10, .inl K2)), (k0, .inr (0, [.ref k1, .ref k2, .ref k3, .int (nI q2)])), (k1, .inl (kI G, 5, .inl Yr2)), (k2, .inl (kI G, 5, .inl Dn2)), (k3, .inl (kI G, 5, .inl Rt2))] (one none [(o0, .inr (1, [.ref g0, .ref a0, .ref h0])), (g0, .inr (2, [.int (nI nr2), .int (nI nc2)])), (a0, .inr (4, [.ref a1, .ref a2, .ref a3, .ref a4, .int (nI n2), .int y2])), (a1, .inl (kI G, 10, .inl (va_cpy C2 C 0 0 10))), (a2, .inl (kI G, 10, .inl (va_cpy B2 B 0 0 10))), (a3, .inl (kI G, 10, .inl (va_cpy F2 F 0 0 10))), (a4, .inl (kI G, 10, .inl (va_cpy K2 K 0 0 10))), (h0, .inr (0, [.ref h1, .ref h2, .ref h3, .int (nI q2)])), (h1, .inl (kI G, 5, .inl (va_cpy Yr2 Yr 0 0 5))), (h2, .inl (kI G, 5, .inl (va_cpy Dn2 Dn 0 0 5))), (h3, .inl (kI G, 5, .inl (va_cpy Rt2 Rt 0 0 5))), (x0, .inr (1, [.ref f0, .ref b0, .ref k0])), (f0, .inr (2, [.int (nI nr2), .int (nI nc2)])), (b0, .inr (4, [.ref b1, .ref b2, .ref b3, .ref b4, .int (nI n2), .int y2])), (b1, .inl (kI G, 10, .inl C2)), (b2, .inl (kI G, 10, .inl B2)), (b3, .inl (kI G, 10, .inl F2)), (b4, .inl (kI G, 10, .inl K2)), (k0, .inr (0, [.ref k1, .ref k2, .ref k3, .int (nI q2)])), (k1, .inl (kI G, 5, .inl Yr2)), (k2, .inl (kI G, 5, .inl Dn2)), (k3, .inl (kI G, 5, .inl Rt2))]) := by
  refine Ct.ofW (by decide) (Nat.le_of_ble_eq_true rfl) ?_
  intro p e s m below meth c ls A hx hb hml hr hown hts hlk hnm hP hD hA hE hS hl
  obtain ⟨H, eH⟩ : ∃ H : Heap, H = s.heap := ⟨_, rfl⟩
  obtain ⟨locs, eL⟩ : ∃ ll : List Loc, ll = [] := ⟨_, rfl⟩
  rw [← eH] at hP
  have hS : va_S A s.heap H locs := by rw [eH, eL]; exact hS
  show WC p l e _ s m _ below meth c G A _ s.heap [] 0 0 _
  rw [← eH, ← eL]
  clear eH eL
  have hl : lv_has ls 2 [(0, .ref o0), (1, .ref x0)] := hl
  refine lv_aload_n hx hb dX1_copyFrom_0 rfl (lv_at hl 0 rfl) ?_
  refine va_get hx hb hts inlX1 hown hE.1 hP 0 rfl rfl 0 (by decide) (fl_X1_12 hts) (fun _ h9 => h9) rfl dX1_copyFrom_1 ?_
  refine lv_aload_n hx hb dX1_copyFrom_4 rfl (lv_at hl 1 rfl) ?_
  refine va_get hx hb hts inlX1 hown hE.1 hP 11 rfl rfl 0 (by decide) (fl_X1_12 hts) (fun _ h9 => h9) rfl dX1_copyFrom_5 ?_
  refine va_getN hx hb hts inlX2 hown hE.1 hP 12 rfl rfl 0 (by decide) (nf_X1_40 hE.2.1) (fun _ h9 => h9) rfl dX1_copyFrom_8 ?_
  refine lv_aload_n hx hb dX1_copyFrom_11 rfl (lv_at hl 1 rfl) ?_
  refine va_get hx hb hts inlX1 hown hE.1 hP 11 rfl rfl 0 (by decide) (fl_X1_12 hts) (fun _ h9 => h9) rfl dX1_copyFrom_12 ?_
  refine va_getN hx hb hts inlX2 hown hE.1 hP 12 rfl rfl 1 (by decide) (nf_X1_44 hE.2.1) (fun _ h9 => h9) rfl dX1_copyFrom_15 ?_
  refine ct_callV (w1 := [(g0, .inr (2, [.int (nI nr2), .int (nI nc2)]))]) (wr := [(o0, .inr (1, [.ref g0, .ref a0, .ref h0])), (a0, .inr (4, [.ref a1, .ref a2, .ref a3, .ref a4, .int (nI n), .int y])), (a1, .inl (kI G, 10, .inl C)), (a2, .inl (kI G, 10, .inl B)), (a3, .inl (kI G, 10, .inl F)), (a4, .inl (kI G, 10, .inl K)), (h0, .inr (0, [.ref h1, .ref h2, .ref h3, .int (nI q)])), (h1, .inl (kI G, 5, .inl Yr)), (h2, .inl (kI G, 5, .inl Dn)), (h3, .inl (kI G, 5, .inl Rt)), (x0, .inr (1, [.ref f0, .ref b0, .ref k0])), (f0, .inr (2, [.int (nI nr2), .int (nI nc2)])), (b0, .inr (4, [.ref b1, .ref b2, .ref b3, .ref b4, .int (nI n2), .int y2])), (b1, .inl (kI G, 10, .inl C2)), (b2, .inl (kI G, 10, .inl B2)), (b3, .inl (kI G, 10, .inl F2)), (b4, .inl (kI G, 10, .inl K2)), (k0, .inr (0, [.ref k1, .ref k2, .ref k3, .int (nI q2)])), (k1, .inl (kI G, 5, .inl Yr2)), (k2, .inl (kI G, 5, .inl Dn2)), (k3, .inl (kI G, 5, .inl Rt2))]) (wn := [(o0, .inr (1, [.ref g0, .ref a0, .ref h0])), (g0, .inr (2, [.int (nI nr2), .int (nI nc2)])), (a0, .inr (4, [.ref a1, .ref a2, .ref a3, .ref a4, .int (nI n), .int y])), (a1, .inl (kI G, 10, .inl C)), (a2, .inl (kI G, 10, .inl B)), (a3, .inl (kI G, 10, .inl F)), (a4, .inl (kI G, 10, .inl K)), (h0, .inr (0, [.ref h1, .ref h2, .ref h3, .int (nI q)])), (h1, .inl (kI G, 5, .inl Yr)), (h2, .inl (kI G, 5, .inl Dn)), (h3, .inl (kI G, 5, .inl Rt)), (x0, .inr (1, [.ref f0, .ref b0, .ref k0])), (f0, .inr (2, [.int (nI nr2), .int (nI nc2)])), (b0, .inr (4, [.ref b1, .ref b2, .ref b3, .ref b4, .int (nI n2), .int y2])), (b1, .inl (kI G, 10, .inl C2)), (b2, .inl (kI G, 10, .inl B2)), (b3, .inl (kI G, 10, .inl F2)), (b4, .inl (kI G, 10, .inl K2)), (k0, .inr (0, [.ref k1, .ref k2, .ref k3, .int (nI q2)])), (k1, .inl (kI G, 5, .inl Yr2)), (k2, .inl (kI G, 5, .inl Dn2)), (k3, .inl (kI G, 5, .inl Rt2))]) (As := [.int (nI nr2), .int (nI nc2)]) (rest := []) hx hb hml hown hts hE hA hl.1 hP hD hS (c_X2_resize l G g0 nr nc nr2 nc2 (by first | assumption | omega) (by first | assumption | omega)) (cw_X1_32 hts) ⟨(Nat.le_of_ble_eq_true rfl), (Nat.le_of_ble_eq_true rfl)⟩ ⟨(Nat.le_of_ble_eq_true rfl), (Nat.le_of_ble_eq_true rfl)⟩ rfl [1] [0, 2, 3, 4, 5, 6, 7, 8, 9, 10, 11, 12, 13, 14, 15, 16, 17, 18, 19, 20, 21] [0, 21, 1, 2, 3, 4, 5, 6, 7, 8, 9, 10, 11, 12, 13, 14, 15, 16, 17, 18, 19, 20] rfl rfl ⟨by decide, by decide, by decide, by decide⟩ rfl rfl rfl rfl rfl (Nat.le_of_ble_eq_true rfl) dX1_copyFrom_18 (fun H locs hP hD hS => ?_)
  show WC p l e _ s m _ below meth c G A _ H locs 0 0 (F0 m 21 ls [.int 1])
  refine lv_pop hx hb dX1_copyFrom_21 rfl ?_
  refine lv_aload_n hx hb dX1_copyFrom_22 rfl (lv_at hl 0 rfl) ?_
  refine va_get hx hb hts inlX1 hown hE.1 hP 0 rfl rfl 1 (by decide) (fl_X1_21 hts) (fun _ h9 => h9) rfl dX1_copyFrom_23 ?_
  refine lv_aload_n hx hb dX1_copyFrom_26 rfl (lv_at hl 1 rfl) ?_
  refine va_get hx hb hts inlX1 hown hE.1 hP 11 rfl rfl 1 (by decide) (fl_X1_21 hts) (fun _ h9 => h9) rfl dX1_copyFrom_27 ?_
  refine ct_callV (w1 := [(a0, .inr (4, [.ref a1, .ref a2, .ref a3, .ref a4, .int (nI n2), .int y2])), (a1, .inl (kI G, 10, .inl (va_cpy C2 C 0 0 10))), (a2, .inl (kI G, 10, .inl (va_cpy B2 B 0 0 10))), (a3, .inl (kI G, 10, .inl (va_cpy F2 F 0 0 10))), (a4, .inl (kI G, 10, .inl (va_cpy K2 K 0 0 10))), (b0, .inr (4, [.ref b1, .ref b2, .ref b3, .ref b4, .int (nI n2), .int y2])), (b1, .inl (kI G, 10, .inl C2)), (b2, .inl (kI G, 10, .inl B2)), (b3, .inl (kI G, 10, .inl F2)), (b4, .inl (kI G, 10, .inl K2))]) (wr := [(o0, .inr (1, [.ref g0, .ref a0, .ref h0])), (g0, .inr (2, [.int (nI nr2), .int (nI nc2)])), (h0, .inr (0, [.ref h1, .ref h2, .ref h3, .int (nI q)])), (h1, .inl (kI G, 5, .inl Yr)), (h2, .inl (kI G, 5, .inl Dn)), (h3, .inl (kI G, 5, .inl Rt)), (x0, .inr (1, [.ref f0, .ref b0, .ref k0])), (f0, .inr (2, [.int (nI nr2), .int (nI nc2)])), (k0, .inr (0, [.ref k1, .ref k2, .ref k3, .int (nI q2)])), (k1, .inl (kI G, 5, .inl Yr2)), (k2, .inl (kI G, 5, .inl Dn2)), (k3, .inl (kI G, 5, .inl Rt2))]) (wn := [(o0, .inr (1, [.ref g0, .ref a0, .ref h0])), (g0, .inr (2, [.int (nI nr2), .int (nI nc2)])), (a0, .inr (4, [.ref a1, .ref a2, .ref a3, .ref a4, .int (nI n2), .int y2])), (a1, .inl (kI G, 10, .inl (va_cpy C2 C 0 0 10))), (a2, .inl (kI G, 10, .inl (va_cpy B2 B 0 0 10))), (a3, .inl (kI G, 10, .inl (va_cpy F2 F 0 0 10))), (a4, .inl (kI G, 10, .inl (va_cpy K2 K 0 0 10))), (h0, .inr (0, [.ref h1, .ref h2, .ref h3, .int (nI q)])), (h1, .inl (kI G, 5, .inl Yr)), (h2, .inl (kI G, 5, .inl Dn)), (h3, .inl (kI G, 5, .inl Rt)), (x0, .inr (1, [.ref f0, .ref b0, .ref k0])), (f0, .inr (2, [.int (nI nr2), .int (nI nc2)])), (b0, .inr (4, [.ref b1, .ref b2, .ref b3, .ref b4, .int (nI n2), .int y2])), (b1, .inl (kI G, 10, .inl C2)), (b2, .inl (kI G, 10, .inl B2)), (b3, .inl (kI G, 10, .inl F2)), (b4, .inl (kI G, 10, .inl K2)), (k0, .inr (0, [.ref k1, .ref k2, .ref k3, .int (nI q2)])), (k1, .inl (kI G, 5, .inl Yr2)), (k2, .inl (kI G, 5, .inl Dn2)), (k3, .inl (kI G, 5, .inl Rt2))]) (As := [.ref b0]) (rest := []) hx hb hml hown hts hE hA hl.1 hP hD hS (c_X4_copyFrom l G a0 a1 a2 a3 a4 C B F K n y b0 b1 b2 b3 b4 C2 B2 F2 K2 n2 y2 ) (cw_X1_47 hts) ⟨(Nat.le_of_ble_eq_true rfl), (Nat.le_of_ble_eq_true rfl)⟩ ⟨(Nat.le_of_ble_eq_true rfl), (Nat.le_of_ble_eq_true rfl)⟩ rfl [2, 3, 4, 5, 6, 13, 14, 15, 16, 17] [0, 1, 7, 8, 9, 10, 11, 12, 18, 19, 20, 21] [0, 1, 12, 13, 14, 15, 16, 2, 3, 4, 5, 6, 7, 17, 18, 19, 20, 21, 8, 9, 10, 11] rfl rfl ⟨by decide, by decide, by decide, by decide⟩ rfl rfl rfl rfl rfl (Nat.le_of_ble_eq_true rfl) dX1_copyFrom_30 (fun H locs hP hD hS => ?_)
  show WC p l e _ s m _ below meth c G A _ H locs 0 0 (F0 m 33 ls [])
  refine lv_aload_n hx hb dX1_copyFrom_33 rfl (lv_at hl 0 rfl) ?_
  refine va_get hx hb hts inlX1 hown hE.1 hP 0 rfl rfl 2 (by decide) (fl_X1_28 hts) (fun _ h9 => h9) rfl dX1_copyFrom_34 ?_
  refine lv_aload_n hx hb dX1_copyFrom_37 rfl (lv_at hl 1 rfl) ?_
  refine va_get hx hb hts inlX1 hown hE.1 hP 11 rfl rfl 2 (by decide) (fl_X1_28 hts) (fun _ h9 => h9) rfl dX1_copyFrom_38 ?_
  refine ct_callV (w1 := [(h0, .inr (0, [.ref h1, .ref h2, .ref h3, .int (nI q2)])), (h1, .inl (kI G, 5, .inl (va_cpy Yr2 Yr 0 0 5))), (h2, .inl (kI G, 5, .inl (va_cpy Dn2 Dn 0 0 5))), (h3, .inl (kI G, 5, .inl (va_cpy Rt2 Rt 0 0 5))), (k0, .inr (0, [.ref k1, .ref k2, .ref k3, .int (nI q2)])), (k1, .inl (kI G, 5, .inl Yr2)), (k2, .inl (kI G, 5, .inl Dn2)), (k3, .inl (kI G, 5, .inl Rt2))]) (wr := [(o0, .inr (1, [.ref g0, .ref a0, .ref h0])), (g0, .inr (2, [.int (nI nr2), .int (nI nc2)])), (a0, .inr (4, [.ref a1, .ref a2, .ref a3, .ref a4, .int (nI n2), .int y2])), (a1, .inl (kI G, 10, .inl (va_cpy C2 C 0 0 10))), (a2, .inl (kI G, 10, .inl (va_cpy B2 B 0 0 10))), (a3, .inl (kI G, 10, .inl (va_cpy F2 F 0 0 10))), (a4, .inl (kI G, 10, .inl (va_cpy K2 K 0 0 10))), (x0, .inr (1, [.ref f0, .ref b0, .ref k0])), (f0, .inr (2, [.int (nI nr2), .int (nI nc2)])), (b0, .inr (4, [.ref b1, .ref b2, .ref b3, .ref b4, .int (nI n2), .int y2])), (b1, .inl (kI G, 10, .inl C2)), (b2, .inl (kI G, 10, .inl B2)), (b3, .inl (kI G, 10, .inl F2)), (b4, .inl (kI G, 10, .inl K2))]) (wn := [(o0, .inr (1, [.ref g0, .ref a0, .ref h0])), (g0, .inr (2, [.int (nI nr2), .int (nI nc2)])), (a0, .inr (4, [.ref a1, .ref a2, .ref a3, .ref a4, .int (nI n2), .int y2])), (a1, .inl (kI G, 10, .inl (va_cpy C2 C 0 0 10))), (a2, .inl (kI G, 10, .inl (va_cpy B2 B 0 0 10))), (a3, .inl (kI G, 10, .inl (va_cpy F2 F 0 0 10))), (a4, .inl (kI G, 10, .inl (va_cpy K2 K 0 0 10))), (h0, .inr (0, [.ref h1, .ref h2, .ref h3, .int (nI q2)])), (h1, .inl (kI G, 5, .inl (va_cpy Yr2 Yr 0 0 5))), (h2, .inl (kI G, 5, .inl (va_cpy Dn2 Dn 0 0 5))), (h3, .inl (kI G, 5, .inl (va_cpy Rt2 Rt 0 0 5))), (x0, .inr (1, [.ref f0, .ref b0, .ref k0])), (f0, .inr (2, [.int (nI nr2), .int (nI nc2)])), (b0, .inr (4, [.ref b1, .ref b2, .ref b3, .ref b4, .int (nI n2), .int y2])), (b1, .inl (kI G, 10, .inl C2)), (b2, .inl (kI G, 10, .inl B2)), (b3, .inl (kI G, 10, .inl F2)), (b4, .inl (kI G, 10, .inl K2)), (k0, .inr (0, [.ref k1, .ref k2, .ref k3, .int (nI q2)])), (k1, .inl (kI G, 5, .inl Yr2)), (k2, .inl (kI G, 5, .inl Dn2)), (k3, .inl (kI G, 5, .inl Rt2))]) (As := [.ref k0]) (rest := []) hx hb hml hown hts hE hA hl.1 hP hD hS (c_X0_copyFrom l G h0 h1 h2 h3 Yr Dn Rt q k0 k1 k2 k3 Yr2 Dn2 Rt2 q2 ) (cw_X1_51 hts) ⟨(Nat.le_of_ble_eq_true rfl), (Nat.le_of_ble_eq_true rfl)⟩ ⟨(Nat.le_of_ble_eq_true rfl), (Nat.le_of_ble_eq_true rfl)⟩ rfl [7, 8, 9, 10, 18, 19, 20, 21] [0, 1, 2, 3, 4, 5, 6, 11, 12, 13, 14, 15, 16, 17] [0, 1, 2, 3, 4, 5, 6, 14, 15, 16, 17, 7, 8, 9, 10, 11, 12, 13, 18, 19, 20, 21] rfl rfl ⟨by decide, by decide, by decide, by decide⟩ rfl rfl rfl rfl rfl (Nat.le_of_ble_eq_true rfl) dX1_copyFrom_41 (fun H locs hP hD hS => ?_)
  show WC p l e _ s m _ below meth c G A _ H locs 0 0 (F0 m 44 ls [])
  exact ct_vret hx hb hr hlk dX1_copyFrom_44 hP hD hS (by first | exact ⟨rfl, rfl⟩ | (simp [one]; done))

set_option maxHeartbeats 4000000 in
set_option maxRecDepth 100000 in
theorem c_X8_size (l : Launch) (G : Gv) (u0 : Nat) (u1 : Nat) (u2 : Nat) (Sp : Nat → Int32) (Be : Nat → Int32) (sa : Int32) (un : Nat)  : Rd l yX8_size cX8_size 1 (some .int) (rmz 0 0) G [.ref u0] [(u0, .inr (8, [.ref u1, .ref u2, .int sa, .int (nI un)])), (u1, .inl (kI G, 8, .inl Sp)), (u2, .inl (kI G, 2048, .inl Be))] (.int (nI un)) := by
  refine Rd.ofW (by decide) (Nat.le_of_ble_eq_true rfl) ?_
  intro p e s m below meth c ls hx hb hml hr hown hts hlk hP hE hl
  have hl : lv_has ls 1 [(0, .ref u0)] := hl
  refine lv_aload_n hx hb dX8_size_0 rfl (lv_at hl 0 rfl) ?_
  refine va_get hx hb hts inlX8 hown hE.1 hP 0 rfl rfl 3 (by decide) (fl_X8_18 hts) (fun _ h9 => h9) rfl dX8_size_1 ?_
  exact rd_iret hx hb hr hlk dX8_size_4 (by first | rfl | (simp [zb]; done))

set_option maxHeartbeats 4000000 in
set_option maxRecDepth 100000 in
theorem c_X8_startAt (l : Launch) (G : Gv) (u0 : Nat) (u1 : Nat) (u2 : Nat) (Sp : Nat → Int32) (Be : Nat → Int32) (sa : Int32) (un : Nat) (x : Int32)  : Ct l yX8_startAt cX8_startAt 2 none (rmz 0 0) G [.ref u0, .int x] [(u0, .inr (8, [.ref u1, .ref u2, .int sa, .int (nI un)])), (u1, .inl (kI G, 8, .inl Sp)), (u2, .inl (kI G, 2048, .inl Be))] (one none [(u0, .inr (8, [.ref u1, .ref u2, .int x, .int 0])), (u1, .inl (kI G, 8, .inl Sp)), (u2, .inl (kI G, 2048, .inl Be))]) := by
  refine Ct.ofW (by decide) (Nat.le_of_ble_eq_true rfl) ?_
  intro p e s m below meth c ls A hx hb hml hr hown hts hlk hnm hP hD hA hE hS hl
  obtain ⟨H, eH⟩ : ∃ H : Heap, H = s.heap := ⟨_, rfl⟩
  obtain ⟨locs, eL⟩ : ∃ ll : List Loc, ll = [] := ⟨_, rfl⟩
  rw [← eH] at hP
  have hS : va_S A s.heap H locs := by rw [eH, eL]; exact hS
  show WC p l e _ s m _ below meth c G A _ s.heap [] 0 0 _
  rw [← eH, ← eL]
  clear eH eL
  have hl : lv_has ls 2 [(0, .ref u0), (1, .int x)] := hl
  refine lv_aload_n hx hb dX8_startAt_0 rfl (lv_at hl 0 rfl) ?_
  refine lv_iload_n hx hb dX8_startAt_1 rfl (lv_at hl 1 rfl) ?_
  refine va_put (v := .int x) (ty := .int) hx hb hts inlX8 tyX8 tyX8_ok nmX8 hown hE.1 hP hD hS 0 rfl rfl 2 (by decide) (fl_X8_22 hts) (fun _ h9 => h9) rfl (by decide +kernel) rfl rfl (Nat.le_of_ble_eq_true rfl) dX8_startAt_2 (fun H locs hP hD hS => ?_)
  have hP : va_P G.1 vwCl [(u0, .inr (8, [.ref u1, .ref u2, .int x, .int (nI un)])), (u1, .inl (kI G, 8, .inl Sp)), (u2, .inl (kI G, 2048, .inl Be))] H := hP
  have hD : va_D A [(u0, .inr (8, [.ref u1, .ref u2, .int x, .int (nI un)])), (u1, .inl (kI G, 8, .inl Sp)), (u2, .inl (kI G, 2048, .inl Be))] := hD
  refine lv_aload_n hx hb dX8_startAt_5 rfl (lv_at hl 0 rfl) ?_
  refine lv_iconst (v := 0) hx hb dX8_startAt_6 (by decide) ?_
  refine va_put (v := .int 0) (ty := .int) hx hb hts inlX8 tyX8 tyX8_ok nmX8 hown hE.1 hP hD hS 0 rfl rfl 3 (by decide) (fl_X8_18 hts) (fun _ h9 => h9) rfl (by decide +kernel) rfl rfl (Nat.le_of_ble_eq_true rfl) dX8_startAt_7 (fun H locs hP hD hS => ?_)
  have hP : va_P G.1 vwCl [(u0, .inr (8, [.ref u1, .ref u2, .int x, .int 0])), (u1, .inl (kI G, 8, .inl Sp)), (u2, .inl (kI G, 2048, .inl Be))] H := hP
  have hD : va_D A [(u0, .inr (8, [.ref u1, .ref u2, .int x, .int 0])), (u1, .inl (kI G, 8, .inl Sp)), (u2, .inl (kI G, 2048, .inl Be))] := hD
  exact ct_vret hx hb hr hlk dX8_startAt_10 hP hD hS (by first | exact ⟨rfl, rfl⟩ | (simp [one]; done))

set_option maxHeartbeats 4000000 in
set_option maxRecDepth 100000 in
theorem c_X8_addStop (l : Launch) (G : Gv) (u0 : Nat) (u1 : Nat) (u2 : Nat) (Sp : Nat → Int32) (Be : Nat → Int32) (sa : Int32) (un : Nat) (x : Int32) (hu8 : un < 8) : Ct l yX8_addStop cX8_addStop 2 (some .boolean) (rmz 0 0) G [.ref u0, .int x] [(u0, .inr (8, [.ref u1, .ref u2, .int sa, .int (nI un)])), (u1, .inl (kI G, 8, .inl Sp)), (u2, .inl (kI G, 2048, .inl Be))] (one (some (.int 1)) [(u0, .inr (8, [.ref u1, .ref u2, .int sa, .int (nI (un + 1))])), (u1, .inl (kI G, 8, .inl (upd Sp un x))), (u2, .inl (kI G, 2048, .inl Be))]) := by
  refine Ct.ofW (by decide) (Nat.le_of_ble_eq_true rfl) ?_
  intro p e s m below meth c ls A hx hb hml hr hown hts hlk hnm hP hD hA hE hS hl
  obtain ⟨H, eH⟩ : ∃ H : Heap, H = s.heap := ⟨_, rfl⟩
  obtain ⟨locs, eL⟩ : ∃ ll : List Loc, ll = [] := ⟨_, rfl⟩
  rw [← eH] at hP
  have hS : va_S A s.heap H locs := by rw [eH, eL]; exact hS
  show WC p l e _ s m _ below meth c G A _ s.heap [] 0 0 _
  rw [← eH, ← eL]
  clear eH eL
  have hl : lv_has ls 2 [(0, .ref u0), (1, .int x)] := hl
  refine lv_aload_n hx hb dX8_addStop_0 rfl (lv_at hl 0 rfl) ?_
  refine va_get hx hb hts inlX8 hown hE.1 hP 0 rfl rfl 3 (by decide) (fl_X8_18 hts) (fun _ h9 => h9) rfl dX8_addStop_1 ?_
  refine lv_bipush (v := 8) hx hb dX8_addStop_4 (by decide) ?_
  refine lv_icmp_lt (tgt := 11) hx hb dX8_addStop_6 (by decide) (fun c6 => ?_) (fun c6 => ?_)
  · refine lv_aload_n hx hb dX8_addStop_11 rfl (lv_at hl 0 rfl) ?_
    refine va_get hx hb hts inlX8 hown hE.1 hP 0 rfl rfl 0 (by decide) (fl_X8_9 hts) (fun _ h9 => h9) rfl dX8_addStop_12 ?_
    refine lv_aload_n hx hb dX8_addStop_15 rfl (lv_at hl 0 rfl) ?_
    refine va_get hx hb hts inlX8 hown hE.1 hP 0 rfl rfl 3 (by decide) (fl_X8_18 hts) (fun _ h9 => h9) rfl dX8_addStop_16 ?_
    refine lv_iload_n hx hb dX8_addStop_19 rfl (lv_at hl 1 rfl) ?_
    refine va_iast hx hb hE.1 hP hD hS 1 0 rfl rfl (vp_in_nI hu8 (by decide)) dX8_addStop_20 (fun H locs hP hD hS => ?_)
    have hP : va_P G.1 vwCl [(u0, .inr (8, [.ref u1, .ref u2, .int sa, .int (nI un)])), (u1, .inl (kI G, 8, .inl (upd Sp (nI un).toNatClampNeg x))), (u2, .inl (kI G, 2048, .inl Be))] H := hP
    have hD : va_D A [(u0, .inr (8, [.ref u1, .ref u2, .int sa, .int (nI un)])), (u1, .inl (kI G, 8, .inl (upd Sp (nI un).toNatClampNeg x))), (u2, .inl (kI G, 2048, .inl Be))] := hD
    refine lv_aload_n hx hb dX8_addStop_21 rfl (lv_at hl 0 rfl) ?_
    refine lv_dup hx hb dX8_addStop_22 rfl ?_
    refine va_get hx hb hts inlX8 hown hE.1 hP 0 rfl rfl 3 (by decide) (fl_X8_18 hts) (fun _ h9 => h9) rfl dX8_addStop_23 ?_
    refine lv_iconst (v := 1) hx hb dX8_addStop_26 (by decide) ?_
    refine lv_iadd hx hb dX8_addStop_27 ?_
    refine va_put (v := .int ((nI un) + 1)) (ty := .int) hx hb hts inlX8 tyX8 tyX8_ok nmX8 hown hE.1 hP hD hS 0 rfl rfl 3 (by decide) (fl_X8_18 hts) (fun _ h9 => h9) rfl (by decide +kernel) rfl rfl (Nat.le_of_ble_eq_true rfl) dX8_addStop_28 (fun H locs hP hD hS => ?_)
    have hP : va_P G.1 vwCl [(u0, .inr (8, [.ref u1, .ref u2, .int sa, .int ((nI un) + 1)])), (u1, .inl (kI G, 8, .inl (upd Sp (nI un).toNatClampNeg x))), (u2, .inl (kI G, 2048, .inl Be))] H := hP
    have hD : va_D A [(u0, .inr (8, [.ref u1, .ref u2, .int sa, .int ((nI un) + 1)])), (u1, .inl (kI G, 8, .inl (upd Sp (nI un).toNatClampNeg x))), (u2, .inl (kI G, 2048, .inl Be))] := hD
    refine lv_iconst (v := 1) hx hb dX8_addStop_31 (by decide) ?_
    exact ct_zret hx hb hr hlk dX8_addStop_32 rfl hP hD hS (by have e1 : (nI un).toNatClampNeg = un := nI_clamp (by omega); exact ⟨rfl, by simp only [e1, nI_1]⟩)
  · exact absurd (nI_lt (b := 8) hu8 (by decide)) c6

set_option maxHeartbeats 4000000 in
set_option maxRecDepth 100000 in
theorem c_X8_addStop_full (l : Launch) (G : Gv) (u0 : Nat) (u1 : Nat) (u2 : Nat) (Sp : Nat → Int32) (Be : Nat → Int32) (sa : Int32) (un : Nat) (x : Int32) (hu8 : un = 8) : Ct l yX8_addStop cX8_addStop 2 (some .boolean) (rmz 0 0) G [.ref u0, .int x] [(u0, .inr (8, [.ref u1, .ref u2, .int sa, .int (nI un)])), (u1, .inl (kI G, 8, .inl Sp)), (u2, .inl (kI G, 2048, .inl Be))] (one (some (.int 0)) [(u0, .inr (8, [.ref u1, .ref u2, .int sa, .int (nI un)])), (u1, .inl (kI G, 8, .inl Sp)), (u2, .inl (kI G, 2048, .inl Be))]) := by
  refine Ct.ofW (by decide) (Nat.le_of_ble_eq_true rfl) ?_
  intro p e s m below meth c ls A hx hb hml hr hown hts hlk hnm hP hD hA hE hS hl
  obtain ⟨H, eH⟩ : ∃ H : Heap, H = s.heap := ⟨_, rfl⟩
  obtain ⟨locs, eL⟩ : ∃ ll : List Loc, ll = [] := ⟨_, rfl⟩
  rw [← eH] at hP
  have hS : va_S A s.heap H locs := by rw [eH, eL]; exact hS
  show WC p l e _ s m _ below meth c G A _ s.heap [] 0 0 _
  rw [← eH, ← eL]
  clear eH eL
  have hl : lv_has ls 2 [(0, .ref u0), (1, .int x)] := hl
  refine lv_aload_n hx hb dX8_addStop_0 rfl (lv_at hl 0 rfl) ?_
  refine va_get hx hb hts inlX8 hown hE.1 hP 0 rfl rfl 3 (by decide) (fl_X8_18 hts) (fun _ h9 => h9) rfl dX8_addStop_1 ?_
  refine lv_bipush (v := 8) hx hb dX8_addStop_4 (by decide) ?_
  refine lv_icmp_lt (tgt := 11) hx hb dX8_addStop_6 (by decide) (fun c6 => ?_) (fun c6 => ?_)
  · exact absurd c6 (by rw [hu8]; decide)
  · refine lv_iconst (v := 0) hx hb dX8_addStop_9 (by decide) ?_
    exact ct_zret hx hb hr hlk dX8_addStop_10 rfl hP hD hS (by first | exact ⟨rfl, rfl⟩ | (simp [one, c6]; done))

set_option maxHeartbeats 4000000 in
set_option maxRecDepth 100000 in
theorem c_X8_shortestOn (l : Launch) (G : Gv) (u0 : Nat) (u1 : Nat) (u2 : Nat) (Sp : Nat → Int32) (Be : Nat → Int32) (sa : Int32) (un : Nat) (g0 : Nat) (nr : Nat) (nc : Nat) (gp : Nat) (x : Int32) (hg2 : 2 ≤ nc ∧ nc ≤ 8) (hun : un ≤ 8) (hgp : gp < 256) : Rd l yX8_shortestOn cX8_shortestOn 7 (some .int) (rmz 3 64) G [.ref u0, .ref g0, .int (nI gp), .int x] [(u0, .inr (8, [.ref u1, .ref u2, .int sa, .int (nI un)])), (u1, .inl (kI G, 8, .inl Sp)), (u2, .inl (kI G, 2048, .inl Be)), (g0, .inr (2, [.int (nI nr), .int (nI nc)]))] (.int (soA nc Sp Be gp x un)) := by
  refine Rd.ofW (by decide) (Nat.le_of_ble_eq_true rfl) ?_
  intro p e s m below meth c ls hx hb hml hr hown hts hlk hP hE hl
  have hl : lv_has ls 7 [(0, .ref u0), (1, .ref g0), (2, .int (nI gp)), (3, .int x)] := hl
  have J_7 : ∀ (n_ : Nat) (k : Nat) (acc : Int32) (hk : k ≤ un) (ha : acc = soA nc Sp Be gp x k) (hm_7 : un - k < n_), ∀ ls : Array Slot, lv_has ls 7 [(0, .ref u0), (1, .ref g0), (2, .int (nI gp)), (3, .int x), (4, .int acc), (5, .int (nI k))] → WR p l e (rmz 3 64) s m [.ref u0, .ref g0, .int (nI gp), .int x] below meth c (.int (soA nc Sp Be gp x un)) (F0 m 7 ls []) := by
    intro n_
    induction n_ with
    | zero =>
      intro k acc hk ha hm_7
      exact absurd hm_7 (Nat.not_lt_zero _)
    | succ n_ ih_7 =>
      intro k acc hk ha hm_7 ls hl
      refine lv_iload hx hb dX8_shortestOn_7 (lv_at hl 5 rfl) ?_
      refine lv_aload_n hx hb dX8_shortestOn_9 rfl (lv_at hl 0 rfl) ?_
      refine va_get hx hb hts inlX8 hown hE.1 hP 0 rfl rfl 3 (by decide) (fl_X8_18 hts) (fun _ h9 => h9) rfl dX8_shortestOn_10 ?_
      refine lv_icmp_ge (tgt := 68) hx hb dX8_shortestOn_13 (by decide) (fun c13 => ?_) (fun c13 => ?_)
      · have hkn : un ≤ k := le_of_le (by omega) (by omega) c13
        refine lv_iload hx hb dX8_shortestOn_68 (lv_at hl 4 rfl) ?_
        exact rd_iret hx hb hr hlk dX8_shortestOn_70 (by rw [ha, show k = un by omega])
      · have hkn : k < un := lt_of_nle (by omega) (by omega) c13
        refine lv_iload_n hx hb dX8_shortestOn_16 rfl (lv_at hl 2 rfl) ?_
        refine lv_iload hx hb dX8_shortestOn_17 (lv_at hl 5 rfl) ?_
        refine lv_ishr hx hb dX8_shortestOn_19 ?_
        refine lv_iconst (v := 1) hx hb dX8_shortestOn_20 (by decide) ?_
        refine lv_iand hx hb dX8_shortestOn_21 ?_
        refine lv_iconst (v := 1) hx hb dX8_shortestOn_22 (by decide) ?_
        refine lv_icmp_ne (tgt := 62) hx hb dX8_shortestOn_23 (by decide) (fun c23 => ?_) (fun c23 => ?_)
        · have c23 : gbt (nI gp) k = false := by simp [gbt, c23]
          refine lv_iinc (v := nI (k + 1)) (lv' := [(5, .int (nI (k + 1))), (0, .ref u0), (1, .ref g0), (2, .int (nI gp)), (3, .int x), (4, .int acc)]) hx hb dX8_shortestOn_62 hl (k := 5) rfl (nI_1 k) (by decide) rfl (fun ls hl => ?_)
          refine lv_goto (tgt := 7) hx hb dX8_shortestOn_65 (by decide) ?_
          have ha0 := ha
          rw [soA] at ha0
          exact ih_7 (k + 1) acc (by first | assumption | omega | rfl) (by rw [soA, it_s]; simp only [← ha0]; simp [c13, c23]) (by omega) ls (lv_sub hl [1, 2, 3, 4, 5, 0] rfl)
        · have c23 : gbt (nI gp) k = true := by simp [gbt, c23]
          refine lv_aload_n hx hb dX8_shortestOn_26 rfl (lv_at hl 0 rfl) ?_
          refine va_get hx hb hts inlX8 hown hE.1 hP 0 rfl rfl 1 (by decide) (fl_X8_15 hts) (fun _ h9 => h9) rfl dX8_shortestOn_27 ?_
          refine lv_iload_n hx hb dX8_shortestOn_30 rfl (lv_at hl 2 rfl) ?_
          refine lv_bipush (v := 8) hx hb dX8_shortestOn_31 (by decide) ?_
          refine lv_imul hx hb dX8_shortestOn_33 ?_
          refine lv_iload hx hb dX8_shortestOn_34 (lv_at hl 5 rfl) ?_
          refine lv_iadd hx hb dX8_shortestOn_36 ?_
          rw [g8 gp k]
          refine va_iald hx hb hE.1 hP 2 0 rfl rfl (vp_in_nI (by omega) (by omega)) dX8_shortestOn_37 ?_
          rw [nI_clamp (show gp * 8 + k < 2 ^ 31 by omega)]
          refine lv_aload_n hx hb dX8_shortestOn_38 rfl (lv_at hl 1 rfl) ?_
          refine lv_aload_n hx hb dX8_shortestOn_39 rfl (lv_at hl 0 rfl) ?_
          refine va_get hx hb hts inlX8 hown hE.1 hP 0 rfl rfl 0 (by decide) (fl_X8_9 hts) (fun _ h9 => h9) rfl dX8_shortestOn_40 ?_
          refine lv_iload hx hb dX8_shortestOn_43 (lv_at hl 5 rfl) ?_
          refine va_iald hx hb hE.1 hP 1 0 rfl rfl (vp_in_nI (by omega) (by omega)) dX8_shortestOn_45 ?_
          rw [nI_clamp (show k < 2 ^ 31 by omega)]
          refine lv_iload_n hx hb dX8_shortestOn_46 rfl (lv_at hl 3 rfl) ?_
          refine rd_callV (As := [.int (Sp k), .int x]) (rest := [.int (Be (gp * 8 + k))]) hx hb hml hown hts hE hl.1 (c_X2_apart l G g0 nr nc (Sp k) x (by first | assumption | omega)) (cw_X8_32 hts) ⟨(Nat.le_of_ble_eq_true rfl), (Nat.le_of_ble_eq_true rfl)⟩ ⟨Nat.zero_le _, Nat.zero_le _⟩ rfl (sub_P hP [3] rfl) rfl rfl rfl rfl (Nat.le_of_ble_eq_true rfl) dX8_shortestOn_47 ?_
          refine lv_iadd hx hb dX8_shortestOn_50 ?_
          refine lv_istore (lv' := [(6, .int ((Be (gp * 8 + k)) + (apI nc (Sp k) x))), (0, .ref u0), (1, .ref g0), (2, .int (nI gp)), (3, .int x), (4, .int acc), (5, .int (nI k))]) hx hb dX8_shortestOn_51 hl (by decide) rfl (fun ls hl => ?_)
          refine lv_iload hx hb dX8_shortestOn_53 (lv_at hl 5 rfl) ?_
          refine lv_iload hx hb dX8_shortestOn_55 (lv_at hl 0 rfl) ?_
          refine va_mmin hx hb (hml.trans hl.1.symm) hown (ml_X8_39 hts) (st_Lib_Math_min_name hts) (in__java_lang_Math_ hts) (cd_Lib_min_name hts) (Nat.le_of_ble_eq_true rfl) (Nat.le_of_ble_eq_true rfl) (Nat.zero_le _) (Nat.zero_le _) dX8_shortestOn_57 ?_
          refine lv_istore (lv' := [(4, .int (if ((Be (gp * 8 + k)) + (apI nc (Sp k) x)) < acc then ((Be (gp * 8 + k)) + (apI nc (Sp k) x)) else acc)), (6, .int ((Be (gp * 8 + k)) + (apI nc (Sp k) x))), (0, .ref u0), (1, .ref g0), (2, .int (nI gp)), (3, .int x), (5, .int (nI k))]) hx hb dX8_shortestOn_60 hl (by decide) rfl (fun ls hl => ?_)
          refine lv_iinc (v := nI (k + 1)) (lv' := [(5, .int (nI (k + 1))), (4, .int (if ((Be (gp * 8 + k)) + (apI nc (Sp k) x)) < acc then ((Be (gp * 8 + k)) + (apI nc (Sp k) x)) else acc)), (6, .int ((Be (gp * 8 + k)) + (apI nc (Sp k) x))), (0, .ref u0), (1, .ref g0), (2, .int (nI gp)), (3, .int x)]) hx hb dX8_shortestOn_62 hl (k := 6) rfl (nI_1 k) (by decide) rfl (fun ls hl => ?_)
          refine lv_goto (tgt := 7) hx hb dX8_shortestOn_65 (by decide) ?_
          have ha0 := ha
          rw [soA] at ha0
          exact ih_7 (k + 1) (if ((Be (gp * 8 + k)) + (apI nc (Sp k) x)) < acc then ((Be (gp * 8 + k)) + (apI nc (Sp k) x)) else acc) (by first | assumption | omega | rfl) (by rw [soA, it_s]; simp only [← ha0]; simp [c13, c23]) (by omega) ls (lv_sub hl [3, 4, 5, 6, 1, 0] rfl)
  refine lv_ldc hx hb hown (cn_X8_38 hts) dX8_shortestOn_0 ?_
  refine lv_istore (lv' := [(4, .int 1000000), (0, .ref u0), (1, .ref g0), (2, .int (nI gp)), (3, .int x)]) hx hb dX8_shortestOn_2 hl (by decide) rfl (fun ls hl => ?_)
  refine lv_iconst (v := 0) hx hb dX8_shortestOn_4 (by decide) ?_
  refine lv_istore (lv' := [(5, .int 0), (4, .int 1000000), (0, .ref u0), (1, .ref g0), (2, .int (nI gp)), (3, .int x)]) hx hb dX8_shortestOn_5 hl (by decide) rfl (fun ls hl => ?_)
  exact J_7 (un - 0 + 1) 0 1000000 (by first | assumption | omega | rfl) rfl (Nat.lt_succ_self _) ls (lv_sub hl [2, 3, 4, 5, 1, 0] rfl)

set_option maxHeartbeats 4000000 in
set_option maxRecDepth 100000 in
theorem c_X8_shortestThrough (l : Launch) (G : Gv) (u0 : Nat) (u1 : Nat) (u2 : Nat) (Sp : Nat → Int32) (Be : Nat → Int32) (sa : Int32) (un : Nat) (g0 : Nat) (nr : Nat) (nc : Nat) (gp : Nat) (k : Nat) (hg2 : 2 ≤ nc ∧ nc ≤ 8) (hun : un ≤ 8) (hgp : gp < 256) (hk8 : k < 8) : Rd l yX8_shortestThrough cX8_shortestThrough 5 (some .int) (rmz 4 90) G [.ref u0, .ref g0, .int (nI gp), .int (nI k)] [(u0, .inr (8, [.ref u1, .ref u2, .int sa, .int (nI un)])), (u1, .inl (kI G, 8, .inl Sp)), (u2, .inl (kI G, 2048, .inl Be)), (g0, .inr (2, [.int (nI nr), .int (nI nc)]))] (.int (stA nc Sp Be sa un gp k)) := by
  refine Rd.ofW (by decide) (Nat.le_of_ble_eq_true rfl) ?_
  intro p e s m below meth c ls hx hb hml hr hown hts hlk hP hE hl
  have hl : lv_has ls 5 [(0, .ref u0), (1, .ref g0), (2, .int (nI gp)), (3, .int (nI k))] := hl
  have hot := oth_all gp hgp k hk8
  refine lv_iload_n hx hb dX8_shortestThrough_0 rfl (lv_at hl 2 rfl) ?_
  refine lv_iconst (v := 1) hx hb dX8_shortestThrough_1 (by decide) ?_
  refine lv_iload_n hx hb dX8_shortestThrough_2 rfl (lv_at hl 3 rfl) ?_
  refine lv_ishl hx hb dX8_shortestThrough_3 ?_
  refine lv_iconst (v := -1) hx hb dX8_shortestThrough_4 (by decide) ?_
  refine lv_ixor hx hb dX8_shortestThrough_5 ?_
  refine lv_iand hx hb dX8_shortestThrough_6 ?_
  rw [hot.1]
  refine lv_istore (lv' := [(4, .int (nI (oth gp k))), (0, .ref u0), (1, .ref g0), (2, .int (nI gp)), (3, .int (nI k))]) hx hb dX8_shortestThrough_7 hl (by decide) rfl (fun ls hl => ?_)
  refine lv_iload hx hb dX8_shortestThrough_9 (lv_at hl 0 rfl) ?_
  refine lv_if_ne (tgt := 31) hx hb dX8_shortestThrough_11 (by decide) (fun c11 => ?_) (fun c11 => ?_)
  · have c11 : ¬ oth gp k = 0 := fun z => c11 (by rw [z]; rfl)
    refine lv_aload_n hx hb dX8_shortestThrough_31 rfl (lv_at hl 1 rfl) ?_
    refine lv_aload_n hx hb dX8_shortestThrough_32 rfl (lv_at hl 2 rfl) ?_
    refine lv_iload hx hb dX8_shortestThrough_33 (lv_at hl 0 rfl) ?_
    refine lv_aload_n hx hb dX8_shortestThrough_35 rfl (lv_at hl 1 rfl) ?_
    refine va_get hx hb hts inlX8 hown hE.1 hP 0 rfl rfl 0 (by decide) (fl_X8_9 hts) (fun _ h9 => h9) rfl dX8_shortestThrough_36 ?_
    refine lv_iload_n hx hb dX8_shortestThrough_39 rfl (lv_at hl 4 rfl) ?_
    refine va_iald hx hb hE.1 hP 1 0 rfl rfl (vp_in_nI (by omega) (by omega)) dX8_shortestThrough_40 ?_
    rw [nI_clamp (show k < 2 ^ 31 by omega)]
    refine rd_callV (As := [.ref g0, .int (nI (oth gp k)), .int (Sp k)]) (rest := []) hx hb hml hown hts hE hl.1 (c_X8_shortestOn l G u0 u1 u2 Sp Be sa un g0 nr nc (oth gp k) (Sp k) (by first | assumption | omega) (by first | assumption | omega) (by first | assumption | omega)) (cw_X8_29 hts) ⟨(Nat.le_of_ble_eq_true rfl), (Nat.le_of_ble_eq_true rfl)⟩ ⟨Nat.zero_le _, Nat.zero_le _⟩ rfl (sub_P hP [0, 1, 2, 3] rfl) rfl rfl rfl rfl (Nat.le_of_ble_eq_true rfl) dX8_shortestThrough_41 ?_
    exact rd_iret hx hb hr hlk dX8_shortestThrough_44 (by first | rfl | (simp [zb, c11, stA]; done))
  · have c11 : oth gp k = 0 := (nI_eq (a := oth gp k) (b := 0) (by omega) (by decide)).mp c11
    refine lv_aload_n hx hb dX8_shortestThrough_14 rfl (lv_at hl 2 rfl) ?_
    refine lv_aload_n hx hb dX8_shortestThrough_15 rfl (lv_at hl 1 rfl) ?_
    refine va_get hx hb hts inlX8 hown hE.1 hP 0 rfl rfl 2 (by decide) (fl_X8_22 hts) (fun _ h9 => h9) rfl dX8_shortestThrough_16 ?_
    refine lv_aload_n hx hb dX8_shortestThrough_19 rfl (lv_at hl 1 rfl) ?_
    refine va_get hx hb hts inlX8 hown hE.1 hP 0 rfl rfl 0 (by decide) (fl_X8_9 hts) (fun _ h9 => h9) rfl dX8_shortestThrough_20 ?_
    refine lv_iload_n hx hb dX8_shortestThrough_23 rfl (lv_at hl 4 rfl) ?_
    refine va_iald hx hb hE.1 hP 1 0 rfl rfl (vp_in_nI (by omega) (by omega)) dX8_shortestThrough_24 ?_
    rw [nI_clamp (show k < 2 ^ 31 by omega)]
    refine rd_callV (As := [.int sa, .int (Sp k)]) (rest := []) hx hb hml hown hts hE hl.1 (c_X2_apart l G g0 nr nc sa (Sp k) (by first | assumption | omega)) (cw_X8_32 hts) ⟨(Nat.le_of_ble_eq_true rfl), (Nat.le_of_ble_eq_true rfl)⟩ ⟨Nat.zero_le _, Nat.zero_le _⟩ rfl (sub_P hP [3] rfl) rfl rfl rfl rfl (Nat.le_of_ble_eq_true rfl) dX8_shortestThrough_25 ?_
    refine lv_goto (tgt := 44) hx hb dX8_shortestThrough_28 (by decide) ?_
    exact rd_iret hx hb hr hlk dX8_shortestThrough_44 (by first | rfl | (simp [zb, c11, stA]; done))

set_option maxHeartbeats 4000000 in
set_option maxRecDepth 100000 in
theorem c_X8_shortest (l : Launch) (G : Gv) (u0 : Nat) (u1 : Nat) (u2 : Nat) (Sp : Nat → Int32) (Be : Nat → Int32) (sa : Int32) (un : Nat) (g0 : Nat) (nr : Nat) (nc : Nat) (hg2 : 2 ≤ nc ∧ nc ≤ 8) (hun : un ≤ 8) : Ct l yX8_shortest cX8_shortest 5 (some .int) (rmz 5 114) G [.ref u0, .ref g0] [(u0, .inr (8, [.ref u1, .ref u2, .int sa, .int (nI un)])), (u1, .inl (kI G, 8, .inl Sp)), (u2, .inl (kI G, 2048, .inl Be)), (g0, .inr (2, [.int (nI nr), .int (nI nc)]))] (one (some (.int (soA nc Sp (shO nc Sp sa un Be (2 ^ un - 1)) (2 ^ un - 1) sa un))) [(u0, .inr (8, [.ref u1, .ref u2, .int sa, .int (nI un)])), (u1, .inl (kI G, 8, .inl Sp)), (u2, .inl (kI G, 2048, .inl (shO nc Sp sa un Be (2 ^ un - 1)))), (g0, .inr (2, [.int (nI nr), .int (nI nc)]))]) := by
  refine Ct.ofW (by decide) (Nat.le_of_ble_eq_true rfl) ?_
  intro p e s m below meth c ls A hx hb hml hr hown hts hlk hnm hP hD hA hE hS hl
  obtain ⟨H, eH⟩ : ∃ H : Heap, H = s.heap := ⟨_, rfl⟩
  obtain ⟨locs, eL⟩ : ∃ ll : List Loc, ll = [] := ⟨_, rfl⟩
  rw [← eH] at hP
  have hS : va_S A s.heap H locs := by rw [eH, eL]; exact hS
  show WC p l e _ s m _ below meth c G A _ s.heap [] 0 0 _
  rw [← eH, ← eL]
  clear eH eL
  have hl : lv_has ls 5 [(0, .ref u0), (1, .ref g0)] := hl
  have hp2 := p2_le hun
  have hp1 : 0 < 2 ^ un := Nat.pow_pos (by decide)
  have J_11 : ∀ (n_ : Nat) (g : Nat) (B1 : Nat → Int32) (hg1 : 1 ≤ g) (hgl : g ≤ 2 ^ un) (hB : B1 = shO nc Sp sa un Be (g - 1)) (hm_11 : 2 ^ un - g < n_), ∀ (H : Heap) (locs : List Loc), va_P G.1 vwCl [(u0, .inr (8, [.ref u1, .ref u2, .int sa, .int (nI un)])), (u1, .inl (kI G, 8, .inl Sp)), (u2, .inl (kI G, 2048, .inl B1)), (g0, .inr (2, [.int (nI nr), .int (nI nc)]))] H → va_D A [(u0, .inr (8, [.ref u1, .ref u2, .int sa, .int (nI un)])), (u1, .inl (kI G, 8, .inl Sp)), (u2, .inl (kI G, 2048, .inl B1)), (g0, .inr (2, [.int (nI nr), .int (nI nc)]))] → va_S A s.heap H locs → ∀ ls : Array Slot, lv_has ls 5 [(0, .ref u0), (1, .ref g0), (2, .int (nI (2 ^ un - 1))), (3, .int (nI g))] → WC p l e (rmz 5 114) s m [.ref u0, .ref g0] below meth c G A (one (some (.int (soA nc Sp (shO nc Sp sa un Be (2 ^ un - 1)) (2 ^ un - 1) sa un))) [(u0, .inr (8, [.ref u1, .ref u2, .int sa, .int (nI un)])), (u1, .inl (kI G, 8, .inl Sp)), (u2, .inl (kI G, 2048, .inl (shO nc Sp sa un Be (2 ^ un - 1)))), (g0, .inr (2, [.int (nI nr), .int (nI nc)]))]) H locs 0 0 (F0 m 11 ls []) := by
    intro n_
    induction n_ with
    | zero =>
      intro g B1 hg1 hgl hB hm_11
      exact absurd hm_11 (Nat.not_lt_zero _)
    | succ n_ ih_11 =>
      intro g B1 hg1 hgl hB hm_11 H locs hP hD hS ls hl
      have J_19 : ∀ (n_ : Nat) (k : Nat) (B2 : Nat → Int32) (hgu : g < 2 ^ un) (hk : k ≤ un) (hB2 : B2 = shI nc Sp sa un g B1 k) (hm_19 : un - k < n_), ∀ (H : Heap) (locs : List Loc), va_P G.1 vwCl [(u0, .inr (8, [.ref u1, .ref u2, .int sa, .int (nI un)])), (u1, .inl (kI G, 8, .inl Sp)), (u2, .inl (kI G, 2048, .inl B2)), (g0, .inr (2, [.int (nI nr), .int (nI nc)]))] H → va_D A [(u0, .inr (8, [.ref u1, .ref u2, .int sa, .int (nI un)])), (u1, .inl (kI G, 8, .inl Sp)), (u2, .inl (kI G, 2048, .inl B2)), (g0, .inr (2, [.int (nI nr), .int (nI nc)]))] → va_S A s.heap H locs → ∀ ls : Array Slot, lv_has ls 5 [(0, .ref u0), (1, .ref g0), (2, .int (nI (2 ^ un - 1))), (3, .int (nI g)), (4, .int (nI k))] → WC p l e (rmz 5 114) s m [.ref u0, .ref g0] below meth c G A (one (some (.int (soA nc Sp (shO nc Sp sa un Be (2 ^ un - 1)) (2 ^ un - 1) sa un))) [(u0, .inr (8, [.ref u1, .ref u2, .int sa, .int (nI un)])), (u1, .inl (kI G, 8, .inl Sp)), (u2, .inl (kI G, 2048, .inl (shO nc Sp sa un Be (2 ^ un - 1)))), (g0, .inr (2, [.int (nI nr), .int (nI nc)]))]) H locs 0 0 (F0 m 19 ls []) := by
        intro n_
        induction n_ with
        | zero =>
          intro k B2 hgu hk hB2 hm_19
          exact absurd hm_19 (Nat.not_lt_zero _)
        | succ n_ ih_19 =>
          intro k B2 hgu hk hB2 hm_19 H locs hP hD hS ls hl
          refine lv_iload hx hb dX8_shortest_19 (lv_at hl 4 rfl) ?_
          refine lv_aload_n hx hb dX8_shortest_21 rfl (lv_at hl 0 rfl) ?_
          refine va_get hx hb hts inlX8 hown hE.1 hP 0 rfl rfl 3 (by decide) (fl_X8_18 hts) (fun _ h9 => h9) rfl dX8_shortest_22 ?_
          refine lv_icmp_ge (tgt := 64) hx hb dX8_shortest_25 (by decide) (fun c25 => ?_) (fun c25 => ?_)
          · have hkn : un ≤ k := le_of_le (by omega) (by omega) c25
            refine lv_iinc (v := nI (g + 1)) (lv' := [(3, .int (nI (g + 1))), (0, .ref u0), (1, .ref g0), (2, .int (nI (2 ^ un - 1))), (4, .int (nI k))]) hx hb dX8_shortest_64 hl (k := 3) rfl (nI_1 g) (by decide) rfl (fun ls hl => ?_)
            refine lv_goto (tgt := 11) hx hb dX8_shortest_67 (by decide) ?_
            exact ih_11 (g + 1) B2 (by first | assumption | omega | rfl) (by first | assumption | omega | rfl) (by rw [show g + 1 - 1 = (g - 1) + 1 by omega, shO, it_s, ← shO, ← hB, show g - 1 + 1 = g by omega, hB2, show k = un by omega]) (by omega) _ _ hP hD hS ls (lv_sub hl [1, 2, 3, 0] rfl)
          · have hkn : k < un := lt_of_nle (by omega) (by omega) c25
            refine lv_iload_n hx hb dX8_shortest_28 rfl (lv_at hl 3 rfl) ?_
            refine lv_iload hx hb dX8_shortest_29 (lv_at hl 4 rfl) ?_
            refine lv_ishr hx hb dX8_shortest_31 ?_
            refine lv_iconst (v := 1) hx hb dX8_shortest_32 (by decide) ?_
            refine lv_iand hx hb dX8_shortest_33 ?_
            refine lv_iconst (v := 1) hx hb dX8_shortest_34 (by decide) ?_
            refine lv_icmp_ne (tgt := 58) hx hb dX8_shortest_35 (by decide) (fun c35 => ?_) (fun c35 => ?_)
            · have c35 : gbt (nI g) k = false := by simp [gbt, c35]
              refine lv_iinc (v := nI (k + 1)) (lv' := [(4, .int (nI (k + 1))), (0, .ref u0), (1, .ref g0), (2, .int (nI (2 ^ un - 1))), (3, .int (nI g))]) hx hb dX8_shortest_58 hl (k := 4) rfl (nI_1 k) (by decide) rfl (fun ls hl => ?_)
              refine lv_goto (tgt := 19) hx hb dX8_shortest_61 (by decide) ?_
              have hB0 := hB2
              rw [shI] at hB0
              exact ih_19 (k + 1) B2 (by first | assumption | omega | rfl) (by first | assumption | omega | rfl) (by rw [shI, it_s]; simp only [← hB0]; simp [c25, c35, nI_clamp (show g * 8 + k < 2 ^ 31 by omega)]) (by omega) _ _ hP hD hS ls (lv_sub hl [1, 2, 3, 4, 0] rfl)
            · have c35 : gbt (nI g) k = true := by simp [gbt, c35]
              refine lv_aload_n hx hb dX8_shortest_38 rfl (lv_at hl 0 rfl) ?_
              refine va_get hx hb hts inlX8 hown hE.1 hP 0 rfl rfl 1 (by decide) (fl_X8_15 hts) (fun _ h9 => h9) rfl dX8_shortest_39 ?_
              refine lv_iload_n hx hb dX8_shortest_42 rfl (lv_at hl 3 rfl) ?_
              refine lv_bipush (v := 8) hx hb dX8_shortest_43 (by decide) ?_
              refine lv_imul hx hb dX8_shortest_45 ?_
              refine lv_iload hx hb dX8_shortest_46 (lv_at hl 4 rfl) ?_
              refine lv_iadd hx hb dX8_shortest_48 ?_
              rw [g8 g k]
              refine lv_aload_n hx hb dX8_shortest_49 rfl (lv_at hl 0 rfl) ?_
              refine lv_aload_n hx hb dX8_shortest_50 rfl (lv_at hl 1 rfl) ?_
              refine lv_iload_n hx hb dX8_shortest_51 rfl (lv_at hl 3 rfl) ?_
              refine lv_iload hx hb dX8_shortest_52 (lv_at hl 4 rfl) ?_
              refine rd_callV (As := [.ref g0, .int (nI g), .int (nI k)]) (rest := [.int (nI (g * 8 + k)), .ref u2]) hx hb hml hown hts (hE.at0 hS) hl.1 (c_X8_shortestThrough l G u0 u1 u2 Sp B2 sa un g0 nr nc g k (by first | assumption | omega) (by first | assumption | omega) (by first | assumption | omega) (by first | assumption | omega)) (cw_X8_25 hts) ⟨(Nat.le_of_ble_eq_true rfl), (Nat.le_of_ble_eq_true rfl)⟩ ⟨Nat.zero_le _, Nat.zero_le _⟩ rfl (sub_P hP [0, 1, 2, 3] rfl) rfl rfl rfl rfl (Nat.le_of_ble_eq_true rfl) dX8_shortest_54 ?_
              refine va_iast hx hb hE.1 hP hD hS 2 0 rfl rfl (vp_in_nI (by omega) (by omega)) dX8_shortest_57 (fun H locs hP hD hS => ?_)
              have hP : va_P G.1 vwCl [(u0, .inr (8, [.ref u1, .ref u2, .int sa, .int (nI un)])), (u1, .inl (kI G, 8, .inl Sp)), (u2, .inl (kI G, 2048, .inl (upd B2 (nI (g * 8 + k)).toNatClampNeg (stA nc Sp B2 sa un g k)))), (g0, .inr (2, [.int (nI nr), .int (nI nc)]))] H := hP
              have hD : va_D A [(u0, .inr (8, [.ref u1, .ref u2, .int sa, .int (nI un)])), (u1, .inl (kI G, 8, .inl Sp)), (u2, .inl (kI G, 2048, .inl (upd B2 (nI (g * 8 + k)).toNatClampNeg (stA nc Sp B2 sa un g k)))), (g0, .inr (2, [.int (nI nr), .int (nI nc)]))] := hD
              refine lv_iinc (v := nI (k + 1)) (lv' := [(4, .int (nI (k + 1))), (0, .ref u0), (1, .ref g0), (2, .int (nI (2 ^ un - 1))), (3, .int (nI g))]) hx hb dX8_shortest_58 hl (k := 4) rfl (nI_1 k) (by decide) rfl (fun ls hl => ?_)
              refine lv_goto (tgt := 19) hx hb dX8_shortest_61 (by decide) ?_
              have hB0 := hB2
              rw [shI] at hB0
              exact ih_19 (k + 1) (upd B2 (nI (g * 8 + k)).toNatClampNeg (stA nc Sp B2 sa un g k)) (by first | assumption | omega | rfl) (by first | assumption | omega | rfl) (by rw [shI, it_s]; simp only [← hB0]; simp [c25, c35, nI_clamp (show g * 8 + k < 2 ^ 31 by omega)]) (by omega) _ _ hP hD hS ls (lv_sub hl [1, 2, 3, 4, 0] rfl)
      refine lv_iload_n hx hb dX8_shortest_11 rfl (lv_at hl 3 rfl) ?_
      refine lv_iload_n hx hb dX8_shortest_12 rfl (lv_at hl 2 rfl) ?_
      refine lv_icmp_gt (tgt := 70) hx hb dX8_shortest_13 (by decide) (fun c13 => ?_) (fun c13 => ?_)
      · have hgx : 2 ^ un ≤ g := by have := gt_of_nI (by omega) (by omega) c13; omega
        have hgz : B1 = shO nc Sp sa un Be (2 ^ un - 1) := by rw [hB, show g = 2 ^ un by omega]
        refine lv_aload_n hx hb dX8_shortest_70 rfl (lv_at hl 0 rfl) ?_
        refine lv_aload_n hx hb dX8_shortest_71 rfl (lv_at hl 1 rfl) ?_
        refine lv_iload_n hx hb dX8_shortest_72 rfl (lv_at hl 2 rfl) ?_
        refine lv_aload_n hx hb dX8_shortest_73 rfl (lv_at hl 0 rfl) ?_
        refine va_get hx hb hts inlX8 hown hE.1 hP 0 rfl rfl 2 (by decide) (fl_X8_22 hts) (fun _ h9 => h9) rfl dX8_shortest_74 ?_
        refine rd_callV (As := [.ref g0, .int (nI (2 ^ un - 1)), .int sa]) (rest := []) hx hb hml hown hts (hE.at0 hS) hl.1 (c_X8_shortestOn l G u0 u1 u2 Sp B1 sa un g0 nr nc (2 ^ un - 1) sa (by first | assumption | omega) (by first | assumption | omega) (by first | assumption | omega)) (cw_X8_29 hts) ⟨(Nat.le_of_ble_eq_true rfl), (Nat.le_of_ble_eq_true rfl)⟩ ⟨Nat.zero_le _, Nat.zero_le _⟩ rfl (sub_P hP [0, 1, 2, 3] rfl) rfl rfl rfl rfl (Nat.le_of_ble_eq_true rfl) dX8_shortest_77 ?_
        exact ct_iret hx hb hr hlk dX8_shortest_80 hP hD hS (by exact ⟨by rw [hgz], by rw [hgz]⟩)
      · have hgu : g < 2 ^ un := by have := ngt_of_nI (by omega) (by omega) c13; omega
        refine lv_iconst (v := 0) hx hb dX8_shortest_16 (by decide) ?_
        refine lv_istore (lv' := [(4, .int 0), (0, .ref u0), (1, .ref g0), (2, .int (nI (2 ^ un - 1))), (3, .int (nI g))]) hx hb dX8_shortest_17 hl (by decide) rfl (fun ls hl => ?_)
        exact J_19 (un - 0 + 1) 0 B1 (by first | assumption | omega | rfl) (by first | assumption | omega | rfl) rfl (Nat.lt_succ_self _) _ _ hP hD hS ls (lv_sub hl [1, 2, 3, 4, 0] rfl)
  refine lv_iconst (v := 1) hx hb dX8_shortest_0 (by decide) ?_
  refine lv_aload_n hx hb dX8_shortest_1 rfl (lv_at hl 0 rfl) ?_
  refine va_get hx hb hts inlX8 hown hE.1 hP 0 rfl rfl 3 (by decide) (fl_X8_18 hts) (fun _ h9 => h9) rfl dX8_shortest_2 ?_
  refine lv_ishl hx hb dX8_shortest_5 ?_
  refine lv_iconst (v := 1) hx hb dX8_shortest_6 (by decide) ?_
  refine lv_isub hx hb dX8_shortest_7 ?_
  rw [all_all un (by omega)]
  refine lv_istore_n (lv' := [(2, .int (nI (2 ^ un - 1))), (0, .ref u0), (1, .ref g0)]) hx hb dX8_shortest_8 rfl hl (by decide) rfl (fun ls hl => ?_)
  refine lv_iconst (v := 1) hx hb dX8_shortest_9 (by decide) ?_
  refine lv_istore_n (lv' := [(3, .int 1), (2, .int (nI (2 ^ un - 1))), (0, .ref u0), (1, .ref g0)]) hx hb dX8_shortest_10 rfl hl (by decide) rfl (fun ls hl => ?_)
  exact J_11 (2 ^ un - 1 + 1) 1 Be (by first | assumption | omega | rfl) (by first | assumption | omega | rfl) rfl (Nat.lt_succ_self _) _ _ hP hD hS ls (lv_sub hl [2, 3, 1, 0] rfl)
