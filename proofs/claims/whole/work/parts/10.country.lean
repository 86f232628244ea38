/-! Country -/
def plI (nr nc n : Nat) (C K : Nat → Int32) (t : Int32) : Int32 := if atI n K t = 2 then (if shf nr nc (atI n C t) 0 1 = -1 then atI n C t else shf nr nc (atI n C t) 0 1) else atI n C t
def plB (nr nc : Nat) (C K : Nat → Int32) (k : Nat) : Int32 := if K k = 2 then (if shf nr nc (C k) 0 1 = -1 then C k else shf nr nc (C k) 0 1) else C k
theorem plI_nI {nr nc n k : Nat} {C K : Nat → Int32} (hk : k < n) (hn : n ≤ 1000) : plI nr nc n C K (nI k) = plB nr nc C K k := by
  rw [plI, atI_nI hk hn, atI_nI hk hn]; rfl
def cbB (B F K : Nat → Int32) (y : Int32) (k : Nat) : Bool := stB B F y k && !decide (K k = 1)
theorem cbI_nI {n k : Nat} {B F K : Nat → Int32} {y : Int32} (hk : k < n) (hn : n ≤ 1000) : cbI n B F K y (nI k) = cbB B F K y k := by
  rw [cbI, stI_nI hk hn, atI_nI hk hn]; rfl
def drC (nr nc : Nat) (C F K : Nat → Int32) (w : Int32) (n : Nat) : Int64 := it (fun k a => if loB F w k && !decide (K k = 3) then a ||| bt (plB nr nc C K k) else a) 0 n
def buC (nr nc : Nat) (C B F K : Nat → Int32) (y : Int32) (n : Nat) : Int64 := it (fun k a => if cbB B F K y k && !decide (K k = 3) then a ||| bt (plB nr nc C K k) else a) 0 n
def swC (nr nc : Nat) (C F K : Nat → Int32) (n : Nat) (Yr Dn Rt : Nat → Int32) (q : Nat) (t : Int32) : Int64 := shA nr nc (drC nr nc C F K (atI q Yr t) n) (atI q Dn t - 2) (atI q Rt t - 2) (nr * nc)
def ymI (n : Nat) (F K : Nat → Int32) (Yr : Nat → Int32) (t : Int32) (q : Nat) : Int32 := it (fun j a => if atI n K t = 3 then a else if loI n F t (Yr j) then (if Yr j < a then Yr j else a) else a) 1000 q
def tgA (n : Nat) (F K : Nat → Int32) (Yr : Nat → Int32) (q : Nat) (mp : Int32) (k : Nat) : Int32 := it (fun u a => a + (if ymI n F K Yr (nI u) q = mp then 1 else 0)) 1 k
def orA (n : Nat) (F K : Nat → Int32) (Yr : Nat → Int32) (q k : Nat) : Int32 := it (fun j a => if ymI n F K Yr (nI j) q = 1000 then a else a * tgA n F K Yr q (ymI n F K Yr (nI j) q) j) 1 k
/-! Paths -/
def atF (X : Nat → Int32) (x : Int32) : Int32 := if inB x 64 then X (ix x) else 1000000
theorem upd2 (f : Nat → Int32) (k : Nat) (a b : Int32) : upd (upd f k a) k b = upd f k b := by
  funext j
  by_cases h : j = k <;> simp [upd, h]
theorem atF_in {X : Nat → Int32} {x : Int32} (h : ¬ atF X x = 1000000) : inB x 64 = true := by
  cases hb : inB x 64 with
  | true => rfl
  | false => exact absurd (by simp [atF, hb]) h
def prF (w1 : Int64) (p1 : Int32) (w2 : Int64) (p2 : Int32) (k : Nat) : Int32 := if hs w1 (nI k) then p1 else if hs w2 (nI k) then p2 else 1000000
def prA (w1 : Int64) (p1 : Int32) (w2 : Int64) (p2 : Int32) (Pr : Nat → Int32) (n : Nat) : Nat → Int32 := it (fun k P => upd P k (prF w1 p1 w2 p2 k)) Pr n
/-- the search's state: what is left to go, the queue, who is in it, its head, how many wait -/
abbrev Pst : Type := (Nat → Int32) × (Nat → Int32) × Int64 × Nat × Nat
def rch (Pr : Nat → Int32) (x rest : Int32) (σ : Pst) : Pst :=
  if atF Pr x = 1000000 then σ else if rest < atF σ.1 x then
    (if hs σ.2.2.1 x then (upd σ.1 (ix x) rest, σ.2)
     else if σ.2.2.2.2 < 64 then (upd σ.1 (ix x) rest, upd σ.2.1 ((σ.2.2.2.1 + σ.2.2.2.2) % 64) x, σ.2.2.1 ||| bt x, σ.2.2.2.1, σ.2.2.2.2 + 1)
     else (upd σ.1 (ix x) rest, σ.2))
  else σ
theorem rch_hd (Pr : Nat → Int32) (x rest : Int32) (σ : Pst) : (rch Pr x rest σ).2.2.2.1 = σ.2.2.2.1 := by
  unfold rch; repeat' split
  all_goals rfl
theorem rch_wt (Pr : Nat → Int32) (x rest : Int32) (σ : Pst) (h : σ.2.2.2.2 ≤ 64) : (rch Pr x rest σ).2.2.2.2 ≤ 64 := by
  unfold rch; repeat' split
  all_goals first | exact h | (show σ.2.2.2.2 + 1 ≤ 64; omega)
def tkq (σ : Pst) : Pst := (σ.1, σ.2.1, σ.2.2.1 &&& (bt (σ.2.1 σ.2.2.2.1) ^^^ (-1)), (σ.2.2.2.1 + 1) % 64, σ.2.2.2.2 - 1)
def mtI (Pr : Nat → Int32) (nr nc : Nat) (x : Int32) (d : Nat) (σ : Pst) : Pst := rch Pr (bsd nr nc x (nI d)) (atF σ.1 x + atF Pr x) σ
def mtS (Pr : Nat → Int32) (nr nc : Nat) (σ : Pst) : Pst := it (mtI Pr nr nc (σ.2.1 σ.2.2.2.1)) (tkq σ) 4
def mtR (Pr : Nat → Int32) (nr nc : Nat) : Nat → Pst → Pst
  | 0, σ => σ
  | f + 1, σ => if 0 < σ.2.2.2.2 then mtR Pr nr nc f (mtS Pr nr nc σ) else σ
def fil (Rs : Nat → Int32) (n : Nat) : Nat → Int32 := it (fun k R => upd R k 1000000) Rs n
def mtZ (Pr : Nat → Int32) (nr nc : Nat) (goal : Int32) (Rs Qu : Nat → Int32) : Pst := mtR Pr nr nc 4096 (rch Pr goal 0 (fil Rs 64, Qu, 0, 0, 0))
def nxA (Pr Rs : Nat → Int32) (nr nc : Nat) (x : Int32) (n : Nat) : Int32 × Int32 := it (fun d a => if a.2 ≤ atF Pr (bsd nr nc x (nI d)) + atF Rs (bsd nr nc x (nI d)) then a else (bsd nr nc x (nI d), atF Pr (bsd nr nc x (nI d)) + atF Rs (bsd nr nc x (nI d)))) (-1, 1000000) n
theorem rem64 (a : Nat) (h : a < 2 ^ 31) : nI a - nI a / 64 * 64 = nI (a % 64) := pk_rem (d := 64) h (by decide) (by decide)
/-! Tour -/
def gbt (g : Int32) (k : Nat) : Bool := decide ((g >>> (nI k &&& 31)) &&& 1 = 1)
def soA (nc : Nat) (Sp Be : Nat → Int32) (gp : Nat) (x : Int32) (n : Nat) : Int32 := it (fun k a => if gbt (nI gp) k then (if Be (gp * 8 + k) + apI nc (Sp k) x < a then Be (gp * 8 + k) + apI nc (Sp k) x else a) else a) 1000000 n
def oth (gp k : Nat) : Nat := ((nI gp) &&& ((1 <<< (nI k &&& 31)) ^^^ (-1))).toNatClampNeg
theorem oth_all : ∀ gp, gp < 256 → ∀ k, k < 8 → (nI gp) &&& ((1 <<< (nI k &&& 31)) ^^^ (-1)) = nI (oth gp k) ∧ oth gp k ≤ gp := by decide +kernel
theorem all_all : ∀ n, n < 9 → (1 <<< (nI n &&& 31)) - 1 = nI (2 ^ n - 1) := by decide +kernel
def stA (nc : Nat) (Sp Be : Nat → Int32) (sa : Int32) (un gp k : Nat) : Int32 := if oth gp k = 0 then apI nc sa (Sp k) else soA nc Sp Be (oth gp k) (Sp k) un
def shI (nc : Nat) (Sp : Nat → Int32) (sa : Int32) (un gp : Nat) (Be : Nat → Int32) (n : Nat) : Nat → Int32 := it (fun k b => if gbt (nI gp) k then upd b (gp * 8 + k) (stA nc Sp b sa un gp k) else b) Be n
def shO (nc : Nat) (Sp : Nat → Int32) (sa : Int32) (un : Nat) (Be : Nat → Int32) (n : Nat) : Nat → Int32 := it (fun j b => shI nc Sp sa un (j + 1) b un) Be n
theorem p2_le {n : Nat} (h : n ≤ 8) : 2 ^ n ≤ 256 := Nat.pow_le_pow_right (n := 2) (by decide) h

set_option maxHeartbeats 4000000 in
set_option maxRecDepth 100000 in
theorem c_X1_placeDrawn (l : Launch) (G : Gv) (o0 : Nat) (g0 : Nat) (nr : Nat) (nc : Nat) (a0 : Nat) (a1 : Nat) (a2 : Nat) (a3 : Nat) (a4 : Nat) (C : Nat → Int32) (B : Nat → Int32) (F : Nat → Int32) (K : Nat → Int32) (n : Nat) (y : Int32) (h0 : Nat) (h1 : Nat) (h2 : Nat) (h3 : Nat) (Yr : Nat → Int32) (Dn : Nat → Int32) (Rt : Nat → Int32) (q : Nat) (t : Int32) (hg1 : 2 ≤ nr ∧ nr ≤ 8) (hg2 : 2 ≤ nc ∧ nc ≤ 8) (hn : n ≤ 10) (hq : q ≤ 5) : Rd l yX1_placeDrawn cX1_placeDrawn 4 (some .int) (rmz 3 68) G [.ref o0, .int t] [(o0, .inr (1, [.ref g0, .ref a0, .ref h0])), (g0, .inr (2, [.int (nI nr), .int (nI nc)])), (a0, .inr (4, [.ref a1, .ref a2, .ref a3, .ref a4, .int (nI n), .int y])), (a1, .inl (kI G, 10, .inl C)), (a2, .inl (kI G, 10, .inl B)), (a3, .inl (kI G, 10, .inl F)), (a4, .inl (kI G, 10, .inl K)), (h0, .inr (0, [.ref h1, .ref h2, .ref h3, .int (nI q)])), (h1, .inl (kI G, 5, .inl Yr)), (h2, .inl (kI G, 5, .inl Dn)), (h3, .inl (kI G, 5, .inl Rt))] (.int (plI nr nc n C K t)) := by
  refine Rd.ofW (by decide) (Nat.le_of_ble_eq_true rfl) ?_
  intro p e s m below meth c ls hx hb hml hr hown hts hlk hP hE hl
  have hl : lv_has ls 4 [(0, .ref o0), (1, .int t)] := hl
  refine lv_aload_n hx hb dX1_placeDrawn_0 rfl (lv_at hl 0 rfl) ?_
  refine va_get hx hb hts inlX1 hown hE.1 hP 0 rfl rfl 1 (by decide) (fl_X1_21 hts) (fun _ h9 => h9) rfl dX1_placeDrawn_1 ?_
  refine lv_iload_n hx hb dX1_placeDrawn_4 rfl (lv_at hl 1 rfl) ?_
  refine rd_callV (As := [.int t]) (rest := []) hx hb hml hown hts hE hl.1 (c_X4_cellOf l G a0 a1 a2 a3 a4 C B F K n y t (by first | assumption | omega)) (cw_X1_92 hts) ⟨(Nat.le_of_ble_eq_true rfl), (Nat.le_of_ble_eq_true rfl)⟩ ⟨Nat.zero_le _, Nat.zero_le _⟩ rfl (sub_P hP [2, 3, 4, 5, 6] rfl) rfl rfl rfl rfl (Nat.le_of_ble_eq_true rfl) dX1_placeDrawn_5 ?_
  refine lv_istore_n (lv' := [(2, .int (atI n C t)), (0, .ref o0), (1, .int t)]) hx hb dX1_placeDrawn_8 rfl hl (by decide) rfl (fun ls hl => ?_)
  refine lv_aload_n hx hb dX1_placeDrawn_9 rfl (lv_at hl 1 rfl) ?_
  refine va_get hx hb hts inlX1 hown hE.1 hP 0 rfl rfl 0 (by decide) (fl_X1_12 hts) (fun _ h9 => h9) rfl dX1_placeDrawn_10 ?_
  refine lv_iload_n hx hb dX1_placeDrawn_13 rfl (lv_at hl 0 rfl) ?_
  refine lv_iconst (v := 0) hx hb dX1_placeDrawn_14 (by decide) ?_
  refine lv_iconst (v := 1) hx hb dX1_placeDrawn_15 (by decide) ?_
  refine rd_callV (As := [.int (atI n C t), .int 0, .int 1]) (rest := []) hx hb hml hown hts hE hl.1 (c_X2_shift l G g0 nr nc (atI n C t) 0 1 (by first | assumption | omega) (by first | assumption | omega)) (cw_X1_95 hts) ⟨(Nat.le_of_ble_eq_true rfl), (Nat.le_of_ble_eq_true rfl)⟩ ⟨Nat.zero_le _, Nat.zero_le _⟩ rfl (sub_P hP [1] rfl) rfl rfl rfl rfl (Nat.le_of_ble_eq_true rfl) dX1_placeDrawn_16 ?_
  refine lv_istore_n (lv' := [(3, .int (shf nr nc (atI n C t) 0 1)), (2, .int (atI n C t)), (0, .ref o0), (1, .int t)]) hx hb dX1_placeDrawn_19 rfl hl (by decide) rfl (fun ls hl => ?_)
  refine lv_aload_n hx hb dX1_placeDrawn_20 rfl (lv_at hl 2 rfl) ?_
  refine va_get hx hb hts inlX1 hown hE.1 hP 0 rfl rfl 1 (by decide) (fl_X1_21 hts) (fun _ h9 => h9) rfl dX1_placeDrawn_21 ?_
  refine lv_iload_n hx hb dX1_placeDrawn_24 rfl (lv_at hl 3 rfl) ?_
  refine rd_callV (As := [.int t]) (rest := []) hx hb hml hown hts hE hl.1 (c_X4_kindOf l G a0 a1 a2 a3 a4 C B F K n y t (by first | assumption | omega)) (cw_X1_61 hts) ⟨(Nat.le_of_ble_eq_true rfl), (Nat.le_of_ble_eq_true rfl)⟩ ⟨Nat.zero_le _, Nat.zero_le _⟩ rfl (sub_P hP [2, 3, 4, 5, 6] rfl) rfl rfl rfl rfl (Nat.le_of_ble_eq_true rfl) dX1_placeDrawn_25 ?_
  refine lv_iconst (v := 2) hx hb dX1_placeDrawn_28 (by decide) ?_
  refine lv_icmp_ne (tgt := 41) hx hb dX1_placeDrawn_29 (by decide) (fun c29 => ?_) (fun c29 => ?_)
  · refine lv_iload_n hx hb dX1_placeDrawn_41 rfl (lv_at hl 1 rfl) ?_
    exact rd_iret hx hb hr hlk dX1_placeDrawn_42 (by first | rfl | (simp [zb, c29, plI]; done))
  · refine lv_iload_n hx hb dX1_placeDrawn_32 rfl (lv_at hl 0 rfl) ?_
    refine lv_iconst (v := -1) hx hb dX1_placeDrawn_33 (by decide) ?_
    refine lv_icmp_eq (tgt := 41) hx hb dX1_placeDrawn_34 (by decide) (fun c34 => ?_) (fun c34 => ?_)
    · refine lv_iload_n hx hb dX1_placeDrawn_41 rfl (lv_at hl 1 rfl) ?_
      exact rd_iret hx hb hr hlk dX1_placeDrawn_42 (by first | rfl | (simp [zb, c29, c34, plI]; done))
    · refine lv_iload_n hx hb dX1_placeDrawn_37 rfl (lv_at hl 0 rfl) ?_
      refine lv_goto (tgt := 42) hx hb dX1_placeDrawn_38 (by decide) ?_
      exact rd_iret hx hb hr hlk dX1_placeDrawn_42 (by first | rfl | (simp [zb, c29, c34, plI]; done))

set_option maxHeartbeats 4000000 in
set_option maxRecDepth 100000 in
theorem c_X1_drawnCells (l : Launch) (G : Gv) (o0 : Nat) (g0 : Nat) (nr : Nat) (nc : Nat) (a0 : Nat) (a1 : Nat) (a2 : Nat) (a3 : Nat) (a4 : Nat) (C : Nat → Int32) (B : Nat → Int32) (F : Nat → Int32) (K : Nat → Int32) (n : Nat) (y : Int32) (h0 : Nat) (h1 : Nat) (h2 : Nat) (h3 : Nat) (Yr : Nat → Int32) (Dn : Nat → Int32) (Rt : Nat → Int32) (q : Nat) (w : Int32) (hg1 : 2 ≤ nr ∧ nr ≤ 8) (hg2 : 2 ≤ nc ∧ nc ≤ 8) (hn : n ≤ 10) (hq : q ≤ 5) : Rd l yX1_drawnCells cX1_drawnCells 5 (some .long) (rmz 4 91) G [.ref o0, .int w] [(o0, .inr (1, [.ref g0, .ref a0, .ref h0])), (g0, .inr (2, [.int (nI nr), .int (nI nc)])), (a0, .inr (4, [.ref a1, .ref a2, .ref a3, .ref a4, .int (nI n), .int y])), (a1, .inl (kI G, 10, .inl C)), (a2, .inl (kI G, 10, .inl B)), (a3, .inl (kI G, 10, .inl F)), (a4, .inl (kI G, 10, .inl K)), (h0, .inr (0, [.ref h1, .ref h2, .ref h3, .int (nI q)])), (h1, .inl (kI G, 5, .inl Yr)), (h2, .inl (kI G, 5, .inl Dn)), (h3, .inl (kI G, 5, .inl Rt))] (.long (drC nr nc C F K w n)) := by
  refine Rd.ofW (by decide) (Nat.le_of_ble_eq_true rfl) ?_
  intro p e s m below meth c ls hx hb hml hr hown hts hlk hP hE hl
  have hl : lv_has ls 5 [(0, .ref o0), (1, .int w)] := hl
  have J_5 : ∀ (n_ : Nat) (k : Nat) (acc : Int64) (hk : k ≤ n) (ha : acc = drC nr nc C F K w k) (hm_5 : n - k < n_), ∀ ls : Array Slot, lv_has ls 5 [(0, .ref o0), (1, .int w), (2, .long acc), (4, .int (nI k))] → WR p l e (rmz 4 91) s m [.ref o0, .int w] below meth c (.long (drC nr nc C F K w n)) (F0 m 5 ls []) := by
    intro n_
    induction n_ with
    | zero =>
      intro k acc hk ha hm_5
      exact absurd hm_5 (Nat.not_lt_zero _)
    | succ n_ ih_5 =>
      intro k acc hk ha hm_5 ls hl
      refine lv_iload hx hb dX1_drawnCells_5 (lv_at hl 3 rfl) ?_
      refine lv_aload_n hx hb dX1_drawnCells_7 rfl (lv_at hl 0 rfl) ?_
      refine va_get hx hb hts inlX1 hown hE.1 hP 0 rfl rfl 1 (by decide) (fl_X1_21 hts) (fun _ h9 => h9) rfl dX1_drawnCells_8 ?_
      refine rd_callV (As := []) (rest := [.int (nI k)]) hx hb hml hown hts hE hl.1 (c_X4_size l G a0 a1 a2 a3 a4 C B F K n y ) (cw_X1_54 hts) ⟨(Nat.le_of_ble_eq_true rfl), (Nat.le_of_ble_eq_true rfl)⟩ ⟨Nat.zero_le _, Nat.zero_le _⟩ rfl (sub_P hP [2, 3, 4, 5, 6] rfl) rfl rfl rfl rfl (Nat.le_of_ble_eq_true rfl) dX1_drawnCells_11 ?_
      refine lv_icmp_ge (tgt := 61) hx hb dX1_drawnCells_14 (by decide) (fun c14 => ?_) (fun c14 => ?_)
      · have hkn : n ≤ k := le_of_le (by omega) (by omega) c14
        refine lv_lload_n hx hb dX1_drawnCells_61 rfl (lv_at hl 2 rfl) ?_
        exact rd_lret hx hb hr hlk dX1_drawnCells_62 (by rw [ha, show k = n by omega])
      · have hkn : k < n := lt_of_nle (by omega) (by omega) c14
        refine lv_aload_n hx hb dX1_drawnCells_17 rfl (lv_at hl 0 rfl) ?_
        refine va_get hx hb hts inlX1 hown hE.1 hP 0 rfl rfl 1 (by decide) (fl_X1_21 hts) (fun _ h9 => h9) rfl dX1_drawnCells_18 ?_
        refine lv_iload hx hb dX1_drawnCells_21 (lv_at hl 3 rfl) ?_
        refine lv_iload_n hx hb dX1_drawnCells_23 rfl (lv_at hl 1 rfl) ?_
        refine rd_callV (As := [.int (nI k), .int w]) (rest := []) hx hb hml hown hts hE hl.1 (c_X4_isLostBy l G a0 a1 a2 a3 a4 C B F K n y (nI k) w (by first | assumption | omega)) (cw_X1_58 hts) ⟨(Nat.le_of_ble_eq_true rfl), (Nat.le_of_ble_eq_true rfl)⟩ ⟨Nat.zero_le _, Nat.zero_le _⟩ rfl (sub_P hP [2, 3, 4, 5, 6] rfl) rfl rfl rfl rfl (Nat.le_of_ble_eq_true rfl) dX1_drawnCells_24 ?_
        rw [loI_nI hkn (by omega)]
        refine lv_if_eq (tgt := 55) hx hb dX1_drawnCells_27 (by decide) (fun c27 => ?_) (fun c27 => ?_)
        · have c27 := zb_0.mp c27
          refine lv_iinc (v := nI (k + 1)) (lv' := [(4, .int (nI (k + 1))), (0, .ref o0), (1, .int w), (2, .long acc)]) hx hb dX1_drawnCells_55 hl (k := 3) rfl (nI_1 k) (by decide) rfl (fun ls hl => ?_)
          refine lv_goto (tgt := 5) hx hb dX1_drawnCells_58 (by decide) ?_
          have ha0 := ha
          rw [drC] at ha0
          exact ih_5 (k + 1) acc (by first | assumption | omega | rfl) (by rw [drC, it_s]; simp only [← ha0]; simp [c14, c27]) (by omega) ls (lv_sub hl [1, 2, 3, 0] rfl)
        · have c27 := zb_n0.mp c27
          refine lv_aload_n hx hb dX1_drawnCells_30 rfl (lv_at hl 0 rfl) ?_
          refine va_get hx hb hts inlX1 hown hE.1 hP 0 rfl rfl 1 (by decide) (fl_X1_21 hts) (fun _ h9 => h9) rfl dX1_drawnCells_31 ?_
          refine lv_iload hx hb dX1_drawnCells_34 (lv_at hl 3 rfl) ?_
          refine rd_callV (As := [.int (nI k)]) (rest := []) hx hb hml hown hts hE hl.1 (c_X4_kindOf l G a0 a1 a2 a3 a4 C B F K n y (nI k) (by first | assumption | omega)) (cw_X1_61 hts) ⟨(Nat.le_of_ble_eq_true rfl), (Nat.le_of_ble_eq_true rfl)⟩ ⟨Nat.zero_le _, Nat.zero_le _⟩ rfl (sub_P hP [2, 3, 4, 5, 6] rfl) rfl rfl rfl rfl (Nat.le_of_ble_eq_true rfl) dX1_drawnCells_36 ?_
          rw [atI_nI hkn (by omega)]
          refine lv_iconst (v := 3) hx hb dX1_drawnCells_39 (by decide) ?_
          refine lv_icmp_eq (tgt := 55) hx hb dX1_drawnCells_40 (by decide) (fun c40 => ?_) (fun c40 => ?_)
          · refine lv_iinc (v := nI (k + 1)) (lv' := [(4, .int (nI (k + 1))), (0, .ref o0), (1, .int w), (2, .long acc)]) hx hb dX1_drawnCells_55 hl (k := 3) rfl (nI_1 k) (by decide) rfl (fun ls hl => ?_)
            refine lv_goto (tgt := 5) hx hb dX1_drawnCells_58 (by decide) ?_
            have ha0 := ha
            rw [drC] at ha0
            exact ih_5 (k + 1) acc (by first | assumption | omega | rfl) (by rw [drC, it_s]; simp only [← ha0]; simp [c14, c27, c40]) (by omega) ls (lv_sub hl [1, 2, 3, 0] rfl)
          · refine lv_lload_n hx hb dX1_drawnCells_43 rfl (lv_at hl 2 rfl) ?_
            refine lv_aload_n hx hb dX1_drawnCells_44 rfl (lv_at hl 0 rfl) ?_
            refine lv_iload hx hb dX1_drawnCells_45 (lv_at hl 3 rfl) ?_
            refine rd_callV (As := [.int (nI k)]) (rest := [.long acc]) hx hb hml hown hts hE hl.1 (c_X1_placeDrawn l G o0 g0 nr nc a0 a1 a2 a3 a4 C B F K n y h0 h1 h2 h3 Yr Dn Rt q (nI k) (by first | assumption | omega) (by first | assumption | omega) (by first | assumption | omega) (by first | assumption | omega)) (cw_X1_65 hts) ⟨(Nat.le_of_ble_eq_true rfl), (Nat.le_of_ble_eq_true rfl)⟩ ⟨Nat.zero_le _, Nat.zero_le _⟩ rfl (sub_P hP [0, 1, 2, 3, 4, 5, 6, 7, 8, 9, 10] rfl) rfl rfl rfl rfl (Nat.le_of_ble_eq_true rfl) dX1_drawnCells_47 ?_
            rw [plI_nI hkn (by omega)]
            refine rd_callN (As := [.int (plB nr nc C K k)]) (rest := [.long acc]) hx hb hml hown hts hE hl.1 (c_X9_bitOf l G (plB nr nc C K k) ) (cz_X1_68 hts) ⟨(Nat.le_of_ble_eq_true rfl), (Nat.le_of_ble_eq_true rfl)⟩ ⟨Nat.zero_le _, Nat.zero_le _⟩ rfl (sub_P hP [] rfl) rfl (Nat.le_of_ble_eq_true rfl) dX1_drawnCells_50 ?_
            refine lv_lor hx hb dX1_drawnCells_53 ?_
            refine lv_lstore_n (lv' := [(2, .long (acc ||| (bt (plB nr nc C K k)))), (0, .ref o0), (1, .int w), (4, .int (nI k))]) hx hb dX1_drawnCells_54 rfl hl (by decide) rfl (fun ls hl => ?_)
            refine lv_iinc (v := nI (k + 1)) (lv' := [(4, .int (nI (k + 1))), (2, .long (acc ||| (bt (plB nr nc C K k)))), (0, .ref o0), (1, .int w)]) hx hb dX1_drawnCells_55 hl (k := 3) rfl (nI_1 k) (by decide) rfl (fun ls hl => ?_)
            refine lv_goto (tgt := 5) hx hb dX1_drawnCells_58 (by decide) ?_
            have ha0 := ha
            rw [drC] at ha0
            exact ih_5 (k + 1) (acc ||| (bt (plB nr nc C K k))) (by first | assumption | omega | rfl) (by rw [drC, it_s]; simp only [← ha0]; simp [c14, c27, c40]) (by omega) ls (lv_sub hl [2, 3, 1, 0] rfl)
  refine lv_lconst (v := 0) hx hb dX1_drawnCells_0 (by decide) ?_
  refine lv_lstore_n (lv' := [(2, .long 0), (0, .ref o0), (1, .int w)]) hx hb dX1_drawnCells_1 rfl hl (by decide) rfl (fun ls hl => ?_)
  refine lv_iconst (v := 0) hx hb dX1_drawnCells_2 (by decide) ?_
  refine lv_istore (lv' := [(4, .int 0), (2, .long 0), (0, .ref o0), (1, .int w)]) hx hb dX1_drawnCells_3 hl (by decide) rfl (fun ls hl => ?_)
  exact J_5 (n - 0 + 1) 0 0 (by first | assumption | omega | rfl) rfl (Nat.lt_succ_self _) ls (lv_sub hl [2, 3, 1, 0] rfl)

set_option maxHeartbeats 4000000 in
set_option maxRecDepth 100000 in
theorem c_X1_burnableDrawnCells (l : Launch) (G : Gv) (o0 : Nat) (g0 : Nat) (nr : Nat) (nc : Nat) (a0 : Nat) (a1 : Nat) (a2 : Nat) (a3 : Nat) (a4 : Nat) (C : Nat → Int32) (B : Nat → Int32) (F : Nat → Int32) (K : Nat → Int32) (n : Nat) (y : Int32) (h0 : Nat) (h1 : Nat) (h2 : Nat) (h3 : Nat) (Yr : Nat → Int32) (Dn : Nat → Int32) (Rt : Nat → Int32) (q : Nat) (hg1 : 2 ≤ nr ∧ nr ≤ 8) (hg2 : 2 ≤ nc ∧ nc ≤ 8) (hn : n ≤ 10) (hq : q ≤ 5) : Rd l yX1_burnableDrawnCells cX1_burnableDrawnCells 4 (some .long) (rmz 4 91) G [.ref o0] [(o0, .inr (1, [.ref g0, .ref a0, .ref h0])), (g0, .inr (2, [.int (nI nr), .int (nI nc)])), (a0, .inr (4, [.ref a1, .ref a2, .ref a3, .ref a4, .int (nI n), .int y])), (a1, .inl (kI G, 10, .inl C)), (a2, .inl (kI G, 10, .inl B)), (a3, .inl (kI G, 10, .inl F)), (a4, .inl (kI G, 10, .inl K)), (h0, .inr (0, [.ref h1, .ref h2, .ref h3, .int (nI q)])), (h1, .inl (kI G, 5, .inl Yr)), (h2, .inl (kI G, 5, .inl Dn)), (h3, .inl (kI G, 5, .inl Rt))] (.long (buC nr nc C B F K y n)) := by
  refine Rd.ofW (by decide) (Nat.le_of_ble_eq_true rfl) ?_
  intro p e s m below meth c ls hx hb hml hr hown hts hlk hP hE hl
  have hl : lv_has ls 4 [(0, .ref o0)] := hl
  have J_4 : ∀ (n_ : Nat) (k : Nat) (acc : Int64) (hk : k ≤ n) (ha : acc = buC nr nc C B F K y k) (hm_4 : n - k < n_), ∀ ls : Array Slot, lv_has ls 4 [(0, .ref o0), (1, .long acc), (3, .int (nI k))] → WR p l e (rmz 4 91) s m [.ref o0] below meth c (.long (buC nr nc C B F K y n)) (F0 m 4 ls []) := by
    intro n_
    induction n_ with
    | zero =>
      intro k acc hk ha hm_4
      exact absurd hm_4 (Nat.not_lt_zero _)
    | succ n_ ih_4 =>
      intro k acc hk ha hm_4 ls hl
      refine lv_iload_n hx hb dX1_burnableDrawnCells_4 rfl (lv_at hl 2 rfl) ?_
      refine lv_aload_n hx hb dX1_burnableDrawnCells_5 rfl (lv_at hl 0 rfl) ?_
      refine va_get hx hb hts inlX1 hown hE.1 hP 0 rfl rfl 1 (by decide) (fl_X1_21 hts) (fun _ h9 => h9) rfl dX1_burnableDrawnCells_6 ?_
      refine rd_callV (As := []) (rest := [.int (nI k)]) hx hb hml hown hts hE hl.1 (c_X4_size l G a0 a1 a2 a3 a4 C B F K n y ) (cw_X1_54 hts) ⟨(Nat.le_of_ble_eq_true rfl), (Nat.le_of_ble_eq_true rfl)⟩ ⟨Nat.zero_le _, Nat.zero_le _⟩ rfl (sub_P hP [2, 3, 4, 5, 6] rfl) rfl rfl rfl rfl (Nat.le_of_ble_eq_true rfl) dX1_burnableDrawnCells_9 ?_
      refine lv_icmp_ge (tgt := 55) hx hb dX1_burnableDrawnCells_12 (by decide) (fun c12 => ?_) (fun c12 => ?_)
      · have hkn : n ≤ k := le_of_le (by omega) (by omega) c12
        refine lv_lload_n hx hb dX1_burnableDrawnCells_55 rfl (lv_at hl 1 rfl) ?_
        exact rd_lret hx hb hr hlk dX1_burnableDrawnCells_56 (by rw [ha, show k = n by omega])
      · have hkn : k < n := lt_of_nle (by omega) (by omega) c12
        refine lv_aload_n hx hb dX1_burnableDrawnCells_15 rfl (lv_at hl 0 rfl) ?_
        refine va_get hx hb hts inlX1 hown hE.1 hP 0 rfl rfl 1 (by decide) (fl_X1_21 hts) (fun _ h9 => h9) rfl dX1_burnableDrawnCells_16 ?_
        refine lv_iload_n hx hb dX1_burnableDrawnCells_19 rfl (lv_at hl 2 rfl) ?_
        refine rd_callV (As := [.int (nI k)]) (rest := []) hx hb hml hown hts hE hl.1 (c_X4_canBurn l G a0 a1 a2 a3 a4 C B F K n y (nI k) (by first | assumption | omega)) (cw_X1_72 hts) ⟨(Nat.le_of_ble_eq_true rfl), (Nat.le_of_ble_eq_true rfl)⟩ ⟨Nat.zero_le _, Nat.zero_le _⟩ rfl (sub_P hP [2, 3, 4, 5, 6] rfl) rfl rfl rfl rfl (Nat.le_of_ble_eq_true rfl) dX1_burnableDrawnCells_20 ?_
        rw [cbI_nI hkn (by omega)]
        refine lv_if_eq (tgt := 49) hx hb dX1_burnableDrawnCells_23 (by decide) (fun c23 => ?_) (fun c23 => ?_)
        · have c23 := zb_0.mp c23
          refine lv_iinc (v := nI (k + 1)) (lv' := [(3, .int (nI (k + 1))), (0, .ref o0), (1, .long acc)]) hx hb dX1_burnableDrawnCells_49 hl (k := 2) rfl (nI_1 k) (by decide) rfl (fun ls hl => ?_)
          refine lv_goto (tgt := 4) hx hb dX1_burnableDrawnCells_52 (by decide) ?_
          have ha0 := ha
          rw [buC] at ha0
          exact ih_4 (k + 1) acc (by first | assumption | omega | rfl) (by rw [buC, it_s]; simp only [← ha0]; simp [c12, c23]) (by omega) ls (lv_sub hl [1, 2, 0] rfl)
        · have c23 := zb_n0.mp c23
          refine lv_aload_n hx hb dX1_burnableDrawnCells_26 rfl (lv_at hl 0 rfl) ?_
          refine va_get hx hb hts inlX1 hown hE.1 hP 0 rfl rfl 1 (by decide) (fl_X1_21 hts) (fun _ h9 => h9) rfl dX1_burnableDrawnCells_27 ?_
          refine lv_iload_n hx hb dX1_burnableDrawnCells_30 rfl (lv_at hl 2 rfl) ?_
          refine rd_callV (As := [.int (nI k)]) (rest := []) hx hb hml hown hts hE hl.1 (c_X4_kindOf l G a0 a1 a2 a3 a4 C B F K n y (nI k) (by first | assumption | omega)) (cw_X1_61 hts) ⟨(Nat.le_of_ble_eq_true rfl), (Nat.le_of_ble_eq_true rfl)⟩ ⟨Nat.zero_le _, Nat.zero_le _⟩ rfl (sub_P hP [2, 3, 4, 5, 6] rfl) rfl rfl rfl rfl (Nat.le_of_ble_eq_true rfl) dX1_burnableDrawnCells_31 ?_
          rw [atI_nI hkn (by omega)]
          refine lv_iconst (v := 3) hx hb dX1_burnableDrawnCells_34 (by decide) ?_
          refine lv_icmp_eq (tgt := 49) hx hb dX1_burnableDrawnCells_35 (by decide) (fun c35 => ?_) (fun c35 => ?_)
          · refine lv_iinc (v := nI (k + 1)) (lv' := [(3, .int (nI (k + 1))), (0, .ref o0), (1, .long acc)]) hx hb dX1_burnableDrawnCells_49 hl (k := 2) rfl (nI_1 k) (by decide) rfl (fun ls hl => ?_)
            refine lv_goto (tgt := 4) hx hb dX1_burnableDrawnCells_52 (by decide) ?_
            have ha0 := ha
            rw [buC] at ha0
            exact ih_4 (k + 1) acc (by first | assumption | omega | rfl) (by rw [buC, it_s]; simp only [← ha0]; simp [c12, c23, c35]) (by omega) ls (lv_sub hl [1, 2, 0] rfl)
          · refine lv_lload_n hx hb dX1_burnableDrawnCells_38 rfl (lv_at hl 1 rfl) ?_
            refine lv_aload_n hx hb dX1_burnableDrawnCells_39 rfl (lv_at hl 0 rfl) ?_
            refine lv_iload_n hx hb dX1_burnableDrawnCells_40 rfl (lv_at hl 2 rfl) ?_
            refine rd_callV (As := [.int (nI k)]) (rest := [.long acc]) hx hb hml hown hts hE hl.1 (c_X1_placeDrawn l G o0 g0 nr nc a0 a1 a2 a3 a4 C B F K n y h0 h1 h2 h3 Yr Dn Rt q (nI k) (by first | assumption | omega) (by first | assumption | omega) (by first | assumption | omega) (by first | assumption | omega)) (cw_X1_65 hts) ⟨(Nat.le_of_ble_eq_true rfl), (Nat.le_of_ble_eq_true rfl)⟩ ⟨Nat.zero_le _, Nat.zero_le _⟩ rfl (sub_P hP [0, 1, 2, 3, 4, 5, 6, 7, 8, 9, 10] rfl) rfl rfl rfl rfl (Nat.le_of_ble_eq_true rfl) dX1_burnableDrawnCells_41 ?_
            rw [plI_nI hkn (by omega)]
            refine rd_callN (As := [.int (plB nr nc C K k)]) (rest := [.long acc]) hx hb hml hown hts hE hl.1 (c_X9_bitOf l G (plB nr nc C K k) ) (cz_X1_68 hts) ⟨(Nat.le_of_ble_eq_true rfl), (Nat.le_of_ble_eq_true rfl)⟩ ⟨Nat.zero_le _, Nat.zero_le _⟩ rfl (sub_P hP [] rfl) rfl (Nat.le_of_ble_eq_true rfl) dX1_burnableDrawnCells_44 ?_
            refine lv_lor hx hb dX1_burnableDrawnCells_47 ?_
            refine lv_lstore_n (lv' := [(1, .long (acc ||| (bt (plB nr nc C K k)))), (0, .ref o0), (3, .int (nI k))]) hx hb dX1_burnableDrawnCells_48 rfl hl (by decide) rfl (fun ls hl => ?_)
            refine lv_iinc (v := nI (k + 1)) (lv' := [(3, .int (nI (k + 1))), (1, .long (acc ||| (bt (plB nr nc C K k)))), (0, .ref o0)]) hx hb dX1_burnableDrawnCells_49 hl (k := 2) rfl (nI_1 k) (by decide) rfl (fun ls hl => ?_)
            refine lv_goto (tgt := 4) hx hb dX1_burnableDrawnCells_52 (by decide) ?_
            have ha0 := ha
            rw [buC] at ha0
            exact ih_4 (k + 1) (acc ||| (bt (plB nr nc C K k))) (by first | assumption | omega | rfl) (by rw [buC, it_s]; simp only [← ha0]; simp [c12, c23, c35]) (by omega) ls (lv_sub hl [2, 1, 0] rfl)
  refine lv_lconst (v := 0) hx hb dX1_burnableDrawnCells_0 (by decide) ?_
  refine lv_lstore_n (lv' := [(1, .long 0), (0, .ref o0)]) hx hb dX1_burnableDrawnCells_1 rfl hl (by decide) rfl (fun ls hl => ?_)
  refine lv_iconst (v := 0) hx hb dX1_burnableDrawnCells_2 (by decide) ?_
  refine lv_istore_n (lv' := [(3, .int 0), (1, .long 0), (0, .ref o0)]) hx hb dX1_burnableDrawnCells_3 rfl hl (by decide) rfl (fun ls hl => ?_)
  exact J_4 (n - 0 + 1) 0 0 (by first | assumption | omega | rfl) rfl (Nat.lt_succ_self _) ls (lv_sub hl [2, 1, 0] rfl)

set_option maxHeartbeats 4000000 in
set_option maxRecDepth 100000 in
theorem c_X1_shownBy (l : Launch) (G : Gv) (o0 : Nat) (g0 : Nat) (nr : Nat) (nc : Nat) (a0 : Nat) (a1 : Nat) (a2 : Nat) (a3 : Nat) (a4 : Nat) (C : Nat → Int32) (B : Nat → Int32) (F : Nat → Int32) (K : Nat → Int32) (n : Nat) (y : Int32) (h0 : Nat) (h1 : Nat) (h2 : Nat) (h3 : Nat) (Yr : Nat → Int32) (Dn : Nat → Int32) (Rt : Nat → Int32) (q : Nat) (t : Int32) (hg1 : 2 ≤ nr ∧ nr ≤ 8) (hg2 : 2 ≤ nc ∧ nc ≤ 8) (hn : n ≤ 10) (hq : q ≤ 5) : Rd l yX1_shownBy cX1_shownBy 4 (some .long) (rmz 5 115) G [.ref o0, .int t] [(o0, .inr (1, [.ref g0, .ref a0, .ref h0])), (g0, .inr (2, [.int (nI nr), .int (nI nc)])), (a0, .inr (4, [.ref a1, .ref a2, .ref a3, .ref a4, .int (nI n), .int y])), (a1, .inl (kI G, 10, .inl C)), (a2, .inl (kI G, 10, .inl B)), (a3, .inl (kI G, 10, .inl F)), (a4, .inl (kI G, 10, .inl K)), (h0, .inr (0, [.ref h1, .ref h2, .ref h3, .int (nI q)])), (h1, .inl (kI G, 5, .inl Yr)), (h2, .inl (kI G, 5, .inl Dn)), (h3, .inl (kI G, 5, .inl Rt))] (.long (swC nr nc C F K n Yr Dn Rt q t)) := by
  refine Rd.ofW (by decide) (Nat.le_of_ble_eq_true rfl) ?_
  intro p e s m below meth c ls hx hb hml hr hown hts hlk hP hE hl
  have hl : lv_has ls 4 [(0, .ref o0), (1, .int t)] := hl
  refine lv_aload_n hx hb dX1_shownBy_0 rfl (lv_at hl 0 rfl) ?_
  refine va_get hx hb hts inlX1 hown hE.1 hP 0 rfl rfl 2 (by decide) (fl_X1_28 hts) (fun _ h9 => h9) rfl dX1_shownBy_1 ?_
  refine lv_iload_n hx hb dX1_shownBy_4 rfl (lv_at hl 1 rfl) ?_
  refine rd_callV (As := [.int t]) (rest := []) hx hb hml hown hts hE hl.1 (c_X0_downOf l G h0 h1 h2 h3 Yr Dn Rt q t (by first | assumption | omega)) (cw_X1_76 hts) ⟨(Nat.le_of_ble_eq_true rfl), (Nat.le_of_ble_eq_true rfl)⟩ ⟨Nat.zero_le _, Nat.zero_le _⟩ rfl (sub_P hP [7, 8, 9, 10] rfl) rfl rfl rfl rfl (Nat.le_of_ble_eq_true rfl) dX1_shownBy_5 ?_
  refine lv_iconst (v := 2) hx hb dX1_shownBy_8 (by decide) ?_
  refine lv_isub hx hb dX1_shownBy_9 ?_
  refine lv_istore_n (lv' := [(2, .int ((atI q Dn t) - 2)), (0, .ref o0), (1, .int t)]) hx hb dX1_shownBy_10 rfl hl (by decide) rfl (fun ls hl => ?_)
  refine lv_aload_n hx hb dX1_shownBy_11 rfl (lv_at hl 1 rfl) ?_
  refine va_get hx hb hts inlX1 hown hE.1 hP 0 rfl rfl 2 (by decide) (fl_X1_28 hts) (fun _ h9 => h9) rfl dX1_shownBy_12 ?_
  refine lv_iload_n hx hb dX1_shownBy_15 rfl (lv_at hl 2 rfl) ?_
  refine rd_callV (As := [.int t]) (rest := []) hx hb hml hown hts hE hl.1 (c_X0_rightOf l G h0 h1 h2 h3 Yr Dn Rt q t (by first | assumption | omega)) (cw_X1_79 hts) ⟨(Nat.le_of_ble_eq_true rfl), (Nat.le_of_ble_eq_true rfl)⟩ ⟨Nat.zero_le _, Nat.zero_le _⟩ rfl (sub_P hP [7, 8, 9, 10] rfl) rfl rfl rfl rfl (Nat.le_of_ble_eq_true rfl) dX1_shownBy_16 ?_
  refine lv_iconst (v := 2) hx hb dX1_shownBy_19 (by decide) ?_
  refine lv_isub hx hb dX1_shownBy_20 ?_
  refine lv_istore_n (lv' := [(3, .int ((atI q Rt t) - 2)), (2, .int ((atI q Dn t) - 2)), (0, .ref o0), (1, .int t)]) hx hb dX1_shownBy_21 rfl hl (by decide) rfl (fun ls hl => ?_)
  refine lv_aload_n hx hb dX1_shownBy_22 rfl (lv_at hl 2 rfl) ?_
  refine va_get hx hb hts inlX1 hown hE.1 hP 0 rfl rfl 0 (by decide) (fl_X1_12 hts) (fun _ h9 => h9) rfl dX1_shownBy_23 ?_
  refine lv_aload_n hx hb dX1_shownBy_26 rfl (lv_at hl 2 rfl) ?_
  refine lv_aload_n hx hb dX1_shownBy_27 rfl (lv_at hl 2 rfl) ?_
  refine va_get hx hb hts inlX1 hown hE.1 hP 0 rfl rfl 2 (by decide) (fl_X1_28 hts) (fun _ h9 => h9) rfl dX1_shownBy_28 ?_
  refine lv_iload_n hx hb dX1_shownBy_31 rfl (lv_at hl 3 rfl) ?_
  refine rd_callV (As := [.int t]) (rest := [.ref o0, .ref g0]) hx hb hml hown hts hE hl.1 (c_X0_yearOf l G h0 h1 h2 h3 Yr Dn Rt q t (by first | assumption | omega)) (cw_X1_82 hts) ⟨(Nat.le_of_ble_eq_true rfl), (Nat.le_of_ble_eq_true rfl)⟩ ⟨Nat.zero_le _, Nat.zero_le _⟩ rfl (sub_P hP [7, 8, 9, 10] rfl) rfl rfl rfl rfl (Nat.le_of_ble_eq_true rfl) dX1_shownBy_32 ?_
  refine rd_callV (As := [.int (atI q Yr t)]) (rest := [.ref g0]) hx hb hml hown hts hE hl.1 (c_X1_drawnCells l G o0 g0 nr nc a0 a1 a2 a3 a4 C B F K n y h0 h1 h2 h3 Yr Dn Rt q (atI q Yr t) (by first | assumption | omega) (by first | assumption | omega) (by first | assumption | omega) (by first | assumption | omega)) (cw_X1_85 hts) ⟨(Nat.le_of_ble_eq_true rfl), (Nat.le_of_ble_eq_true rfl)⟩ ⟨Nat.zero_le _, Nat.zero_le _⟩ rfl (sub_P hP [0, 1, 2, 3, 4, 5, 6, 7, 8, 9, 10] rfl) rfl rfl rfl rfl (Nat.le_of_ble_eq_true rfl) dX1_shownBy_35 ?_
  refine lv_iload_n hx hb dX1_shownBy_38 rfl (lv_at hl 1 rfl) ?_
  refine lv_iload_n hx hb dX1_shownBy_39 rfl (lv_at hl 0 rfl) ?_
  refine rd_callV (As := [.long (drC nr nc C F K (atI q Yr t) n), .int ((atI q Dn t) - 2), .int ((atI q Rt t) - 2)]) (rest := []) hx hb hml hown hts hE hl.1 (c_X2_shiftAll l G g0 nr nc (drC nr nc C F K (atI q Yr t) n) ((atI q Dn t) - 2) ((atI q Rt t) - 2) (by first | assumption | omega) (by first | assumption | omega)) (cw_X1_88 hts) ⟨(Nat.le_of_ble_eq_true rfl), (Nat.le_of_ble_eq_true rfl)⟩ ⟨Nat.zero_le _, Nat.zero_le _⟩ rfl (sub_P hP [1] rfl) rfl rfl rfl rfl (Nat.le_of_ble_eq_true rfl) dX1_shownBy_40 ?_
  exact rd_lret hx hb hr hlk dX1_shownBy_43 (by first | rfl | (simp [zb]; done))

set_option maxHeartbeats 4000000 in
set_option maxRecDepth 100000 in
theorem c_X1_yearMapped (l : Launch) (G : Gv) (o0 : Nat) (g0 : Nat) (nr : Nat) (nc : Nat) (a0 : Nat) (a1 : Nat) (a2 : Nat) (a3 : Nat) (a4 : Nat) (C : Nat → Int32) (B : Nat → Int32) (F : Nat → Int32) (K : Nat → Int32) (n : Nat) (y : Int32) (h0 : Nat) (h1 : Nat) (h2 : Nat) (h3 : Nat) (Yr : Nat → Int32) (Dn : Nat → Int32) (Rt : Nat → Int32) (q : Nat) (t : Int32) (hg1 : 2 ≤ nr ∧ nr ≤ 8) (hg2 : 2 ≤ nc ∧ nc ≤ 8) (hn : n ≤ 10) (hq : q ≤ 5) : Rd l yX1_yearMapped cX1_yearMapped 4 (some .int) (rmz 2 43) G [.ref o0, .int t] [(o0, .inr (1, [.ref g0, .ref a0, .ref h0])), (g0, .inr (2, [.int (nI nr), .int (nI nc)])), (a0, .inr (4, [.ref a1, .ref a2, .ref a3, .ref a4, .int (nI n), .int y])), (a1, .inl (kI G, 10, .inl C)), (a2, .inl (kI G, 10, .inl B)), (a3, .inl (kI G, 10, .inl F)), (a4, .inl (kI G, 10, .inl K)), (h0, .inr (0, [.ref h1, .ref h2, .ref h3, .int (nI q)])), (h1, .inl (kI G, 5, .inl Yr)), (h2, .inl (kI G, 5, .inl Dn)), (h3, .inl (kI G, 5, .inl Rt))] (.int (ymI n F K Yr t q)) := by
  refine Rd.ofW (by decide) (Nat.le_of_ble_eq_true rfl) ?_
  intro p e s m below meth c ls hx hb hml hr hown hts hlk hP hE hl
  have hl : lv_has ls 4 [(0, .ref o0), (1, .int t)] := hl
  have J_6 : ∀ (n_ : Nat) (k : Nat) (acc : Int32) (hk : k ≤ q) (ha : acc = ymI n F K Yr t k) (hm_6 : q - k < n_), ∀ ls : Array Slot, lv_has ls 4 [(0, .ref o0), (1, .int t), (2, .int acc), (3, .int (nI k))] → WR p l e (rmz 2 43) s m [.ref o0, .int t] below meth c (.int (ymI n F K Yr t q)) (F0 m 6 ls []) := by
    intro n_
    induction n_ with
    | zero =>
      intro k acc hk ha hm_6
      exact absurd hm_6 (Nat.not_lt_zero _)
    | succ n_ ih_6 =>
      intro k acc hk ha hm_6 ls hl
      refine lv_iload_n hx hb dX1_yearMapped_6 rfl (lv_at hl 3 rfl) ?_
      refine lv_aload_n hx hb dX1_yearMapped_7 rfl (lv_at hl 0 rfl) ?_
      refine va_get hx hb hts inlX1 hown hE.1 hP 0 rfl rfl 2 (by decide) (fl_X1_28 hts) (fun _ h9 => h9) rfl dX1_yearMapped_8 ?_
      refine rd_callV (As := []) (rest := [.int (nI k)]) hx hb hml hown hts hE hl.1 (c_X0_size l G h0 h1 h2 h3 Yr Dn Rt q ) (cw_X1_102 hts) ⟨(Nat.le_of_ble_eq_true rfl), (Nat.le_of_ble_eq_true rfl)⟩ ⟨Nat.zero_le _, Nat.zero_le _⟩ rfl (sub_P hP [7, 8, 9, 10] rfl) rfl rfl rfl rfl (Nat.le_of_ble_eq_true rfl) dX1_yearMapped_11 ?_
      refine lv_icmp_ge (tgt := 67) hx hb dX1_yearMapped_14 (by decide) (fun c14 => ?_) (fun c14 => ?_)
      · have hkn : q ≤ k := le_of_le (by omega) (by omega) c14
        refine lv_iload_n hx hb dX1_yearMapped_67 rfl (lv_at hl 2 rfl) ?_
        exact rd_iret hx hb hr hlk dX1_yearMapped_68 (by rw [ha, show k = q by omega])
      · have hkn : k < q := lt_of_nle (by omega) (by omega) c14
        refine lv_aload_n hx hb dX1_yearMapped_17 rfl (lv_at hl 0 rfl) ?_
        refine va_get hx hb hts inlX1 hown hE.1 hP 0 rfl rfl 1 (by decide) (fl_X1_21 hts) (fun _ h9 => h9) rfl dX1_yearMapped_18 ?_
        refine lv_iload_n hx hb dX1_yearMapped_21 rfl (lv_at hl 1 rfl) ?_
        refine rd_callV (As := [.int t]) (rest := []) hx hb hml hown hts hE hl.1 (c_X4_kindOf l G a0 a1 a2 a3 a4 C B F K n y t (by first | assumption | omega)) (cw_X1_61 hts) ⟨(Nat.le_of_ble_eq_true rfl), (Nat.le_of_ble_eq_true rfl)⟩ ⟨Nat.zero_le _, Nat.zero_le _⟩ rfl (sub_P hP [2, 3, 4, 5, 6] rfl) rfl rfl rfl rfl (Nat.le_of_ble_eq_true rfl) dX1_yearMapped_22 ?_
        refine lv_iconst (v := 3) hx hb dX1_yearMapped_25 (by decide) ?_
        refine lv_icmp_eq (tgt := 61) hx hb dX1_yearMapped_26 (by decide) (fun c26 => ?_) (fun c26 => ?_)
        · refine lv_iinc (v := nI (k + 1)) (lv' := [(3, .int (nI (k + 1))), (0, .ref o0), (1, .int t), (2, .int acc)]) hx hb dX1_yearMapped_61 hl (k := 3) rfl (nI_1 k) (by decide) rfl (fun ls hl => ?_)
          refine lv_goto (tgt := 6) hx hb dX1_yearMapped_64 (by decide) ?_
          have ha0 := ha
          rw [ymI] at ha0
          exact ih_6 (k + 1) acc (by first | assumption | omega | rfl) (by rw [ymI, it_s]; simp only [← ha0]; simp [c14, c26]) (by omega) ls (lv_sub hl [1, 2, 3, 0] rfl)
        · refine lv_aload_n hx hb dX1_yearMapped_29 rfl (lv_at hl 0 rfl) ?_
          refine va_get hx hb hts inlX1 hown hE.1 hP 0 rfl rfl 1 (by decide) (fl_X1_21 hts) (fun _ h9 => h9) rfl dX1_yearMapped_30 ?_
          refine lv_iload_n hx hb dX1_yearMapped_33 rfl (lv_at hl 1 rfl) ?_
          refine lv_aload_n hx hb dX1_yearMapped_34 rfl (lv_at hl 0 rfl) ?_
          refine va_get hx hb hts inlX1 hown hE.1 hP 0 rfl rfl 2 (by decide) (fl_X1_28 hts) (fun _ h9 => h9) rfl dX1_yearMapped_35 ?_
          refine lv_iload_n hx hb dX1_yearMapped_38 rfl (lv_at hl 3 rfl) ?_
          refine rd_callV (As := [.int (nI k)]) (rest := [.int t, .ref a0]) hx hb hml hown hts hE hl.1 (c_X0_yearOf l G h0 h1 h2 h3 Yr Dn Rt q (nI k) (by first | assumption | omega)) (cw_X1_82 hts) ⟨(Nat.le_of_ble_eq_true rfl), (Nat.le_of_ble_eq_true rfl)⟩ ⟨Nat.zero_le _, Nat.zero_le _⟩ rfl (sub_P hP [7, 8, 9, 10] rfl) rfl rfl rfl rfl (Nat.le_of_ble_eq_true rfl) dX1_yearMapped_39 ?_
          rw [atI_nI hkn (by omega)]
          refine rd_callV (As := [.int t, .int (Yr k)]) (rest := []) hx hb hml hown hts hE hl.1 (c_X4_isLostBy l G a0 a1 a2 a3 a4 C B F K n y t (Yr k) (by first | assumption | omega)) (cw_X1_58 hts) ⟨(Nat.le_of_ble_eq_true rfl), (Nat.le_of_ble_eq_true rfl)⟩ ⟨Nat.zero_le _, Nat.zero_le _⟩ rfl (sub_P hP [2, 3, 4, 5, 6] rfl) rfl rfl rfl rfl (Nat.le_of_ble_eq_true rfl) dX1_yearMapped_42 ?_
          refine lv_if_eq (tgt := 61) hx hb dX1_yearMapped_45 (by decide) (fun c45 => ?_) (fun c45 => ?_)
          · have c45 := zb_0.mp c45
            refine lv_iinc (v := nI (k + 1)) (lv' := [(3, .int (nI (k + 1))), (0, .ref o0), (1, .int t), (2, .int acc)]) hx hb dX1_yearMapped_61 hl (k := 3) rfl (nI_1 k) (by decide) rfl (fun ls hl => ?_)
            refine lv_goto (tgt := 6) hx hb dX1_yearMapped_64 (by decide) ?_
            have ha0 := ha
            rw [ymI] at ha0
            exact ih_6 (k + 1) acc (by first | assumption | omega | rfl) (by rw [ymI, it_s]; simp only [← ha0]; simp [c14, c26, c45]) (by omega) ls (lv_sub hl [1, 2, 3, 0] rfl)
          · have c45 := zb_n0.mp c45
            refine lv_iload_n hx hb dX1_yearMapped_48 rfl (lv_at hl 2 rfl) ?_
            refine lv_aload_n hx hb dX1_yearMapped_49 rfl (lv_at hl 0 rfl) ?_
            refine va_get hx hb hts inlX1 hown hE.1 hP 0 rfl rfl 2 (by decide) (fl_X1_28 hts) (fun _ h9 => h9) rfl dX1_yearMapped_50 ?_
            refine lv_iload_n hx hb dX1_yearMapped_53 rfl (lv_at hl 3 rfl) ?_
            refine rd_callV (As := [.int (nI k)]) (rest := [.int acc]) hx hb hml hown hts hE hl.1 (c_X0_yearOf l G h0 h1 h2 h3 Yr Dn Rt q (nI k) (by first | assumption | omega)) (cw_X1_82 hts) ⟨(Nat.le_of_ble_eq_true rfl), (Nat.le_of_ble_eq_true rfl)⟩ ⟨Nat.zero_le _, Nat.zero_le _⟩ rfl (sub_P hP [7, 8, 9, 10] rfl) rfl rfl rfl rfl (Nat.le_of_ble_eq_true rfl) dX1_yearMapped_54 ?_
            rw [atI_nI hkn (by omega)]
            refine va_mmin hx hb (hml.trans hl.1.symm) hown (ml_X1_103 hts) (st_Lib_Math_min_name hts) (in__java_lang_Math_ hts) (cd_Lib_min_name hts) (Nat.le_of_ble_eq_true rfl) (Nat.le_of_ble_eq_true rfl) (Nat.zero_le _) (Nat.zero_le _) dX1_yearMapped_57 ?_
            refine lv_istore_n (lv' := [(2, .int (if (Yr k) < acc then (Yr k) else acc)), (0, .ref o0), (1, .int t), (3, .int (nI k))]) hx hb dX1_yearMapped_60 rfl hl (by decide) rfl (fun ls hl => ?_)
            refine lv_iinc (v := nI (k + 1)) (lv' := [(3, .int (nI (k + 1))), (2, .int (if (Yr k) < acc then (Yr k) else acc)), (0, .ref o0), (1, .int t)]) hx hb dX1_yearMapped_61 hl (k := 3) rfl (nI_1 k) (by decide) rfl (fun ls hl => ?_)
            refine lv_goto (tgt := 6) hx hb dX1_yearMapped_64 (by decide) ?_
            have ha0 := ha
            rw [ymI] at ha0
            exact ih_6 (k + 1) (if (Yr k) < acc then (Yr k) else acc) (by first | assumption | omega | rfl) (by rw [ymI, it_s]; simp only [← ha0]; simp [c14, c26, c45]) (by omega) ls (lv_sub hl [2, 3, 1, 0] rfl)
  refine lv_sipush (v := 1000) hx hb dX1_yearMapped_0 (by decide) ?_
  refine lv_istore_n (lv' := [(2, .int 1000), (0, .ref o0), (1, .int t)]) hx hb dX1_yearMapped_3 rfl hl (by decide) rfl (fun ls hl => ?_)
  refine lv_iconst (v := 0) hx hb dX1_yearMapped_4 (by decide) ?_
  refine lv_istore_n (lv' := [(3, .int 0), (2, .int 1000), (0, .ref o0), (1, .int t)]) hx hb dX1_yearMapped_5 rfl hl (by decide) rfl (fun ls hl => ?_)
  exact J_6 (q - 0 + 1) 0 1000 (by first | assumption | omega | rfl) rfl (Nat.lt_succ_self _) ls (lv_sub hl [2, 3, 1, 0] rfl)

set_option maxHeartbeats 4000000 in
set_option maxRecDepth 100000 in
theorem c_X1_ordersOfFall (l : Launch) (G : Gv) (o0 : Nat) (g0 : Nat) (nr : Nat) (nc : Nat) (a0 : Nat) (a1 : Nat) (a2 : Nat) (a3 : Nat) (a4 : Nat) (C : Nat → Int32) (B : Nat → Int32) (F : Nat → Int32) (K : Nat → Int32) (n : Nat) (y : Int32) (h0 : Nat) (h1 : Nat) (h2 : Nat) (h3 : Nat) (Yr : Nat → Int32) (Dn : Nat → Int32) (Rt : Nat → Int32) (q : Nat) (hg1 : 2 ≤ nr ∧ nr ≤ 8) (hg2 : 2 ≤ nc ∧ nc ≤ 8) (hn : n ≤ 10) (hq : q ≤ 5) : Rd l yX1_ordersOfFall cX1_ordersOfFall 6 (some .int) (rmz 3 66) G [.ref o0] [(o0, .inr (1, [.ref g0, .ref a0, .ref h0])), (g0, .inr (2, [.int (nI nr), .int (nI nc)])), (a0, .inr (4, [.ref a1, .ref a2, .ref a3, .ref a4, .int (nI n), .int y])), (a1, .inl (kI G, 10, .inl C)), (a2, .inl (kI G, 10, .inl B)), (a3, .inl (kI G, 10, .inl F)), (a4, .inl (kI G, 10, .inl K)), (h0, .inr (0, [.ref h1, .ref h2, .ref h3, .int (nI q)])), (h1, .inl (kI G, 5, .inl Yr)), (h2, .inl (kI G, 5, .inl Dn)), (h3, .inl (kI G, 5, .inl Rt))] (.int (orA n F K Yr q n)) := by
  refine Rd.ofW (by decide) (Nat.le_of_ble_eq_true rfl) ?_
  intro p e s m below meth c ls hx hb hml hr hown hts hlk hP hE hl
  have hl : lv_has ls 6 [(0, .ref o0)] := hl
  have J_4 : ∀ (n_ : Nat) (k : Nat) (acc : Int32) (hk : k ≤ n) (ha : acc = orA n F K Yr q k) (hm_4 : n - k < n_), ∀ ls : Array Slot, lv_has ls 6 [(0, .ref o0), (1, .int acc), (2, .int (nI k))] → WR p l e (rmz 3 66) s m [.ref o0] below meth c (.int (orA n F K Yr q n)) (F0 m 4 ls []) := by
    intro n_
    induction n_ with
    | zero =>
      intro k acc hk ha hm_4
      exact absurd hm_4 (Nat.not_lt_zero _)
    | succ n_ ih_4 =>
      intro k acc hk ha hm_4 ls hl
      have J_34 : ∀ (n_ : Nat) (u : Nat) (tg : Int32) (hkn : k < n) (hne : ¬ ymI n F K Yr (nI k) q = 1000) (hu : u ≤ k) (htg : tg = tgA n F K Yr q (ymI n F K Yr (nI k) q) u) (hm_34 : k - u < n_), ∀ ls : Array Slot, lv_has ls 6 [(0, .ref o0), (1, .int acc), (2, .int (nI k)), (3, .int (ymI n F K Yr (nI k) q)), (4, .int tg), (5, .int (nI u))] → WR p l e (rmz 3 66) s m [.ref o0] below meth c (.int (orA n F K Yr q n)) (F0 m 34 ls []) := by
        intro n_
        induction n_ with
        | zero =>
          intro u tg hkn hne hu htg hm_34
          exact absurd hm_34 (Nat.not_lt_zero _)
        | succ n_ ih_34 =>
          intro u tg hkn hne hu htg hm_34 ls hl
          refine lv_iload hx hb dX1_ordersOfFall_34 (lv_at hl 5 rfl) ?_
          refine lv_iload_n hx hb dX1_ordersOfFall_36 rfl (lv_at hl 2 rfl) ?_
          refine lv_icmp_ge (tgt := 66) hx hb dX1_ordersOfFall_37 (by decide) (fun c37 => ?_) (fun c37 => ?_)
          · have huk : k ≤ u := le_of_le (by omega) (by omega) c37
            have hz : tg = tgA n F K Yr q (ymI n F K Yr (nI k) q) k := by rw [htg, show u = k by omega]
            refine lv_iload_n hx hb dX1_ordersOfFall_66 rfl (lv_at hl 1 rfl) ?_
            refine lv_iload hx hb dX1_ordersOfFall_67 (lv_at hl 4 rfl) ?_
            refine lv_imul hx hb dX1_ordersOfFall_69 ?_
            refine lv_istore_n (lv' := [(1, .int (acc * tg)), (0, .ref o0), (2, .int (nI k)), (3, .int (ymI n F K Yr (nI k) q)), (4, .int tg), (5, .int (nI u))]) hx hb dX1_ordersOfFall_70 rfl hl (by decide) rfl (fun ls hl => ?_)
            refine lv_iinc (v := nI (k + 1)) (lv' := [(2, .int (nI (k + 1))), (1, .int (acc * tg)), (0, .ref o0), (3, .int (ymI n F K Yr (nI k) q)), (4, .int tg), (5, .int (nI u))]) hx hb dX1_ordersOfFall_71 hl (k := 2) rfl (nI_1 k) (by decide) rfl (fun ls hl => ?_)
            refine lv_goto (tgt := 4) hx hb dX1_ordersOfFall_74 (by decide) ?_
            have ha0 := ha
            rw [orA] at ha0
            exact ih_4 (k + 1) (acc * tg) (by first | assumption | omega | rfl) (by rw [orA, it_s]; simp only [← ha0]; first | (simp [c37]; done) | (simp [hne, hz]; done)) (by omega) ls (lv_sub hl [2, 1, 0] rfl)
          · have huk : u < k := lt_of_nle (by omega) (by omega) c37
            refine lv_iload hx hb dX1_ordersOfFall_40 (lv_at hl 4 rfl) ?_
            refine lv_aload_n hx hb dX1_ordersOfFall_42 rfl (lv_at hl 0 rfl) ?_
            refine lv_iload hx hb dX1_ordersOfFall_43 (lv_at hl 5 rfl) ?_
            refine rd_callV (As := [.int (nI u)]) (rest := [.int tg]) hx hb hml hown hts hE hl.1 (c_X1_yearMapped l G o0 g0 nr nc a0 a1 a2 a3 a4 C B F K n y h0 h1 h2 h3 Yr Dn Rt q (nI u) (by first | assumption | omega) (by first | assumption | omega) (by first | assumption | omega) (by first | assumption | omega)) (cw_X1_99 hts) ⟨(Nat.le_of_ble_eq_true rfl), (Nat.le_of_ble_eq_true rfl)⟩ ⟨Nat.zero_le _, Nat.zero_le _⟩ rfl (sub_P hP [0, 1, 2, 3, 4, 5, 6, 7, 8, 9, 10] rfl) rfl rfl rfl rfl (Nat.le_of_ble_eq_true rfl) dX1_ordersOfFall_45 ?_
            refine lv_iload_n hx hb dX1_ordersOfFall_48 rfl (lv_at hl 3 rfl) ?_
            refine lv_icmp_ne (tgt := 56) hx hb dX1_ordersOfFall_49 (by decide) (fun c49 => ?_) (fun c49 => ?_)
            · refine lv_iconst (v := 0) hx hb dX1_ordersOfFall_56 (by decide) ?_
              refine lv_iadd hx hb dX1_ordersOfFall_57 ?_
              refine lv_istore (lv' := [(4, .int (tg + 0)), (0, .ref o0), (1, .int acc), (2, .int (nI k)), (3, .int (ymI n F K Yr (nI k) q)), (5, .int (nI u))]) hx hb dX1_ordersOfFall_58 hl (by decide) rfl (fun ls hl => ?_)
              refine lv_iinc (v := nI (u + 1)) (lv' := [(5, .int (nI (u + 1))), (4, .int (tg + 0)), (0, .ref o0), (1, .int acc), (2, .int (nI k)), (3, .int (ymI n F K Yr (nI k) q))]) hx hb dX1_ordersOfFall_60 hl (k := 5) rfl (nI_1 u) (by decide) rfl (fun ls hl => ?_)
              refine lv_goto (tgt := 34) hx hb dX1_ordersOfFall_63 (by decide) ?_
              have htg0 := htg
              rw [tgA] at htg0
              exact ih_34 (u + 1) (tg + 0) (by first | assumption | omega | rfl) (by assumption) (by first | assumption | omega | rfl) (by rw [tgA, it_s]; simp only [← htg0]; simp [c37, c49]) (by omega) ls (lv_sub hl [2, 3, 4, 5, 1, 0] rfl)
            · refine lv_iconst (v := 1) hx hb dX1_ordersOfFall_52 (by decide) ?_
              refine lv_goto (tgt := 57) hx hb dX1_ordersOfFall_53 (by decide) ?_
              refine lv_iadd hx hb dX1_ordersOfFall_57 ?_
              refine lv_istore (lv' := [(4, .int (tg + 1)), (0, .ref o0), (1, .int acc), (2, .int (nI k)), (3, .int (ymI n F K Yr (nI k) q)), (5, .int (nI u))]) hx hb dX1_ordersOfFall_58 hl (by decide) rfl (fun ls hl => ?_)
              refine lv_iinc (v := nI (u + 1)) (lv' := [(5, .int (nI (u + 1))), (4, .int (tg + 1)), (0, .ref o0), (1, .int acc), (2, .int (nI k)), (3, .int (ymI n F K Yr (nI k) q))]) hx hb dX1_ordersOfFall_60 hl (k := 5) rfl (nI_1 u) (by decide) rfl (fun ls hl => ?_)
              refine lv_goto (tgt := 34) hx hb dX1_ordersOfFall_63 (by decide) ?_
              have htg0 := htg
              rw [tgA] at htg0
              exact ih_34 (u + 1) (tg + 1) (by first | assumption | omega | rfl) (by assumption) (by first | assumption | omega | rfl) (by rw [tgA, it_s]; simp only [← htg0]; simp [c37, c49]) (by omega) ls (lv_sub hl [2, 3, 4, 5, 1, 0] rfl)
      refine lv_iload_n hx hb dX1_ordersOfFall_4 rfl (lv_at hl 2 rfl) ?_
      refine lv_aload_n hx hb dX1_ordersOfFall_5 rfl (lv_at hl 0 rfl) ?_
      refine va_get hx hb hts inlX1 hown hE.1 hP 0 rfl rfl 1 (by decide) (fl_X1_21 hts) (fun _ h9 => h9) rfl dX1_ordersOfFall_6 ?_
      refine rd_callV (As := []) (rest := [.int (nI k)]) hx hb hml hown hts hE hl.1 (c_X4_size l G a0 a1 a2 a3 a4 C B F K n y ) (cw_X1_54 hts) ⟨(Nat.le_of_ble_eq_true rfl), (Nat.le_of_ble_eq_true rfl)⟩ ⟨Nat.zero_le _, Nat.zero_le _⟩ rfl (sub_P hP [2, 3, 4, 5, 6] rfl) rfl rfl rfl rfl (Nat.le_of_ble_eq_true rfl) dX1_ordersOfFall_9 ?_
      refine lv_icmp_ge (tgt := 77) hx hb dX1_ordersOfFall_12 (by decide) (fun c12 => ?_) (fun c12 => ?_)
      · have hkn : n ≤ k := le_of_le (by omega) (by omega) c12
        refine lv_iload_n hx hb dX1_ordersOfFall_77 rfl (lv_at hl 1 rfl) ?_
        exact rd_iret hx hb hr hlk dX1_ordersOfFall_78 (by rw [ha, show k = n by omega])
      · have hkn : k < n := lt_of_nle (by omega) (by omega) c12
        refine lv_aload_n hx hb dX1_ordersOfFall_15 rfl (lv_at hl 0 rfl) ?_
        refine lv_iload_n hx hb dX1_ordersOfFall_16 rfl (lv_at hl 2 rfl) ?_
        refine rd_callV (As := [.int (nI k)]) (rest := []) hx hb hml hown hts hE hl.1 (c_X1_yearMapped l G o0 g0 nr nc a0 a1 a2 a3 a4 C B F K n y h0 h1 h2 h3 Yr Dn Rt q (nI k) (by first | assumption | omega) (by first | assumption | omega) (by first | assumption | omega) (by first | assumption | omega)) (cw_X1_99 hts) ⟨(Nat.le_of_ble_eq_true rfl), (Nat.le_of_ble_eq_true rfl)⟩ ⟨Nat.zero_le _, Nat.zero_le _⟩ rfl (sub_P hP [0, 1, 2, 3, 4, 5, 6, 7, 8, 9, 10] rfl) rfl rfl rfl rfl (Nat.le_of_ble_eq_true rfl) dX1_ordersOfFall_17 ?_
        refine lv_istore_n (lv' := [(3, .int (ymI n F K Yr (nI k) q)), (0, .ref o0), (1, .int acc), (2, .int (nI k))]) hx hb dX1_ordersOfFall_20 rfl hl (by decide) rfl (fun ls hl => ?_)
        refine lv_iload_n hx hb dX1_ordersOfFall_21 rfl (lv_at hl 0 rfl) ?_
        refine lv_sipush (v := 1000) hx hb dX1_ordersOfFall_22 (by decide) ?_
        refine lv_icmp_eq (tgt := 71) hx hb dX1_ordersOfFall_25 (by decide) (fun c25 => ?_) (fun c25 => ?_)
        · refine lv_iinc (v := nI (k + 1)) (lv' := [(2, .int (nI (k + 1))), (3, .int (ymI n F K Yr (nI k) q)), (0, .ref o0), (1, .int acc)]) hx hb dX1_ordersOfFall_71 hl (k := 3) rfl (nI_1 k) (by decide) rfl (fun ls hl => ?_)
          refine lv_goto (tgt := 4) hx hb dX1_ordersOfFall_74 (by decide) ?_
          have ha0 := ha
          rw [orA] at ha0
          exact ih_4 (k + 1) acc (by first | assumption | omega | rfl) (by rw [orA, it_s]; simp only [← ha0]; first | (simp [c12, c25]; done) | (simp [hne, hz]; done)) (by omega) ls (lv_sub hl [2, 3, 0] rfl)
        · refine lv_iconst (v := 1) hx hb dX1_ordersOfFall_28 (by decide) ?_
          refine lv_istore (lv' := [(4, .int 1), (3, .int (ymI n F K Yr (nI k) q)), (0, .ref o0), (1, .int acc), (2, .int (nI k))]) hx hb dX1_ordersOfFall_29 hl (by decide) rfl (fun ls hl => ?_)
          refine lv_iconst (v := 0) hx hb dX1_ordersOfFall_31 (by decide) ?_
          refine lv_istore (lv' := [(5, .int 0), (4, .int 1), (3, .int (ymI n F K Yr (nI k) q)), (0, .ref o0), (1, .int acc), (2, .int (nI k))]) hx hb dX1_ordersOfFall_32 hl (by decide) rfl (fun ls hl => ?_)
          exact J_34 (k - 0 + 1) 0 1 (by first | assumption | omega | rfl) (by assumption) (by first | assumption | omega | rfl) rfl (Nat.lt_succ_self _) ls (lv_sub hl [3, 4, 5, 2, 1, 0] rfl)
  refine lv_iconst (v := 1) hx hb dX1_ordersOfFall_0 (by decide) ?_
  refine lv_istore_n (lv' := [(1, .int 1), (0, .ref o0)]) hx hb dX1_ordersOfFall_1 rfl hl (by decide) rfl (fun ls hl => ?_)
  refine lv_iconst (v := 0) hx hb dX1_ordersOfFall_2 (by decide) ?_
  refine lv_istore_n (lv' := [(2, .int 0), (1, .int 1), (0, .ref o0)]) hx hb dX1_ordersOfFall_3 rfl hl (by decide) rfl (fun ls hl => ?_)
  exact J_4 (n - 0 + 1) 0 1 (by first | assumption | omega | rfl) rfl (Nat.lt_succ_self _) ls (lv_sub hl [2, 1, 0] rfl)

set_option maxHeartbeats 4000000 in
set_option maxRecDepth 100000 in
theorem c_X1_clear (l : Launch) (G : Gv) (o0 : Nat) (g0 : Nat) (nr : Nat) (nc : Nat) (a0 : Nat) (a1 : Nat) (a2 : Nat) (a3 : Nat) (a4 : Nat) (C : Nat → Int32) (B : Nat → Int32) (F : Nat → Int32) (K : Nat → Int32) (n : Nat) (y : Int32) (h0 : Nat) (h1 : Nat) (h2 : Nat) (h3 : Nat) (Yr : Nat → Int32) (Dn : Nat → Int32) (Rt : Nat → Int32) (q : Nat)  : Ct l yX1_clear cX1_clear 1 none (rmz 2 42) G [.ref o0] [(o0, .inr (1, [.ref g0, .ref a0, .ref h0])), (g0, .inr (2, [.int (nI nr), .int (nI nc)])), (a0, .inr (4, [.ref a1, .ref a2, .ref a3, .ref a4, .int (nI n), .int y])), (a1, .inl (kI G, 10, .inl C)), (a2, .inl (kI G, 10, .inl B)), (a3, .inl (kI G, 10, .inl F)), (a4, .inl (kI G, 10, .inl K)), (h0, .inr (0, [.ref h1, .ref h2, .ref h3, .int (nI q)])), (h1, .inl (kI G, 5, .inl Yr)), (h2, .inl (kI G, 5, .inl Dn)), (h3, .inl (kI G, 5, .inl Rt))] (one none [(o0, .inr (1, [.ref g0, .ref a0, .ref h0])), (g0, .inr (2, [.int 5, .int 5])), (a0, .inr (4, [.ref a1, .ref a2, .ref a3, .ref a4, .int 0, .int 0])), (a1, .inl (kI G, 10, .inl C)), (a2, .inl (kI G, 10, .inl B)), (a3, .inl (kI G, 10, .inl F)), (a4, .inl (kI G, 10, .inl K)), (h0, .inr (0, [.ref h1, .ref h2, .ref h3, .int 0])), (h1, .inl (kI G, 5, .inl Yr)), (h2, .inl (kI G, 5, .inl Dn)), (h3, .inl (kI G, 5, .inl Rt))]) := by
  refine Ct.ofW (by decide) (Nat.le_of_ble_eq_true rfl) ?_
  intro p e s m below meth c ls A hx hb hml hr hown hts hlk hnm hP hD hA hE hS hl
  obtain ⟨H, eH⟩ : ∃ H : Heap, H = s.heap := ⟨_, rfl⟩
  obtain ⟨locs, eL⟩ : ∃ ll : List Loc, ll = [] := ⟨_, rfl⟩
  rw [← eH] at hP
  have hS : va_S A s.heap H locs := by rw [eH, eL]; exact hS
  show WC p l e _ s m _ below meth c G A _ s.heap [] 0 0 _
  rw [← eH, ← eL]
  clear eH eL
  have hl : lv_has ls 1 [(0, .ref o0)] := hl
  refine lv_aload_n hx hb dX1_clear_0 rfl (lv_at hl 0 rfl) ?_
  refine va_get hx hb hts inlX1 hown hE.1 hP 0 rfl rfl 0 (by decide) (fl_X1_12 hts) (fun _ h9 => h9) rfl dX1_clear_1 ?_
  refine lv_iconst (v := 5) hx hb dX1_clear_4 (by decide) ?_
  refine lv_iconst (v := 5) hx hb dX1_clear_5 (by decide) ?_
  refine ct_callV (w1 := [(g0, .inr (2, [.int (nI 5), .int (nI 5)]))]) (wr := [(o0, .inr (1, [.ref g0, .ref a0, .ref h0])), (a0, .inr (4, [.ref a1, .ref a2, .ref a3, .ref a4, .int (nI n), .int y])), (a1, .inl (kI G, 10, .inl C)), (a2, .inl (kI G, 10, .inl B)), (a3, .inl (kI G, 10, .inl F)), (a4, .inl (kI G, 10, .inl K)), (h0, .inr (0, [.ref h1, .ref h2, .ref h3, .int (nI q)])), (h1, .inl (kI G, 5, .inl Yr)), (h2, .inl (kI G, 5, .inl Dn)), (h3, .inl (kI G, 5, .inl Rt))]) (wn := [(o0, .inr (1, [.ref g0, .ref a0, .ref h0])), (g0, .inr (2, [.int (nI 5), .int (nI 5)])), (a0, .inr (4, [.ref a1, .ref a2, .ref a3, .ref a4, .int (nI n), .int y])), (a1, .inl (kI G, 10, .inl C)), (a2, .inl (kI G, 10, .inl B)), (a3, .inl (kI G, 10, .inl F)), (a4, .inl (kI G, 10, .inl K)), (h0, .inr (0, [.ref h1, .ref h2, .ref h3, .int (nI q)])), (h1, .inl (kI G, 5, .inl Yr)), (h2, .inl (kI G, 5, .inl Dn)), (h3, .inl (kI G, 5, .inl Rt))]) (As := [.int 5, .int 5]) (rest := []) hx hb hml hown hts hE hA hl.1 hP hD hS (c_X2_resize l G g0 nr nc 5 5 (by decide) (by decide)) (cw_X1_32 hts) ⟨(Nat.le_of_ble_eq_true rfl), (Nat.le_of_ble_eq_true rfl)⟩ ⟨(Nat.le_of_ble_eq_true rfl), (Nat.le_of_ble_eq_true rfl)⟩ rfl [1] [0, 2, 3, 4, 5, 6, 7, 8, 9, 10] [0, 10, 1, 2, 3, 4, 5, 6, 7, 8, 9] rfl rfl ⟨by decide, by decide, by decide, by decide⟩ rfl rfl rfl rfl rfl (Nat.le_of_ble_eq_true rfl) dX1_clear_6 (fun H locs hP hD hS => ?_)
  show WC p l e _ s m _ below meth c G A _ H locs 0 0 (F0 m 9 ls [.int 1])
  refine lv_pop hx hb dX1_clear_9 rfl ?_
  refine lv_aload_n hx hb dX1_clear_10 rfl (lv_at hl 0 rfl) ?_
  refine va_get hx hb hts inlX1 hown hE.1 hP 0 rfl rfl 1 (by decide) (fl_X1_21 hts) (fun _ h9 => h9) rfl dX1_clear_11 ?_
  refine ct_callV (w1 := [(a0, .inr (4, [.ref a1, .ref a2, .ref a3, .ref a4, .int 0, .int 0])), (a1, .inl (kI G, 10, .inl C)), (a2, .inl (kI G, 10, .inl B)), (a3, .inl (kI G, 10, .inl F)), (a4, .inl (kI G, 10, .inl K))]) (wr := [(o0, .inr (1, [.ref g0, .ref a0, .ref h0])), (g0, .inr (2, [.int (nI 5), .int (nI 5)])), (h0, .inr (0, [.ref h1, .ref h2, .ref h3, .int (nI q)])), (h1, .inl (kI G, 5, .inl Yr)), (h2, .inl (kI G, 5, .inl Dn)), (h3, .inl (kI G, 5, .inl Rt))]) (wn := [(o0, .inr (1, [.ref g0, .ref a0, .ref h0])), (g0, .inr (2, [.int (nI 5), .int (nI 5)])), (a0, .inr (4, [.ref a1, .ref a2, .ref a3, .ref a4, .int 0, .int 0])), (a1, .inl (kI G, 10, .inl C)), (a2, .inl (kI G, 10, .inl B)), (a3, .inl (kI G, 10, .inl F)), (a4, .inl (kI G, 10, .inl K)), (h0, .inr (0, [.ref h1, .ref h2, .ref h3, .int (nI q)])), (h1, .inl (kI G, 5, .inl Yr)), (h2, .inl (kI G, 5, .inl Dn)), (h3, .inl (kI G, 5, .inl Rt))]) (As := []) (rest := []) hx hb hml hown hts hE hA hl.1 hP hD hS (c_X4_clear l G a0 a1 a2 a3 a4 C B F K n y ) (cw_X1_36 hts) ⟨(Nat.le_of_ble_eq_true rfl), (Nat.le_of_ble_eq_true rfl)⟩ ⟨(Nat.le_of_ble_eq_true rfl), (Nat.le_of_ble_eq_true rfl)⟩ rfl [2, 3, 4, 5, 6] [0, 1, 7, 8, 9, 10] [0, 1, 6, 7, 8, 9, 10, 2, 3, 4, 5] rfl rfl ⟨by decide, by decide, by decide, by decide⟩ rfl rfl rfl rfl rfl (Nat.le_of_ble_eq_true rfl) dX1_clear_14 (fun H locs hP hD hS => ?_)
  show WC p l e _ s m _ below meth c G A _ H locs 0 0 (F0 m 17 ls [])
  refine lv_aload_n hx hb dX1_clear_17 rfl (lv_at hl 0 rfl) ?_
  refine va_get hx hb hts inlX1 hown hE.1 hP 0 rfl rfl 2 (by decide) (fl_X1_28 hts) (fun _ h9 => h9) rfl dX1_clear_18 ?_
  refine ct_callV (w1 := [(h0, .inr (0, [.ref h1, .ref h2, .ref h3, .int 0])), (h1, .inl (kI G, 5, .inl Yr)), (h2, .inl (kI G, 5, .inl Dn)), (h3, .inl (kI G, 5, .inl Rt))]) (wr := [(o0, .inr (1, [.ref g0, .ref a0, .ref h0])), (g0, .inr (2, [.int (nI 5), .int (nI 5)])), (a0, .inr (4, [.ref a1, .ref a2, .ref a3, .ref a4, .int 0, .int 0])), (a1, .inl (kI G, 10, .inl C)), (a2, .inl (kI G, 10, .inl B)), (a3, .inl (kI G, 10, .inl F)), (a4, .inl (kI G, 10, .inl K))]) (wn := [(o0, .inr (1, [.ref g0, .ref a0, .ref h0])), (g0, .inr (2, [.int (nI 5), .int (nI 5)])), (a0, .inr (4, [.ref a1, .ref a2, .ref a3, .ref a4, .int 0, .int 0])), (a1, .inl (kI G, 10, .inl C)), (a2, .inl (kI G, 10, .inl B)), (a3, .inl (kI G, 10, .inl F)), (a4, .inl (kI G, 10, .inl K)), (h0, .inr (0, [.ref h1, .ref h2, .ref h3, .int 0])), (h1, .inl (kI G, 5, .inl Yr)), (h2, .inl (kI G, 5, .inl Dn)), (h3, .inl (kI G, 5, .inl Rt))]) (As := []) (rest := []) hx hb hml hown hts hE hA hl.1 hP hD hS (c_X0_clear l G h0 h1 h2 h3 Yr Dn Rt q ) (cw_X1_39 hts) ⟨(Nat.le_of_ble_eq_true rfl), (Nat.le_of_ble_eq_true rfl)⟩ ⟨(Nat.le_of_ble_eq_true rfl), (Nat.le_of_ble_eq_true rfl)⟩ rfl [7, 8, 9, 10] [0, 1, 2, 3, 4, 5, 6] [0, 1, 2, 3, 4, 5, 6, 7, 8, 9, 10] rfl rfl ⟨by decide, by decide, by decide, by decide⟩ rfl rfl rfl rfl rfl (Nat.le_of_ble_eq_true rfl) dX1_clear_21 (fun H locs hP hD hS => ?_)
  show WC p l e _ s m _ below meth c G A _ H locs 0 0 (F0 m 24 ls [])
  exact ct_vret hx hb hr hlk dX1_clear_24 hP hD hS (by first | exact ⟨rfl, rfl⟩ | (simp [one]; done))

set_option maxHeartbeats 4000000 in
set_option maxRecDepth 100000 in
theorem c_X5_priceOf (l : Launch) (G : Gv) (p0 : Nat) (p1 : Nat) (p2 : Nat) (p3 : Nat) (Pr : Nat → Int32) (Rs : Nat → Int32) (Qu : Nat → Int32) (qd : Int64) (hd : Nat) (wt : Nat) (x : Int32)  : Rd l yX5_priceOf cX5_priceOf 2 (some .int) (rmz 0 0) G [.ref p0, .int x] [(p0, .inr (5, [.ref p1, .ref p2, .ref p3, .long qd, .int (nI hd), .int (nI wt)])), (p1, .inl (kI G, 64, .inl Pr)), (p2, .inl (kI G, 64, .inl Rs)), (p3, .inl (kI G, 64, .inl Qu))] (.int (atF Pr x)) := by
  refine Rd.ofW (by decide) (Nat.le_of_ble_eq_true rfl) ?_
  intro p e s m below meth c ls hx hb hml hr hown hts hlk hP hE hl
  have hl : lv_has ls 2 [(0, .ref p0), (1, .int x)] := hl
  refine lv_iload_n hx hb dX5_priceOf_0 rfl (lv_at hl 1 rfl) ?_
  refine lv_if_lt (tgt := 19) hx hb dX5_priceOf_1 (by decide) (fun c1 => ?_) (fun c1 => ?_)
  · have c1 := inB_neg (n := 64) c1
    refine lv_ldc hx hb hown (cn_X5_37 hts) dX5_priceOf_19 ?_
    exact rd_iret hx hb hr hlk dX5_priceOf_21 (by first | rfl | (simp [zb, c1, atF]; done))
  · refine lv_iload_n hx hb dX5_priceOf_4 rfl (lv_at hl 1 rfl) ?_
    refine lv_bipush (v := 64) hx hb dX5_priceOf_5 (by decide) ?_
    refine lv_icmp_ge (tgt := 19) hx hb dX5_priceOf_7 (by decide) (fun c7 => ?_) (fun c7 => ?_)
    · have c7 := inB_ge (n := 64) (by decide) c7
      refine lv_ldc hx hb hown (cn_X5_37 hts) dX5_priceOf_19 ?_
      exact rd_iret hx hb hr hlk dX5_priceOf_21 (by first | rfl | (simp [zb, c1, c7, atF]; done))
    · have c7 := inB_yes (n := 64) (by decide) c1 c7
      refine lv_aload_n hx hb dX5_priceOf_10 rfl (lv_at hl 0 rfl) ?_
      refine va_get hx hb hts inlX5 hown hE.1 hP 0 rfl rfl 0 (by decide) (fl_X5_9 hts) (fun _ h9 => h9) rfl dX5_priceOf_11 ?_
      refine lv_iload_n hx hb dX5_priceOf_14 rfl (lv_at hl 1 rfl) ?_
      refine va_iald hx hb hE.1 hP 1 0 rfl rfl (inB_iff.mp c7) dX5_priceOf_15 ?_
      refine lv_goto (tgt := 21) hx hb dX5_priceOf_16 (by decide) ?_
      exact rd_iret hx hb hr hlk dX5_priceOf_21 (by first | rfl | (simp [zb, c1, c7, atF]; done))

set_option maxHeartbeats 4000000 in
set_option maxRecDepth 100000 in
theorem c_X5_restFrom (l : Launch) (G : Gv) (p0 : Nat) (p1 : Nat) (p2 : Nat) (p3 : Nat) (Pr : Nat → Int32) (Rs : Nat → Int32) (Qu : Nat → Int32) (qd : Int64) (hd : Nat) (wt : Nat) (x : Int32)  : Rd l yX5_restFrom cX5_restFrom 2 (some .int) (rmz 0 0) G [.ref p0, .int x] [(p0, .inr (5, [.ref p1, .ref p2, .ref p3, .long qd, .int (nI hd), .int (nI wt)])), (p1, .inl (kI G, 64, .inl Pr)), (p2, .inl (kI G, 64, .inl Rs)), (p3, .inl (kI G, 64, .inl Qu))] (.int (atF Rs x)) := by
  refine Rd.ofW (by decide) (Nat.le_of_ble_eq_true rfl) ?_
  intro p e s m below meth c ls hx hb hml hr hown hts hlk hP hE hl
  have hl : lv_has ls 2 [(0, .ref p0), (1, .int x)] := hl
  refine lv_iload_n hx hb dX5_restFrom_0 rfl (lv_at hl 1 rfl) ?_
  refine lv_if_lt (tgt := 19) hx hb dX5_restFrom_1 (by decide) (fun c1 => ?_) (fun c1 => ?_)
  · have c1 := inB_neg (n := 64) c1
    refine lv_ldc hx hb hown (cn_X5_37 hts) dX5_restFrom_19 ?_
    exact rd_iret hx hb hr hlk dX5_restFrom_21 (by first | rfl | (simp [zb, c1, atF]; done))
  · refine lv_iload_n hx hb dX5_restFrom_4 rfl (lv_at hl 1 rfl) ?_
    refine lv_bipush (v := 64) hx hb dX5_restFrom_5 (by decide) ?_
    refine lv_icmp_ge (tgt := 19) hx hb dX5_restFrom_7 (by decide) (fun c7 => ?_) (fun c7 => ?_)
    · have c7 := inB_ge (n := 64) (by decide) c7
      refine lv_ldc hx hb hown (cn_X5_37 hts) dX5_restFrom_19 ?_
      exact rd_iret hx hb hr hlk dX5_restFrom_21 (by first | rfl | (simp [zb, c1, c7, atF]; done))
    · have c7 := inB_yes (n := 64) (by decide) c1 c7
      refine lv_aload_n hx hb dX5_restFrom_10 rfl (lv_at hl 0 rfl) ?_
      refine va_get hx hb hts inlX5 hown hE.1 hP 0 rfl rfl 1 (by decide) (fl_X5_15 hts) (fun _ h9 => h9) rfl dX5_restFrom_11 ?_
      refine lv_iload_n hx hb dX5_restFrom_14 rfl (lv_at hl 1 rfl) ?_
      refine va_iald hx hb hE.1 hP 2 0 rfl rfl (inB_iff.mp c7) dX5_restFrom_15 ?_
      refine lv_goto (tgt := 21) hx hb dX5_restFrom_16 (by decide) ?_
      exact rd_iret hx hb hr hlk dX5_restFrom_21 (by first | rfl | (simp [zb, c1, c7, atF]; done))

set_option maxHeartbeats 4000000 in
set_option maxRecDepth 100000 in
theorem c_X5_price (l : Launch) (G : Gv) (p0 : Nat) (p1 : Nat) (p2 : Nat) (p3 : Nat) (Pr : Nat → Int32) (Rs : Nat → Int32) (Qu : Nat → Int32) (qd : Int64) (hd : Nat) (wt : Nat) (w1 : Int64) (v1 : Int32) (w2 : Int64) (v2 : Int32)  : Ct l yX5_price cX5_price 9 none (rmz 2 42) G [.ref p0, .long w1, .int v1, .long w2, .int v2] [(p0, .inr (5, [.ref p1, .ref p2, .ref p3, .long qd, .int (nI hd), .int (nI wt)])), (p1, .inl (kI G, 64, .inl Pr)), (p2, .inl (kI G, 64, .inl Rs)), (p3, .inl (kI G, 64, .inl Qu))] (one none [(p0, .inr (5, [.ref p1, .ref p2, .ref p3, .long qd, .int (nI hd), .int (nI wt)])), (p1, .inl (kI G, 64, .inl (prA w1 v1 w2 v2 Pr 64))), (p2, .inl (kI G, 64, .inl Rs)), (p3, .inl (kI G, 64, .inl Qu))]) := by
  refine Ct.ofW (by decide) (Nat.le_of_ble_eq_true rfl) ?_
  intro p e s m below meth c ls A hx hb hml hr hown hts hlk hnm hP hD hA hE hS hl
  obtain ⟨H, eH⟩ : ∃ H : Heap, H = s.heap := ⟨_, rfl⟩
  obtain ⟨locs, eL⟩ : ∃ ll : List Loc, ll = [] := ⟨_, rfl⟩
  rw [← eH] at hP
  have hS : va_S A s.heap H locs := by rw [eH, eL]; exact hS
  show WC p l e _ s m _ below meth c G A _ s.heap [] 0 0 _
  rw [← eH, ← eL]
  clear eH eL
  have hl : lv_has ls 9 [(0, .ref p0), (1, .long w1), (3, .int v1), (4, .long w2), (6, .int v2)] := hl
  have J_3 : ∀ (n_ : Nat) (k : Nat) (P1 : Nat → Int32) (hk : k ≤ 64) (ha : P1 = prA w1 v1 w2 v2 Pr k) (hm_3 : 64 - k < n_), ∀ (H : Heap) (locs : List Loc), va_P G.1 vwCl [(p0, .inr (5, [.ref p1, .ref p2, .ref p3, .long qd, .int (nI hd), .int (nI wt)])), (p1, .inl (kI G, 64, .inl P1)), (p2, .inl (kI G, 64, .inl Rs)), (p3, .inl (kI G, 64, .inl Qu))] H → va_D A [(p0, .inr (5, [.ref p1, .ref p2, .ref p3, .long qd, .int (nI hd), .int (nI wt)])), (p1, .inl (kI G, 64, .inl P1)), (p2, .inl (kI G, 64, .inl Rs)), (p3, .inl (kI G, 64, .inl Qu))] → va_S A s.heap H locs → ∀ ls : Array Slot, lv_has ls 9 [(0, .ref p0), (1, .long w1), (3, .int v1), (4, .long w2), (6, .int v2), (7, .int (nI k))] → WC p l e (rmz 2 42) s m [.ref p0, .long w1, .int v1, .long w2, .int v2] below meth c G A (one none [(p0, .inr (5, [.ref p1, .ref p2, .ref p3, .long qd, .int (nI hd), .int (nI wt)])), (p1, .inl (kI G, 64, .inl (prA w1 v1 w2 v2 Pr 64))), (p2, .inl (kI G, 64, .inl Rs)), (p3, .inl (kI G, 64, .inl Qu))]) H locs 0 0 (F0 m 3 ls []) := by
    intro n_
    induction n_ with
    | zero =>
      intro k P1 hk ha hm_3
      exact absurd hm_3 (Nat.not_lt_zero _)
    | succ n_ ih_3 =>
      intro k P1 hk ha hm_3 H locs hP hD hS ls hl
      refine lv_iload hx hb dX5_price_3 (lv_at hl 5 rfl) ?_
      refine lv_bipush (v := 64) hx hb dX5_price_5 (by decide) ?_
      refine lv_icmp_ge (tgt := 57) hx hb dX5_price_7 (by decide) (fun c7 => ?_) (fun c7 => ?_)
      · have hkn : 64 ≤ k := le_of_le (n := 64) (by omega) (by omega) c7
        exact ct_vret hx hb hr hlk dX5_price_57 hP hD hS (by exact ⟨rfl, by rw [ha, show k = 64 by omega]⟩)
      · have hkn : k < 64 := lt_of_nle (n := 64) (by omega) (by omega) c7
        refine lv_lload hx hb dX5_price_10 (lv_at hl 3 rfl) ?_
        refine lv_iload hx hb dX5_price_12 (lv_at hl 5 rfl) ?_
        refine rd_callN (As := [.long w2, .int (nI k)]) (rest := []) hx hb hml hown hts (hE.at0 hS) hl.1 (c_X9_holds l G w2 (nI k) ) (cz_X5_33 hts) ⟨(Nat.le_of_ble_eq_true rfl), (Nat.le_of_ble_eq_true rfl)⟩ ⟨Nat.zero_le _, Nat.zero_le _⟩ rfl (sub_P hP [] rfl) rfl (Nat.le_of_ble_eq_true rfl) dX5_price_14 ?_
        refine lv_if_eq (tgt := 25) hx hb dX5_price_17 (by decide) (fun c17 => ?_) (fun c17 => ?_)
        · have c17 := zb_0.mp c17
          refine lv_ldc hx hb hown (cn_X5_37 hts) dX5_price_25 ?_
          refine lv_istore (lv' := [(8, .int 1000000), (0, .ref p0), (1, .long w1), (3, .int v1), (4, .long w2), (6, .int v2), (7, .int (nI k))]) hx hb dX5_price_27 hl (by decide) rfl (fun ls hl => ?_)
          refine lv_aload_n hx hb dX5_price_29 rfl (lv_at hl 1 rfl) ?_
          refine va_get hx hb hts inlX5 hown hE.1 hP 0 rfl rfl 0 (by decide) (fl_X5_9 hts) (fun _ h9 => h9) rfl dX5_price_30 ?_
          refine lv_iload hx hb dX5_price_33 (lv_at hl 6 rfl) ?_
          refine lv_lload_n hx hb dX5_price_35 rfl (lv_at hl 2 rfl) ?_
          refine lv_iload hx hb dX5_price_36 (lv_at hl 6 rfl) ?_
          refine rd_callN (As := [.long w1, .int (nI k)]) (rest := [.int (nI k), .ref p1]) hx hb hml hown hts (hE.at0 hS) hl.1 (c_X9_holds l G w1 (nI k) ) (cz_X5_33 hts) ⟨(Nat.le_of_ble_eq_true rfl), (Nat.le_of_ble_eq_true rfl)⟩ ⟨Nat.zero_le _, Nat.zero_le _⟩ rfl (sub_P hP [] rfl) rfl (Nat.le_of_ble_eq_true rfl) dX5_price_38 ?_
          refine lv_if_eq (tgt := 48) hx hb dX5_price_41 (by decide) (fun c41 => ?_) (fun c41 => ?_)
          · have c41 := zb_0.mp c41
            refine lv_iload hx hb dX5_price_48 (lv_at hl 0 rfl) ?_
            refine va_iast hx hb hE.1 hP hD hS 1 0 rfl rfl (vp_in_nI hkn (by decide)) dX5_price_50 (fun H locs hP hD hS => ?_)
            have hP : va_P G.1 vwCl [(p0, .inr (5, [.ref p1, .ref p2, .ref p3, .long qd, .int (nI hd), .int (nI wt)])), (p1, .inl (kI G, 64, .inl (upd P1 (nI k).toNatClampNeg 1000000))), (p2, .inl (kI G, 64, .inl Rs)), (p3, .inl (kI G, 64, .inl Qu))] H := hP
            have hD : va_D A [(p0, .inr (5, [.ref p1, .ref p2, .ref p3, .long qd, .int (nI hd), .int (nI wt)])), (p1, .inl (kI G, 64, .inl (upd P1 (nI k).toNatClampNeg 1000000))), (p2, .inl (kI G, 64, .inl Rs)), (p3, .inl (kI G, 64, .inl Qu))] := hD
            refine lv_iinc (v := nI (k + 1)) (lv' := [(7, .int (nI (k + 1))), (8, .int 1000000), (0, .ref p0), (1, .long w1), (3, .int v1), (4, .long w2), (6, .int v2)]) hx hb dX5_price_51 hl (k := 6) rfl (nI_1 k) (by decide) rfl (fun ls hl => ?_)
            refine lv_goto (tgt := 3) hx hb dX5_price_54 (by decide) ?_
            have ha0 := ha
            rw [prA] at ha0
            exact ih_3 (k + 1) (upd P1 (nI k).toNatClampNeg 1000000) (by first | assumption | omega | rfl) (by rw [prA, it_s]; simp only [← ha0]; simp [prF, c7, c17, c41, ixx (show k < 2 ^ 31 by omega), nI_clamp (show k < 2 ^ 31 by omega)]) (by omega) _ _ hP hD hS ls (lv_sub hl [2, 3, 4, 5, 6, 0] rfl)
          · have c41 := zb_n0.mp c41
            refine lv_iload_n hx hb dX5_price_44 rfl (lv_at hl 3 rfl) ?_
            refine lv_goto (tgt := 50) hx hb dX5_price_45 (by decide) ?_
            refine va_iast hx hb hE.1 hP hD hS 1 0 rfl rfl (vp_in_nI hkn (by decide)) dX5_price_50 (fun H locs hP hD hS => ?_)
            have hP : va_P G.1 vwCl [(p0, .inr (5, [.ref p1, .ref p2, .ref p3, .long qd, .int (nI hd), .int (nI wt)])), (p1, .inl (kI G, 64, .inl (upd P1 (nI k).toNatClampNeg v1))), (p2, .inl (kI G, 64, .inl Rs)), (p3, .inl (kI G, 64, .inl Qu))] H := hP
            have hD : va_D A [(p0, .inr (5, [.ref p1, .ref p2, .ref p3, .long qd, .int (nI hd), .int (nI wt)])), (p1, .inl (kI G, 64, .inl (upd P1 (nI k).toNatClampNeg v1))), (p2, .inl (kI G, 64, .inl Rs)), (p3, .inl (kI G, 64, .inl Qu))] := hD
            refine lv_iinc (v := nI (k + 1)) (lv' := [(7, .int (nI (k + 1))), (8, .int 1000000), (0, .ref p0), (1, .long w1), (3, .int v1), (4, .long w2), (6, .int v2)]) hx hb dX5_price_51 hl (k := 6) rfl (nI_1 k) (by decide) rfl (fun ls hl => ?_)
            refine lv_goto (tgt := 3) hx hb dX5_price_54 (by decide) ?_
            have ha0 := ha
            rw [prA] at ha0
            exact ih_3 (k + 1) (upd P1 (nI k).toNatClampNeg v1) (by first | assumption | omega | rfl) (by rw [prA, it_s]; simp only [← ha0]; simp [prF, c7, c17, c41, ixx (show k < 2 ^ 31 by omega), nI_clamp (show k < 2 ^ 31 by omega)]) (by omega) _ _ hP hD hS ls (lv_sub hl [2, 3, 4, 5, 6, 0] rfl)
        · have c17 := zb_n0.mp c17
          refine lv_iload hx hb dX5_price_20 (lv_at hl 4 rfl) ?_
          refine lv_goto (tgt := 27) hx hb dX5_price_22 (by decide) ?_
          refine lv_istore (lv' := [(8, .int v2), (0, .ref p0), (1, .long w1), (3, .int v1), (4, .long w2), (6, .int v2), (7, .int (nI k))]) hx hb dX5_price_27 hl (by decide) rfl (fun ls hl => ?_)
          refine lv_aload_n hx hb dX5_price_29 rfl (lv_at hl 1 rfl) ?_
          refine va_get hx hb hts inlX5 hown hE.1 hP 0 rfl rfl 0 (by decide) (fl_X5_9 hts) (fun _ h9 => h9) rfl dX5_price_30 ?_
          refine lv_iload hx hb dX5_price_33 (lv_at hl 6 rfl) ?_
          refine lv_lload_n hx hb dX5_price_35 rfl (lv_at hl 2 rfl) ?_
          refine lv_iload hx hb dX5_price_36 (lv_at hl 6 rfl) ?_
          refine rd_callN (As := [.long w1, .int (nI k)]) (rest := [.int (nI k), .ref p1]) hx hb hml hown hts (hE.at0 hS) hl.1 (c_X9_holds l G w1 (nI k) ) (cz_X5_33 hts) ⟨(Nat.le_of_ble_eq_true rfl), (Nat.le_of_ble_eq_true rfl)⟩ ⟨Nat.zero_le _, Nat.zero_le _⟩ rfl (sub_P hP [] rfl) rfl (Nat.le_of_ble_eq_true rfl) dX5_price_38 ?_
          refine lv_if_eq (tgt := 48) hx hb dX5_price_41 (by decide) (fun c41 => ?_) (fun c41 => ?_)
          · have c41 := zb_0.mp c41
            refine lv_iload hx hb dX5_price_48 (lv_at hl 0 rfl) ?_
            refine va_iast hx hb hE.1 hP hD hS 1 0 rfl rfl (vp_in_nI hkn (by decide)) dX5_price_50 (fun H locs hP hD hS => ?_)
            have hP : va_P G.1 vwCl [(p0, .inr (5, [.ref p1, .ref p2, .ref p3, .long qd, .int (nI hd), .int (nI wt)])), (p1, .inl (kI G, 64, .inl (upd P1 (nI k).toNatClampNeg v2))), (p2, .inl (kI G, 64, .inl Rs)), (p3, .inl (kI G, 64, .inl Qu))] H := hP
            have hD : va_D A [(p0, .inr (5, [.ref p1, .ref p2, .ref p3, .long qd, .int (nI hd), .int (nI wt)])), (p1, .inl (kI G, 64, .inl (upd P1 (nI k).toNatClampNeg v2))), (p2, .inl (kI G, 64, .inl Rs)), (p3, .inl (kI G, 64, .inl Qu))] := hD
            refine lv_iinc (v := nI (k + 1)) (lv' := [(7, .int (nI (k + 1))), (8, .int v2), (0, .ref p0), (1, .long w1), (3, .int v1), (4, .long w2), (6, .int v2)]) hx hb dX5_price_51 hl (k := 6) rfl (nI_1 k) (by decide) rfl (fun ls hl => ?_)
            refine lv_goto (tgt := 3) hx hb dX5_price_54 (by decide) ?_
            have ha0 := ha
            rw [prA] at ha0
            exact ih_3 (k + 1) (upd P1 (nI k).toNatClampNeg v2) (by first | assumption | omega | rfl) (by rw [prA, it_s]; simp only [← ha0]; simp [prF, c7, c17, c41, ixx (show k < 2 ^ 31 by omega), nI_clamp (show k < 2 ^ 31 by omega)]) (by omega) _ _ hP hD hS ls (lv_sub hl [2, 3, 4, 5, 6, 0] rfl)
          · have c41 := zb_n0.mp c41
            refine lv_iload_n hx hb dX5_price_44 rfl (lv_at hl 3 rfl) ?_
            refine lv_goto (tgt := 50) hx hb dX5_price_45 (by decide) ?_
            refine va_iast hx hb hE.1 hP hD hS 1 0 rfl rfl (vp_in_nI hkn (by decide)) dX5_price_50 (fun H locs hP hD hS => ?_)
            have hP : va_P G.1 vwCl [(p0, .inr (5, [.ref p1, .ref p2, .ref p3, .long qd, .int (nI hd), .int (nI wt)])), (p1, .inl (kI G, 64, .inl (upd P1 (nI k).toNatClampNeg v1))), (p2, .inl (kI G, 64, .inl Rs)), (p3, .inl (kI G, 64, .inl Qu))] H := hP
            have hD : va_D A [(p0, .inr (5, [.ref p1, .ref p2, .ref p3, .long qd, .int (nI hd), .int (nI wt)])), (p1, .inl (kI G, 64, .inl (upd P1 (nI k).toNatClampNeg v1))), (p2, .inl (kI G, 64, .inl Rs)), (p3, .inl (kI G, 64, .inl Qu))] := hD
            refine lv_iinc (v := nI (k + 1)) (lv' := [(7, .int (nI (k + 1))), (8, .int v2), (0, .ref p0), (1, .long w1), (3, .int v1), (4, .long w2), (6, .int v2)]) hx hb dX5_price_51 hl (k := 6) rfl (nI_1 k) (by decide) rfl (fun ls hl => ?_)
            refine lv_goto (tgt := 3) hx hb dX5_price_54 (by decide) ?_
            have ha0 := ha
            rw [prA] at ha0
            exact ih_3 (k + 1) (upd P1 (nI k).toNatClampNeg v1) (by first | assumption | omega | rfl) (by rw [prA, it_s]; simp only [← ha0]; simp [prF, c7, c17, c41, ixx (show k < 2 ^ 31 by omega), nI_clamp (show k < 2 ^ 31 by omega)]) (by omega) _ _ hP hD hS ls (lv_sub hl [2, 3, 4, 5, 6, 0] rfl)
  refine lv_iconst (v := 0) hx hb dX5_price_0 (by decide) ?_
  refine lv_istore (lv' := [(7, .int 0), (0, .ref p0), (1, .long w1), (3, .int v1), (4, .long w2), (6, .int v2)]) hx hb dX5_price_1 hl (by decide) rfl (fun ls hl => ?_)
  exact J_3 (64 - 0 + 1) 0 Pr (by first | assumption | omega | rfl) rfl (Nat.lt_succ_self _) _ _ hP hD hS ls (lv_sub hl [1, 2, 3, 4, 5, 0] rfl)

set_option maxHeartbeats 4000000 in
set_option maxRecDepth 100000 in
theorem c_X5_reach (l : Launch) (G : Gv) (p0 : Nat) (p1 : Nat) (p2 : Nat) (p3 : Nat) (Pr : Nat → Int32) (Rs : Nat → Int32) (Qu : Nat → Int32) (qd : Int64) (hd : Nat) (wt : Nat) (x : Int32) (z : Int32) (hhd : hd < 64) (hwt : wt ≤ 64) : Ct l yX5_reach cX5_reach 3 none (rmz 2 42) G [.ref p0, .int x, .int z] [(p0, .inr (5, [.ref p1, .ref p2, .ref p3, .long qd, .int (nI hd), .int (nI wt)])), (p1, .inl (kI G, 64, .inl Pr)), (p2, .inl (kI G, 64, .inl Rs)), (p3, .inl (kI G, 64, .inl Qu))] (one none [(p0, .inr (5, [.ref p1, .ref p2, .ref p3, .long ((rch Pr x z (Rs, Qu, qd, hd, wt)).2.2.1), .int (nI hd), .int (nI (rch Pr x z (Rs, Qu, qd, hd, wt)).2.2.2.2)])), (p1, .inl (kI G, 64, .inl Pr)), (p2, .inl (kI G, 64, .inl ((rch Pr x z (Rs, Qu, qd, hd, wt)).1))), (p3, .inl (kI G, 64, .inl ((rch Pr x z (Rs, Qu, qd, hd, wt)).2.1)))]) := by
  refine Ct.ofW (by decide) (Nat.le_of_ble_eq_true rfl) ?_
  intro p e s m below meth c ls A hx hb hml hr hown hts hlk hnm hP hD hA hE hS hl
  obtain ⟨H, eH⟩ : ∃ H : Heap, H = s.heap := ⟨_, rfl⟩
  obtain ⟨locs, eL⟩ : ∃ ll : List Loc, ll = [] := ⟨_, rfl⟩
  rw [← eH] at hP
  have hS : va_S A s.heap H locs := by rw [eH, eL]; exact hS
  show WC p l e _ s m _ below meth c G A _ s.heap [] 0 0 _
  rw [← eH, ← eL]
  clear eH eL
  have hl : lv_has ls 3 [(0, .ref p0), (1, .int x), (2, .int z)] := hl
  refine lv_aload_n hx hb dX5_reach_0 rfl (lv_at hl 0 rfl) ?_
  refine lv_iload_n hx hb dX5_reach_1 rfl (lv_at hl 1 rfl) ?_
  refine rd_callV (As := [.int x]) (rest := []) hx hb hml hown hts (hE.at0 hS) hl.1 (c_X5_priceOf l G p0 p1 p2 p3 Pr Rs Qu qd hd wt x ) (cw_X5_63 hts) ⟨(Nat.le_of_ble_eq_true rfl), (Nat.le_of_ble_eq_true rfl)⟩ ⟨Nat.zero_le _, Nat.zero_le _⟩ rfl (sub_P hP [0, 1, 2, 3] rfl) rfl rfl rfl rfl (Nat.le_of_ble_eq_true rfl) dX5_reach_2 ?_
  refine lv_ldc hx hb hown (cn_X5_37 hts) dX5_reach_5 ?_
  refine lv_icmp_eq (tgt := 19) hx hb dX5_reach_7 (by decide) (fun c7 => ?_) (fun c7 => ?_)
  · exact ct_vret hx hb hr hlk dX5_reach_19 hP hD hS (by simp [one, rch, c7])
  · refine lv_iload_n hx hb dX5_reach_10 rfl (lv_at hl 2 rfl) ?_
    refine lv_aload_n hx hb dX5_reach_11 rfl (lv_at hl 0 rfl) ?_
    refine lv_iload_n hx hb dX5_reach_12 rfl (lv_at hl 1 rfl) ?_
    refine rd_callV (As := [.int x]) (rest := [.int z]) hx hb hml hown hts (hE.at0 hS) hl.1 (c_X5_restFrom l G p0 p1 p2 p3 Pr Rs Qu qd hd wt x ) (cw_X5_29 hts) ⟨(Nat.le_of_ble_eq_true rfl), (Nat.le_of_ble_eq_true rfl)⟩ ⟨Nat.zero_le _, Nat.zero_le _⟩ rfl (sub_P hP [0, 1, 2, 3] rfl) rfl rfl rfl rfl (Nat.le_of_ble_eq_true rfl) dX5_reach_13 ?_
    refine lv_icmp_lt (tgt := 20) hx hb dX5_reach_16 (by decide) (fun c16 => ?_) (fun c16 => ?_)
    · refine lv_aload_n hx hb dX5_reach_20 rfl (lv_at hl 0 rfl) ?_
      refine va_get hx hb hts inlX5 hown hE.1 hP 0 rfl rfl 1 (by decide) (fl_X5_15 hts) (fun _ h9 => h9) rfl dX5_reach_21 ?_
      refine lv_iload_n hx hb dX5_reach_24 rfl (lv_at hl 1 rfl) ?_
      refine lv_iload_n hx hb dX5_reach_25 rfl (lv_at hl 2 rfl) ?_
      refine va_iast hx hb hE.1 hP hD hS 2 0 rfl rfl (inB_iff.mp (atF_in c7)) dX5_reach_26 (fun H locs hP hD hS => ?_)
      have hP : va_P G.1 vwCl [(p0, .inr (5, [.ref p1, .ref p2, .ref p3, .long qd, .int (nI hd), .int (nI wt)])), (p1, .inl (kI G, 64, .inl Pr)), (p2, .inl (kI G, 64, .inl (upd Rs x.toNatClampNeg z))), (p3, .inl (kI G, 64, .inl Qu))] H := hP
      have hD : va_D A [(p0, .inr (5, [.ref p1, .ref p2, .ref p3, .long qd, .int (nI hd), .int (nI wt)])), (p1, .inl (kI G, 64, .inl Pr)), (p2, .inl (kI G, 64, .inl (upd Rs x.toNatClampNeg z))), (p3, .inl (kI G, 64, .inl Qu))] := hD
      refine lv_aload_n hx hb dX5_reach_27 rfl (lv_at hl 0 rfl) ?_
      refine va_get hx hb hts inlX5 hown hE.1 hP 0 rfl rfl 3 (by decide) (fl_X5_38 hts) (fun _ h9 => h9) rfl dX5_reach_28 ?_
      refine lv_iload_n hx hb dX5_reach_31 rfl (lv_at hl 1 rfl) ?_
      refine rd_callN (As := [.long qd, .int x]) (rest := []) hx hb hml hown hts (hE.at0 hS) hl.1 (c_X9_holds l G qd x ) (cz_X5_33 hts) ⟨(Nat.le_of_ble_eq_true rfl), (Nat.le_of_ble_eq_true rfl)⟩ ⟨Nat.zero_le _, Nat.zero_le _⟩ rfl (sub_P hP [] rfl) rfl (Nat.le_of_ble_eq_true rfl) dX5_reach_32 ?_
      refine lv_if_ne (tgt := 88) hx hb dX5_reach_35 (by decide) (fun c35 => ?_) (fun c35 => ?_)
      · have c35 := zb_n0.mp c35
        exact ct_vret hx hb hr hlk dX5_reach_88 hP hD hS (by have e1 : (nI (hd + wt) - nI (hd + wt) / 64 * 64).toNatClampNeg = (hd + wt) % 64 := (by rw [rem64 _ (by omega), nI_clamp (by omega)]); simp [one, rch, c7, c16, c35, nI_add, e1, nI_1])
      · have c35 := zb_0.mp c35
        refine lv_aload_n hx hb dX5_reach_38 rfl (lv_at hl 0 rfl) ?_
        refine va_get hx hb hts inlX5 hown hE.1 hP 0 rfl rfl 5 (by decide) (fl_X5_46 hts) (fun _ h9 => h9) rfl dX5_reach_39 ?_
        refine lv_bipush (v := 64) hx hb dX5_reach_42 (by decide) ?_
        refine lv_icmp_ge (tgt := 88) hx hb dX5_reach_44 (by decide) (fun c44 => ?_) (fun c44 => ?_)
        · have c44 : ¬ wt < 64 := by have := le_of_le (n := 64) (k := wt) (by omega) (by omega) c44; omega
          exact ct_vret hx hb hr hlk dX5_reach_88 hP hD hS (by have e1 : (nI (hd + wt) - nI (hd + wt) / 64 * 64).toNatClampNeg = (hd + wt) % 64 := (by rw [rem64 _ (by omega), nI_clamp (by omega)]); simp [one, rch, c7, c16, c35, c44, nI_add, e1, nI_1])
        · have c44 : wt < 64 := lt_of_nle (n := 64) (by omega) (by omega) c44
          refine lv_aload_n hx hb dX5_reach_47 rfl (lv_at hl 0 rfl) ?_
          refine va_get hx hb hts inlX5 hown hE.1 hP 0 rfl rfl 2 (by decide) (fl_X5_18 hts) (fun _ h9 => h9) rfl dX5_reach_48 ?_
          refine lv_aload_n hx hb dX5_reach_51 rfl (lv_at hl 0 rfl) ?_
          refine va_get hx hb hts inlX5 hown hE.1 hP 0 rfl rfl 4 (by decide) (fl_X5_42 hts) (fun _ h9 => h9) rfl dX5_reach_52 ?_
          refine lv_aload_n hx hb dX5_reach_55 rfl (lv_at hl 0 rfl) ?_
          refine va_get hx hb hts inlX5 hown hE.1 hP 0 rfl rfl 5 (by decide) (fl_X5_46 hts) (fun _ h9 => h9) rfl dX5_reach_56 ?_
          refine lv_iadd hx hb dX5_reach_59 ?_
          refine lv_bipush (v := 64) hx hb dX5_reach_60 (by decide) ?_
          refine lv_irem hx hb dX5_reach_62 (by decide) ?_
          refine lv_iload_n hx hb dX5_reach_63 rfl (lv_at hl 1 rfl) ?_
          refine va_iast hx hb hE.1 hP hD hS 3 0 rfl rfl (by rw [nI_add, rem64 _ (by omega)]; exact vp_in_nI (Nat.mod_lt _ (by decide)) (by decide)) dX5_reach_64 (fun H locs hP hD hS => ?_)
          have hP : va_P G.1 vwCl [(p0, .inr (5, [.ref p1, .ref p2, .ref p3, .long qd, .int (nI hd), .int (nI wt)])), (p1, .inl (kI G, 64, .inl Pr)), (p2, .inl (kI G, 64, .inl (upd Rs x.toNatClampNeg z))), (p3, .inl (kI G, 64, .inl (upd Qu (((nI hd) + (nI wt)) - ((nI hd) + (nI wt)) / 64 * 64).toNatClampNeg x)))] H := hP
          have hD : va_D A [(p0, .inr (5, [.ref p1, .ref p2, .ref p3, .long qd, .int (nI hd), .int (nI wt)])), (p1, .inl (kI G, 64, .inl Pr)), (p2, .inl (kI G, 64, .inl (upd Rs x.toNatClampNeg z))), (p3, .inl (kI G, 64, .inl (upd Qu (((nI hd) + (nI wt)) - ((nI hd) + (nI wt)) / 64 * 64).toNatClampNeg x)))] := hD
          refine lv_aload_n hx hb dX5_reach_65 rfl (lv_at hl 0 rfl) ?_
          refine lv_dup hx hb dX5_reach_66 rfl ?_
          refine va_get hx hb hts inlX5 hown hE.1 hP 0 rfl rfl 3 (by decide) (fl_X5_38 hts) (fun _ h9 => h9) rfl dX5_reach_67 ?_
          refine lv_iload_n hx hb dX5_reach_70 rfl (lv_at hl 1 rfl) ?_
          refine rd_callN (As := [.int x]) (rest := [.long qd, .ref p0]) hx hb hml hown hts (hE.at0 hS) hl.1 (c_X9_bitOf l G x ) (cz_X5_66 hts) ⟨(Nat.le_of_ble_eq_true rfl), (Nat.le_of_ble_eq_true rfl)⟩ ⟨Nat.zero_le _, Nat.zero_le _⟩ rfl (sub_P hP [] rfl) rfl (Nat.le_of_ble_eq_true rfl) dX5_reach_71 ?_
          refine lv_lor hx hb dX5_reach_74 ?_
          refine va_put (v := .long (qd ||| (bt x))) (ty := .long) hx hb hts inlX5 tyX5 tyX5_ok nmX5 hown hE.1 hP hD hS 0 rfl rfl 3 (by decide) (fl_X5_38 hts) (fun _ h9 => h9) rfl (by decide +kernel) rfl rfl (Nat.le_of_ble_eq_true rfl) dX5_reach_75 (fun H locs hP hD hS => ?_)
          have hP : va_P G.1 vwCl [(p0, .inr (5, [.ref p1, .ref p2, .ref p3, .long (qd ||| (bt x)), .int (nI hd), .int (nI wt)])), (p1, .inl (kI G, 64, .inl Pr)), (p2, .inl (kI G, 64, .inl (upd Rs x.toNatClampNeg z))), (p3, .inl (kI G, 64, .inl (upd Qu (((nI hd) + (nI wt)) - ((nI hd) + (nI wt)) / 64 * 64).toNatClampNeg x)))] H := hP
          have hD : va_D A [(p0, .inr (5, [.ref p1, .ref p2, .ref p3, .long (qd ||| (bt x)), .int (nI hd), .int (nI wt)])), (p1, .inl (kI G, 64, .inl Pr)), (p2, .inl (kI G, 64, .inl (upd Rs x.toNatClampNeg z))), (p3, .inl (kI G, 64, .inl (upd Qu (((nI hd) + (nI wt)) - ((nI hd) + (nI wt)) / 64 * 64).toNatClampNeg x)))] := hD
          refine lv_aload_n hx hb dX5_reach_78 rfl (lv_at hl 0 rfl) ?_
          refine lv_dup hx hb dX5_reach_79 rfl ?_
          refine va_get hx hb hts inlX5 hown hE.1 hP 0 rfl rfl 5 (by decide) (fl_X5_46 hts) (fun _ h9 => h9) rfl dX5_reach_80 ?_
          refine lv_iconst (v := 1) hx hb dX5_reach_83 (by decide) ?_
          refine lv_iadd hx hb dX5_reach_84 ?_
          refine va_put (v := .int ((nI wt) + 1)) (ty := .int) hx hb hts inlX5 tyX5 tyX5_ok nmX5 hown hE.1 hP hD hS 0 rfl rfl 5 (by decide) (fl_X5_46 hts) (fun _ h9 => h9) rfl (by decide +kernel) rfl rfl (Nat.le_of_ble_eq_true rfl) dX5_reach_85 (fun H locs hP hD hS => ?_)
          have hP : va_P G.1 vwCl [(p0, .inr (5, [.ref p1, .ref p2, .ref p3, .long (qd ||| (bt x)), .int (nI hd), .int ((nI wt) + 1)])), (p1, .inl (kI G, 64, .inl Pr)), (p2, .inl (kI G, 64, .inl (upd Rs x.toNatClampNeg z))), (p3, .inl (kI G, 64, .inl (upd Qu (((nI hd) + (nI wt)) - ((nI hd) + (nI wt)) / 64 * 64).toNatClampNeg x)))] H := hP
          have hD : va_D A [(p0, .inr (5, [.ref p1, .ref p2, .ref p3, .long (qd ||| (bt x)), .int (nI hd), .int ((nI wt) + 1)])), (p1, .inl (kI G, 64, .inl Pr)), (p2, .inl (kI G, 64, .inl (upd Rs x.toNatClampNeg z))), (p3, .inl (kI G, 64, .inl (upd Qu (((nI hd) + (nI wt)) - ((nI hd) + (nI wt)) / 64 * 64).toNatClampNeg x)))] := hD
          exact ct_vret hx hb hr hlk dX5_reach_88 hP hD hS (by have e1 : (nI (hd + wt) - nI (hd + wt) / 64 * 64).toNatClampNeg = (hd + wt) % 64 := (by rw [rem64 _ (by omega), nI_clamp (by omega)]); simp [one, rch, c7, c16, c35, c44, nI_add, e1, nI_1])
    · exact ct_vret hx hb hr hlk dX5_reach_19 hP hD hS (by simp [one, rch, c7, c16])

set_option maxHeartbeats 4000000 in
set_option maxRecDepth 100000 in
theorem c_X5_takeFromQueue (l : Launch) (G : Gv) (p0 : Nat) (p1 : Nat) (p2 : Nat) (p3 : Nat) (Pr : Nat → Int32) (Rs : Nat → Int32) (Qu : Nat → Int32) (qd : Int64) (hd : Nat) (wt : Nat) (hhd : hd < 64) (hwt : wt ≤ 64) (hw0 : 0 < wt) : Ct l yX5_takeFromQueue cX5_takeFromQueue 2 (some .int) (rmz 1 20) G [.ref p0] [(p0, .inr (5, [.ref p1, .ref p2, .ref p3, .long qd, .int (nI hd), .int (nI wt)])), (p1, .inl (kI G, 64, .inl Pr)), (p2, .inl (kI G, 64, .inl Rs)), (p3, .inl (kI G, 64, .inl Qu))] (one (some (.int (Qu hd))) [(p0, .inr (5, [.ref p1, .ref p2, .ref p3, .long (qd &&& (bt (Qu hd) ^^^ (-1))), .int (nI ((hd + 1) % 64)), .int (nI (wt - 1))])), (p1, .inl (kI G, 64, .inl Pr)), (p2, .inl (kI G, 64, .inl Rs)), (p3, .inl (kI G, 64, .inl Qu))]) := by
  refine Ct.ofW (by decide) (Nat.le_of_ble_eq_true rfl) ?_
  intro p e s m below meth c ls A hx hb hml hr hown hts hlk hnm hP hD hA hE hS hl
  obtain ⟨H, eH⟩ : ∃ H : Heap, H = s.heap := ⟨_, rfl⟩
  obtain ⟨locs, eL⟩ : ∃ ll : List Loc, ll = [] := ⟨_, rfl⟩
  rw [← eH] at hP
  have hS : va_S A s.heap H locs := by rw [eH, eL]; exact hS
  show WC p l e _ s m _ below meth c G A _ s.heap [] 0 0 _
  rw [← eH, ← eL]
  clear eH eL
  have hl : lv_has ls 2 [(0, .ref p0)] := hl
  refine lv_aload_n hx hb dX5_takeFromQueue_0 rfl (lv_at hl 0 rfl) ?_
  refine va_get hx hb hts inlX5 hown hE.1 hP 0 rfl rfl 2 (by decide) (fl_X5_18 hts) (fun _ h9 => h9) rfl dX5_takeFromQueue_1 ?_
  refine lv_aload_n hx hb dX5_takeFromQueue_4 rfl (lv_at hl 0 rfl) ?_
  refine va_get hx hb hts inlX5 hown hE.1 hP 0 rfl rfl 4 (by decide) (fl_X5_42 hts) (fun _ h9 => h9) rfl dX5_takeFromQueue_5 ?_
  refine va_iald hx hb hE.1 hP 3 0 rfl rfl (vp_in_nI hhd (by decide)) dX5_takeFromQueue_8 ?_
  rw [nI_clamp (show hd < 2 ^ 31 by omega)]
  refine lv_istore_n (lv' := [(1, .int (Qu hd)), (0, .ref p0)]) hx hb dX5_takeFromQueue_9 rfl hl (by decide) rfl (fun ls hl => ?_)
  refine lv_aload_n hx hb dX5_takeFromQueue_10 rfl (lv_at hl 1 rfl) ?_
  refine lv_aload_n hx hb dX5_takeFromQueue_11 rfl (lv_at hl 1 rfl) ?_
  refine va_get hx hb hts inlX5 hown hE.1 hP 0 rfl rfl 4 (by decide) (fl_X5_42 hts) (fun _ h9 => h9) rfl dX5_takeFromQueue_12 ?_
  refine lv_iconst (v := 1) hx hb dX5_takeFromQueue_15 (by decide) ?_
  refine lv_iadd hx hb dX5_takeFromQueue_16 ?_
  refine lv_bipush (v := 64) hx hb dX5_takeFromQueue_17 (by decide) ?_
  refine lv_irem hx hb dX5_takeFromQueue_19 (by decide) ?_
  refine va_put (v := .int (((nI hd) + 1) - ((nI hd) + 1) / 64 * 64)) (ty := .int) hx hb hts inlX5 tyX5 tyX5_ok nmX5 hown hE.1 hP hD hS 0 rfl rfl 4 (by decide) (fl_X5_42 hts) (fun _ h9 => h9) rfl (by decide +kernel) rfl rfl (Nat.le_of_ble_eq_true rfl) dX5_takeFromQueue_20 (fun H locs hP hD hS => ?_)
  have hP : va_P G.1 vwCl [(p0, .inr (5, [.ref p1, .ref p2, .ref p3, .long qd, .int (((nI hd) + 1) - ((nI hd) + 1) / 64 * 64), .int (nI wt)])), (p1, .inl (kI G, 64, .inl Pr)), (p2, .inl (kI G, 64, .inl Rs)), (p3, .inl (kI G, 64, .inl Qu))] H := hP
  have hD : va_D A [(p0, .inr (5, [.ref p1, .ref p2, .ref p3, .long qd, .int (((nI hd) + 1) - ((nI hd) + 1) / 64 * 64), .int (nI wt)])), (p1, .inl (kI G, 64, .inl Pr)), (p2, .inl (kI G, 64, .inl Rs)), (p3, .inl (kI G, 64, .inl Qu))] := hD
  refine lv_aload_n hx hb dX5_takeFromQueue_23 rfl (lv_at hl 1 rfl) ?_
  refine lv_dup hx hb dX5_takeFromQueue_24 rfl ?_
  refine va_get hx hb hts inlX5 hown hE.1 hP 0 rfl rfl 5 (by decide) (fl_X5_46 hts) (fun _ h9 => h9) rfl dX5_takeFromQueue_25 ?_
  refine lv_iconst (v := 1) hx hb dX5_takeFromQueue_28 (by decide) ?_
  refine lv_isub hx hb dX5_takeFromQueue_29 ?_
  refine va_put (v := .int ((nI wt) - 1)) (ty := .int) hx hb hts inlX5 tyX5 tyX5_ok nmX5 hown hE.1 hP hD hS 0 rfl rfl 5 (by decide) (fl_X5_46 hts) (fun _ h9 => h9) rfl (by decide +kernel) rfl rfl (Nat.le_of_ble_eq_true rfl) dX5_takeFromQueue_30 (fun H locs hP hD hS => ?_)
  have hP : va_P G.1 vwCl [(p0, .inr (5, [.ref p1, .ref p2, .ref p3, .long qd, .int (((nI hd) + 1) - ((nI hd) + 1) / 64 * 64), .int ((nI wt) - 1)])), (p1, .inl (kI G, 64, .inl Pr)), (p2, .inl (kI G, 64, .inl Rs)), (p3, .inl (kI G, 64, .inl Qu))] H := hP
  have hD : va_D A [(p0, .inr (5, [.ref p1, .ref p2, .ref p3, .long qd, .int (((nI hd) + 1) - ((nI hd) + 1) / 64 * 64), .int ((nI wt) - 1)])), (p1, .inl (kI G, 64, .inl Pr)), (p2, .inl (kI G, 64, .inl Rs)), (p3, .inl (kI G, 64, .inl Qu))] := hD
  refine lv_aload_n hx hb dX5_takeFromQueue_33 rfl (lv_at hl 1 rfl) ?_
  refine lv_dup hx hb dX5_takeFromQueue_34 rfl ?_
  refine va_get hx hb hts inlX5 hown hE.1 hP 0 rfl rfl 3 (by decide) (fl_X5_38 hts) (fun _ h9 => h9) rfl dX5_takeFromQueue_35 ?_
  refine lv_iload_n hx hb dX5_takeFromQueue_38 rfl (lv_at hl 0 rfl) ?_
  refine rd_callN (As := [.int (Qu hd)]) (rest := [.long qd, .ref p0]) hx hb hml hown hts (hE.at0 hS) hl.1 (c_X9_bitOf l G (Qu hd) ) (cz_X5_66 hts) ⟨(Nat.le_of_ble_eq_true rfl), (Nat.le_of_ble_eq_true rfl)⟩ ⟨Nat.zero_le _, Nat.zero_le _⟩ rfl (sub_P hP [] rfl) rfl (Nat.le_of_ble_eq_true rfl) dX5_takeFromQueue_39 ?_
  refine lv_ldc2 hx hb hown (cL_X5_70 hts) dX5_takeFromQueue_42 ?_
  refine lv_lxor hx hb dX5_takeFromQueue_45 ?_
  refine lv_land hx hb dX5_takeFromQueue_46 ?_
  refine va_put (v := .long (qd &&& ((bt (Qu hd)) ^^^ (-1)))) (ty := .long) hx hb hts inlX5 tyX5 tyX5_ok nmX5 hown hE.1 hP hD hS 0 rfl rfl 3 (by decide) (fl_X5_38 hts) (fun _ h9 => h9) rfl (by decide +kernel) rfl rfl (Nat.le_of_ble_eq_true rfl) dX5_takeFromQueue_47 (fun H locs hP hD hS => ?_)
  have hP : va_P G.1 vwCl [(p0, .inr (5, [.ref p1, .ref p2, .ref p3, .long (qd &&& ((bt (Qu hd)) ^^^ (-1))), .int (((nI hd) + 1) - ((nI hd) + 1) / 64 * 64), .int ((nI wt) - 1)])), (p1, .inl (kI G, 64, .inl Pr)), (p2, .inl (kI G, 64, .inl Rs)), (p3, .inl (kI G, 64, .inl Qu))] H := hP
  have hD : va_D A [(p0, .inr (5, [.ref p1, .ref p2, .ref p3, .long (qd &&& ((bt (Qu hd)) ^^^ (-1))), .int (((nI hd) + 1) - ((nI hd) + 1) / 64 * 64), .int ((nI wt) - 1)])), (p1, .inl (kI G, 64, .inl Pr)), (p2, .inl (kI G, 64, .inl Rs)), (p3, .inl (kI G, 64, .inl Qu))] := hD
  refine lv_iload_n hx hb dX5_takeFromQueue_50 rfl (lv_at hl 0 rfl) ?_
  exact ct_iret hx hb hr hlk dX5_takeFromQueue_51 hP hD hS (by have e1 : nI wt - 1 = nI (wt - 1) := pk_sub (a := wt) (b := 1) (by omega); exact ⟨rfl, by simp only [nI_1, rem64 _ (show hd + 1 < 2 ^ 31 by omega), e1]⟩)

set_option maxHeartbeats 4000000 in
set_option maxRecDepth 100000 in
theorem c_X5_nextFrom (l : Launch) (G : Gv) (p0 : Nat) (p1 : Nat) (p2 : Nat) (p3 : Nat) (Pr : Nat → Int32) (Rs : Nat → Int32) (Qu : Nat → Int32) (qd : Int64) (hd : Nat) (wt : Nat) (g0 : Nat) (nr : Nat) (nc : Nat) (x : Int32) (hg1 : 2 ≤ nr ∧ nr ≤ 8) (hg2 : 2 ≤ nc ∧ nc ≤ 8) : Rd l yX5_nextFrom cX5_nextFrom 8 (some .int) (rmz 4 90) G [.ref p0, .ref g0, .int x] [(p0, .inr (5, [.ref p1, .ref p2, .ref p3, .long qd, .int (nI hd), .int (nI wt)])), (p1, .inl (kI G, 64, .inl Pr)), (p2, .inl (kI G, 64, .inl Rs)), (p3, .inl (kI G, 64, .inl Qu)), (g0, .inr (2, [.int (nI nr), .int (nI nc)]))] (.int ((nxA Pr Rs nr nc x 4).1)) := by
  refine Rd.ofW (by decide) (Nat.le_of_ble_eq_true rfl) ?_
  intro p e s m below meth c ls hx hb hml hr hown hts hlk hP hE hl
  have hl : lv_has ls 8 [(0, .ref p0), (1, .ref g0), (2, .int x)] := hl
  have J_9 : ∀ (n_ : Nat) (k : Nat) (be : Int32) (le : Int32) (hk : k ≤ 4) (ha : (be, le) = nxA Pr Rs nr nc x k) (hm_9 : 4 - k < n_), ∀ ls : Array Slot, lv_has ls 8 [(0, .ref p0), (1, .ref g0), (2, .int x), (3, .int be), (4, .int le), (5, .int (nI k))] → WR p l e (rmz 4 90) s m [.ref p0, .ref g0, .int x] below meth c (.int ((nxA Pr Rs nr nc x 4).1)) (F0 m 9 ls []) := by
    intro n_
    induction n_ with
    | zero =>
      intro k be le hk ha hm_9
      exact absurd hm_9 (Nat.not_lt_zero _)
    | succ n_ ih_9 =>
      intro k be le hk ha hm_9 ls hl
      refine lv_iload hx hb dX5_nextFrom_9 (lv_at hl 5 rfl) ?_
      refine lv_iconst (v := 4) hx hb dX5_nextFrom_11 (by decide) ?_
      refine lv_icmp_ge (tgt := 59) hx hb dX5_nextFrom_12 (by decide) (fun c12 => ?_) (fun c12 => ?_)
      · have hkn : 4 ≤ k := le_of_le (n := 4) (by omega) (by omega) c12
        refine lv_iload_n hx hb dX5_nextFrom_59 rfl (lv_at hl 3 rfl) ?_
        exact rd_iret hx hb hr hlk dX5_nextFrom_60 (by rw [show (4 : Nat) = k by omega, ← ha])
      · have hkn : k < 4 := lt_of_nle (n := 4) (by omega) (by omega) c12
        refine lv_aload_n hx hb dX5_nextFrom_15 rfl (lv_at hl 1 rfl) ?_
        refine lv_iload_n hx hb dX5_nextFrom_16 rfl (lv_at hl 2 rfl) ?_
        refine lv_iload hx hb dX5_nextFrom_17 (lv_at hl 5 rfl) ?_
        refine rd_callV (As := [.int x, .int (nI k)]) (rest := []) hx hb hml hown hts hE hl.1 (c_X2_beside l G g0 nr nc x (nI k) (by first | assumption | omega) (by first | assumption | omega)) (cw_X5_57 hts) ⟨(Nat.le_of_ble_eq_true rfl), (Nat.le_of_ble_eq_true rfl)⟩ ⟨Nat.zero_le _, Nat.zero_le _⟩ rfl (sub_P hP [4] rfl) rfl rfl rfl rfl (Nat.le_of_ble_eq_true rfl) dX5_nextFrom_19 ?_
        refine lv_istore (lv' := [(6, .int (bsd nr nc x (nI k))), (0, .ref p0), (1, .ref g0), (2, .int x), (3, .int be), (4, .int le), (5, .int (nI k))]) hx hb dX5_nextFrom_22 hl (by decide) rfl (fun ls hl => ?_)
        refine lv_aload_n hx hb dX5_nextFrom_24 rfl (lv_at hl 1 rfl) ?_
        refine lv_iload hx hb dX5_nextFrom_25 (lv_at hl 0 rfl) ?_
        refine rd_callV (As := [.int (bsd nr nc x (nI k))]) (rest := []) hx hb hml hown hts hE hl.1 (c_X5_priceOf l G p0 p1 p2 p3 Pr Rs Qu qd hd wt (bsd nr nc x (nI k)) ) (cw_X5_63 hts) ⟨(Nat.le_of_ble_eq_true rfl), (Nat.le_of_ble_eq_true rfl)⟩ ⟨Nat.zero_le _, Nat.zero_le _⟩ rfl (sub_P hP [0, 1, 2, 3] rfl) rfl rfl rfl rfl (Nat.le_of_ble_eq_true rfl) dX5_nextFrom_27 ?_
        refine lv_aload_n hx hb dX5_nextFrom_30 rfl (lv_at hl 1 rfl) ?_
        refine lv_iload hx hb dX5_nextFrom_31 (lv_at hl 0 rfl) ?_
        refine rd_callV (As := [.int (bsd nr nc x (nI k))]) (rest := [.int (atF Pr (bsd nr nc x (nI k)))]) hx hb hml hown hts hE hl.1 (c_X5_restFrom l G p0 p1 p2 p3 Pr Rs Qu qd hd wt (bsd nr nc x (nI k)) ) (cw_X5_29 hts) ⟨(Nat.le_of_ble_eq_true rfl), (Nat.le_of_ble_eq_true rfl)⟩ ⟨Nat.zero_le _, Nat.zero_le _⟩ rfl (sub_P hP [0, 1, 2, 3] rfl) rfl rfl rfl rfl (Nat.le_of_ble_eq_true rfl) dX5_nextFrom_33 ?_
        refine lv_iadd hx hb dX5_nextFrom_36 ?_
        refine lv_istore (lv' := [(7, .int ((atF Pr (bsd nr nc x (nI k))) + (atF Rs (bsd nr nc x (nI k))))), (6, .int (bsd nr nc x (nI k))), (0, .ref p0), (1, .ref g0), (2, .int x), (3, .int be), (4, .int le), (5, .int (nI k))]) hx hb dX5_nextFrom_37 hl (by decide) rfl (fun ls hl => ?_)
        refine lv_iload hx hb dX5_nextFrom_39 (lv_at hl 0 rfl) ?_
        refine lv_iload hx hb dX5_nextFrom_41 (lv_at hl 6 rfl) ?_
        refine lv_icmp_ge (tgt := 53) hx hb dX5_nextFrom_43 (by decide) (fun c43 => ?_) (fun c43 => ?_)
        · refine lv_iinc (v := nI (k + 1)) (lv' := [(5, .int (nI (k + 1))), (7, .int ((atF Pr (bsd nr nc x (nI k))) + (atF Rs (bsd nr nc x (nI k))))), (6, .int (bsd nr nc x (nI k))), (0, .ref p0), (1, .ref g0), (2, .int x), (3, .int be), (4, .int le)]) hx hb dX5_nextFrom_53 hl (k := 7) rfl (nI_1 k) (by decide) rfl (fun ls hl => ?_)
          refine lv_goto (tgt := 9) hx hb dX5_nextFrom_56 (by decide) ?_
          have ha0 := ha
          rw [nxA] at ha0
          exact ih_9 (k + 1) be le (by first | assumption | omega | rfl) (by rw [nxA, it_s]; simp only [← ha0]; simp [c12, c43]) (by omega) ls (lv_sub hl [3, 4, 5, 6, 7, 0] rfl)
        · refine lv_iload hx hb dX5_nextFrom_46 (lv_at hl 0 rfl) ?_
          refine lv_istore (lv' := [(4, .int ((atF Pr (bsd nr nc x (nI k))) + (atF Rs (bsd nr nc x (nI k))))), (7, .int ((atF Pr (bsd nr nc x (nI k))) + (atF Rs (bsd nr nc x (nI k))))), (6, .int (bsd nr nc x (nI k))), (0, .ref p0), (1, .ref g0), (2, .int x), (3, .int be), (5, .int (nI k))]) hx hb dX5_nextFrom_48 hl (by decide) rfl (fun ls hl => ?_)
          refine lv_iload hx hb dX5_nextFrom_50 (lv_at hl 2 rfl) ?_
          refine lv_istore_n (lv' := [(3, .int (bsd nr nc x (nI k))), (4, .int ((atF Pr (bsd nr nc x (nI k))) + (atF Rs (bsd nr nc x (nI k))))), (7, .int ((atF Pr (bsd nr nc x (nI k))) + (atF Rs (bsd nr nc x (nI k))))), (6, .int (bsd nr nc x (nI k))), (0, .ref p0), (1, .ref g0), (2, .int x), (5, .int (nI k))]) hx hb dX5_nextFrom_52 rfl hl (by decide) rfl (fun ls hl => ?_)
          refine lv_iinc (v := nI (k + 1)) (lv' := [(5, .int (nI (k + 1))), (3, .int (bsd nr nc x (nI k))), (4, .int ((atF Pr (bsd nr nc x (nI k))) + (atF Rs (bsd nr nc x (nI k))))), (7, .int ((atF Pr (bsd nr nc x (nI k))) + (atF Rs (bsd nr nc x (nI k))))), (6, .int (bsd nr nc x (nI k))), (0, .ref p0), (1, .ref g0), (2, .int x)]) hx hb dX5_nextFrom_53 hl (k := 7) rfl (nI_1 k) (by decide) rfl (fun ls hl => ?_)
          refine lv_goto (tgt := 9) hx hb dX5_nextFrom_56 (by decide) ?_
          have ha0 := ha
          rw [nxA] at ha0
          exact ih_9 (k + 1) (bsd nr nc x (nI k)) ((atF Pr (bsd nr nc x (nI k))) + (atF Rs (bsd nr nc x (nI k)))) (by first | assumption | omega | rfl) (by rw [nxA, it_s]; simp only [← ha0]; simp [c12, c43]) (by omega) ls (lv_sub hl [5, 6, 7, 1, 2, 0] rfl)
  refine lv_iconst (v := -1) hx hb dX5_nextFrom_0 (by decide) ?_
  refine lv_istore_n (lv' := [(3, .int (-1)), (0, .ref p0), (1, .ref g0), (2, .int x)]) hx hb dX5_nextFrom_1 rfl hl (by decide) rfl (fun ls hl => ?_)
  refine lv_ldc hx hb hown (cn_X5_37 hts) dX5_nextFrom_2 ?_
  refine lv_istore (lv' := [(4, .int 1000000), (3, .int (-1)), (0, .ref p0), (1, .ref g0), (2, .int x)]) hx hb dX5_nextFrom_4 hl (by decide) rfl (fun ls hl => ?_)
  refine lv_iconst (v := 0) hx hb dX5_nextFrom_6 (by decide) ?_
  refine lv_istore (lv' := [(5, .int 0), (4, .int 1000000), (3, .int (-1)), (0, .ref p0), (1, .ref g0), (2, .int x)]) hx hb dX5_nextFrom_7 hl (by decide) rfl (fun ls hl => ?_)
  exact J_9 (4 - 0 + 1) 0 (-1) 1000000 (by first | assumption | omega | rfl) rfl (Nat.lt_succ_self _) ls (lv_sub hl [3, 4, 5, 2, 1, 0] rfl)
