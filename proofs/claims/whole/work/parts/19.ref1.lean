/-! the reference -/
def inn (v lo hi : Int32) : Bool := !decide (v < lo) && !decide (hi < v)
theorem inn_n {n : Nat} (hn : n < 2 ^ 30) (x : Int32) : inn x 0 (nI n - 1) = inB x n := by
  have e : (nI n - 1).toInt = (n : Int) - 1 := pk_sub_toInt (b := 1) hn (by decide)
  have h : inn x 0 (nI n - 1) = true ↔ inB x n = true := by
    rw [inn, inB, Bool.and_eq_true, Bool.not_eq_true', Bool.not_eq_true', decide_eq_false_iff_not, decide_eq_false_iff_not, decide_eq_true_eq, Int32.lt_iff_toInt_lt, Int32.lt_iff_toInt_lt, e, show (0 : Int32).toInt = 0 from rfl]
    omega
  cases h1 : inn x 0 (nI n - 1) <;> cases h2 : inB x n <;> simp_all
def cel (nw : Nat → Int32) (ba : Nat) : Nat → Int32 := fun k => nw (ba + 2 + k)
def sta (nw : Nat → Int32) (ba : Nat) : Nat → Int32 := fun k => nw (ba + 12 + k)
def fal (nw : Nat → Int32) (ba : Nat) : Nat → Int32 := fun k => nw (ba + 22 + k)
def kin (nw : Nat → Int32) (ba : Nat) : Nat → Int32 := fun k => nw (ba + 32 + k)
def hre (tx : Nat → Int32) (ty at_ : Nat) : Int32 := if at_ < ty then tx at_ else -1
def lsx (p : Nat → Bool) (n : Nat) : Int32 := it (fun k a => if p k then nI k else a) (-4) n
def hsM (w : Int64) (k : Nat) : Bool := decide ((w >>> ((nI k).toInt64 &&& 63)) &&& 1 = 1)
def goM (nc : Nat) (C K : Nat → Int32) (k : Nat) : Bool := decide (K k = 2) && !decide (nI nc - 1 ≤ C k - C k / nI nc * nI nc)
def drM (nc : Nat) (C F K : Nat → Int32) (w : Int32) (n : Nat) : Int64 := it (fun k a => a ||| (if loB F w k && !decide (K k = 3) then (if goM nc C K k then bt (C k + 1) else bt (C k)) else 0)) 0 n
def bhM (nr nc : Nat) (w : Int64) (dn rt : Int32) (n : Nat) : Int64 := it (fun k a => a ||| (if hsM w k && (inB (nI k / nI nc + dn - 2) nr && inB (nI k - nI k / nI nc * nI nc + rt - 2) nc) then bt ((nI k / nI nc + dn - 2) * nI nc + (nI k - nI k / nI nc * nI nc + rt - 2)) else 0)) 0 n
def mnM (w : Int64) (n : Nat) : Int32 := it (fun k a => a + (if hsM w k then 1 else 0)) 0 n
def bsM (nr nc : Nat) (x d : Int32) : Int32 := if inB (x / nI nc + (if d = 0 then -1 else if d = 1 then 1 else 0)) nr && inB (x - x / nI nc * nI nc + (if d = 2 then 1 else if d = 3 then -1 else 0)) nc then (x / nI nc + (if d = 0 then -1 else if d = 1 then 1 else 0)) * nI nc + (x - x / nI nc * nI nc + (if d = 2 then 1 else if d = 3 then -1 else 0)) else -4
def abM (x : Int32) : Int32 := if 0 ≤ x then x else -x
def apM (nc : Nat) (x z : Int32) : Int32 := abM (x / nI nc - z / nI nc) + abM ((x - x / nI nc * nI nc) - (z - z / nI nc * nI nc))
def miM (g : Int32) (n : Nat) : Int32 := it (fun k a => a + (g >>> (nI k &&& 31) &&& 1)) 0 n
/-- 42 places from a on go to b on, one behind the other -/
def cpM (nw : Nat → Int32) (a b n : Nat) : Nat → Int32 := it (fun k f => upd f (b + k) (f (a + k))) nw n
def knS (nw : Nat → Int32) (n : Nat) : Nat → Int32 := it (fun k f => upd f (42 + k) (f (84 + k))) nw n
def knM (nw : Nat → Int32) (de : Nat) : Nat → Int32 := if de = 8 then cpM (knS nw 294) 0 336 42 else cpM nw 0 (42 + 42 * de) 42
def byt (x : Int32) : Int32 := vp_nar .byte x.toInt8.toInt32

set_option maxHeartbeats 4000000 in
set_option maxRecDepth 100000 in
theorem c_X10_in (l : Launch) (G : Gv) (v : Int32) (lo : Int32) (hi : Int32)  : Rd l yX10_in cX10_in 3 (some .boolean) (rmz 0 0) G [.int v, .int lo, .int hi] [] (.int (zb (inn v lo hi))) := by
  refine Rd.ofW (by decide) (Nat.le_of_ble_eq_true rfl) ?_
  intro p e s m below meth c ls hx hb hml hr hown hts hlk hP hE hl
  have hl : lv_has ls 3 [(0, .int v), (1, .int lo), (2, .int hi)] := hl
  refine lv_iload_n hx hb dX10_in_0 rfl (lv_at hl 0 rfl) ?_
  refine lv_iload_n hx hb dX10_in_1 rfl (lv_at hl 1 rfl) ?_
  refine lv_icmp_lt (tgt := 14) hx hb dX10_in_2 (by decide) (fun c2 => ?_) (fun c2 => ?_)
  · refine lv_iconst (v := 0) hx hb dX10_in_14 (by decide) ?_
    exact rd_zret hx hb hr hlk dX10_in_15 rfl (by first | rfl | (simp [zb, c2, inn]; done))
  · refine lv_iload_n hx hb dX10_in_5 rfl (lv_at hl 0 rfl) ?_
    refine lv_iload_n hx hb dX10_in_6 rfl (lv_at hl 2 rfl) ?_
    refine lv_icmp_gt (tgt := 14) hx hb dX10_in_7 (by decide) (fun c7 => ?_) (fun c7 => ?_)
    · refine lv_iconst (v := 0) hx hb dX10_in_14 (by decide) ?_
      exact rd_zret hx hb hr hlk dX10_in_15 rfl (by first | rfl | (simp [zb, c2, c7, inn]; done))
    · refine lv_iconst (v := 1) hx hb dX10_in_10 (by decide) ?_
      refine lv_goto (tgt := 15) hx hb dX10_in_11 (by decide) ?_
      exact rd_zret hx hb hr hlk dX10_in_15 rfl (by first | rfl | (simp [zb, c2, c7, inn]; done))

set_option maxHeartbeats 4000000 in
set_option maxRecDepth 100000 in
theorem c_X10_first (l : Launch) (G : Gv) (q0 : Nat) (q1 : Nat) (q2 : Nat) (q3 : Nat) (q4 : Nat) (q5 : Nat) (q6 : Nat) (q7 : Nat) (q8 : Nat) (q9 : Nat) (q10 : Nat) (q11 : Nat) (q12 : Nat) (q13 : Nat) (q14 : Nat) (tx : Nat → Int32) (ro : Nat → Int32) (co : Nat → Int32) (mp : Nat → Int32) (my : Nat → Int32) (md : Nat → Int32) (mr : Nat → Int32) (dr : Nat → Int32) (nw : Nat → Int32) (tk : Nat → Int32) (cs : Nat → Int32) (sa : Nat → Int32) (go : Nat → Int32) (to : Nat → Int32) (ty : Nat) (dm : Nat) (at_ : Nat) (so : Bool) (de : Nat) (ke : Nat) (sm : Nat) (t : Nat) (x : Int32) (b : Int32) (f : Int32) (k : Int32) (ht : t < 10) : Ct l yX10_first cX10_first 6 none (rmz 0 0) G [.ref q0, .int (nI t), .int x, .int b, .int f, .int k] [(q0, .inr (10, [.ref q1, .int (nI ty), .ref q2, .ref q3, .ref q4, .ref q5, .ref q6, .ref q7, .ref q8, .int (nI dm), .int (nI at_), .int (zb so), .ref q9, .int (nI de), .int (nI ke), .ref q10, .ref q11, .ref q12, .int (nI sm), .ref q13, .ref q14])), (q1, .inl (kB G, 200, .inl tx)), (q2, .inl (kI G, 2, .inl ro)), (q3, .inl (kI G, 2, .inl co)), (q4, .inl (kI G, 2, .inl mp)), (q5, .inl (kI G, 10, .inl my)), (q6, .inl (kI G, 10, .inl md)), (q7, .inl (kI G, 10, .inl mr)), (q8, .inl (kI G, 40, .inl dr)), (q9, .inl (kI G, 504, .inl nw)), (q10, .inl (kI G, 64, .inl tk)), (q11, .inl (kI G, 64, .inl cs)), (q12, .inl (kI G, 12, .inl sa)), (q13, .inl (kI G, 8, .inl go)), (q14, .inl (kI G, 2048, .inl to))] (one none [(q0, .inr (10, [.ref q1, .int (nI ty), .ref q2, .ref q3, .ref q4, .ref q5, .ref q6, .ref q7, .ref q8, .int (nI dm), .int (nI at_), .int (zb so), .ref q9, .int (nI de), .int (nI ke), .ref q10, .ref q11, .ref q12, .int (nI sm), .ref q13, .ref q14])), (q1, .inl (kB G, 200, .inl tx)), (q2, .inl (kI G, 2, .inl ro)), (q3, .inl (kI G, 2, .inl co)), (q4, .inl (kI G, 2, .inl mp)), (q5, .inl (kI G, 10, .inl my)), (q6, .inl (kI G, 10, .inl md)), (q7, .inl (kI G, 10, .inl mr)), (q8, .inl (kI G, 40, .inl dr)), (q9, .inl (kI G, 504, .inl (upd (upd (upd (upd nw (2 + t) x) (12 + t) b) (22 + t) f) (32 + t) k))), (q10, .inl (kI G, 64, .inl tk)), (q11, .inl (kI G, 64, .inl cs)), (q12, .inl (kI G, 12, .inl sa)), (q13, .inl (kI G, 8, .inl go)), (q14, .inl (kI G, 2048, .inl to))]) := by
  refine Ct.ofW (by decide) (Nat.le_of_ble_eq_true rfl) ?_
  intro p e s m below meth c ls A hx hb hml hr hown hts hlk hnm hP hD hA hE hS hl
  obtain ⟨H, eH⟩ : ∃ H : Heap, H = s.heap := ⟨_, rfl⟩
  obtain ⟨locs, eL⟩ : ∃ ll : List Loc, ll = [] := ⟨_, rfl⟩
  rw [← eH] at hP
  have hS : va_S A s.heap H locs := by rw [eH, eL]; exact hS
  show WC p l e _ s m _ below meth c G A _ s.heap [] 0 0 _
  rw [← eH, ← eL]
  clear eH eL
  have hl : lv_has ls 6 [(0, .ref q0), (1, .int (nI t)), (2, .int x), (3, .int b), (4, .int f), (5, .int k)] := hl
  refine lv_aload_n hx hb dX10_first_0 rfl (lv_at hl 0 rfl) ?_
  refine va_get hx hb hts inlX10 hown hE.1 hP 0 rfl rfl 12 (by decide) (fl_X10_35 hts) (fun _ h9 => h9) rfl dX10_first_1 ?_
  refine lv_iconst (v := 2) hx hb dX10_first_4 (by decide) ?_
  refine lv_iload_n hx hb dX10_first_5 rfl (lv_at hl 1 rfl) ?_
  refine lv_iadd hx hb dX10_first_6 ?_
  rw [show (2 : Int32) + (nI t) = nI (2 + t) from nI_add 2 t]
  refine lv_iload_n hx hb dX10_first_7 rfl (lv_at hl 2 rfl) ?_
  refine va_iast hx hb hE.1 hP hD hS 9 0 rfl rfl (vp_in_nI (by omega) (by omega)) dX10_first_8 (fun H locs hP hD hS => ?_)
  rw [nI_clamp (show 2 + t < 2 ^ 31 by omega)] at hP hD
  have hP : va_P G.1 vwCl [(q0, .inr (10, [.ref q1, .int (nI ty), .ref q2, .ref q3, .ref q4, .ref q5, .ref q6, .ref q7, .ref q8, .int (nI dm), .int (nI at_), .int (zb so), .ref q9, .int (nI de), .int (nI ke), .ref q10, .ref q11, .ref q12, .int (nI sm), .ref q13, .ref q14])), (q1, .inl (kB G, 200, .inl tx)), (q2, .inl (kI G, 2, .inl ro)), (q3, .inl (kI G, 2, .inl co)), (q4, .inl (kI G, 2, .inl mp)), (q5, .inl (kI G, 10, .inl my)), (q6, .inl (kI G, 10, .inl md)), (q7, .inl (kI G, 10, .inl mr)), (q8, .inl (kI G, 40, .inl dr)), (q9, .inl (kI G, 504, .inl (upd nw (2 + t) x))), (q10, .inl (kI G, 64, .inl tk)), (q11, .inl (kI G, 64, .inl cs)), (q12, .inl (kI G, 12, .inl sa)), (q13, .inl (kI G, 8, .inl go)), (q14, .inl (kI G, 2048, .inl to))] H := hP
  have hD : va_D A [(q0, .inr (10, [.ref q1, .int (nI ty), .ref q2, .ref q3, .ref q4, .ref q5, .ref q6, .ref q7, .ref q8, .int (nI dm), .int (nI at_), .int (zb so), .ref q9, .int (nI de), .int (nI ke), .ref q10, .ref q11, .ref q12, .int (nI sm), .ref q13, .ref q14])), (q1, .inl (kB G, 200, .inl tx)), (q2, .inl (kI G, 2, .inl ro)), (q3, .inl (kI G, 2, .inl co)), (q4, .inl (kI G, 2, .inl mp)), (q5, .inl (kI G, 10, .inl my)), (q6, .inl (kI G, 10, .inl md)), (q7, .inl (kI G, 10, .inl mr)), (q8, .inl (kI G, 40, .inl dr)), (q9, .inl (kI G, 504, .inl (upd nw (2 + t) x))), (q10, .inl (kI G, 64, .inl tk)), (q11, .inl (kI G, 64, .inl cs)), (q12, .inl (kI G, 12, .inl sa)), (q13, .inl (kI G, 8, .inl go)), (q14, .inl (kI G, 2048, .inl to))] := hD
  refine lv_aload_n hx hb dX10_first_9 rfl (lv_at hl 0 rfl) ?_
  refine va_get hx hb hts inlX10 hown hE.1 hP 0 rfl rfl 12 (by decide) (fl_X10_35 hts) (fun _ h9 => h9) rfl dX10_first_10 ?_
  refine lv_bipush (v := 12) hx hb dX10_first_13 (by decide) ?_
  refine lv_iload_n hx hb dX10_first_15 rfl (lv_at hl 1 rfl) ?_
  refine lv_iadd hx hb dX10_first_16 ?_
  rw [show (12 : Int32) + (nI t) = nI (12 + t) from nI_add 12 t]
  refine lv_iload_n hx hb dX10_first_17 rfl (lv_at hl 3 rfl) ?_
  refine va_iast hx hb hE.1 hP hD hS 9 0 rfl rfl (vp_in_nI (by omega) (by omega)) dX10_first_18 (fun H locs hP hD hS => ?_)
  rw [nI_clamp (show 12 + t < 2 ^ 31 by omega)] at hP hD
  have hP : va_P G.1 vwCl [(q0, .inr (10, [.ref q1, .int (nI ty), .ref q2, .ref q3, .ref q4, .ref q5, .ref q6, .ref q7, .ref q8, .int (nI dm), .int (nI at_), .int (zb so), .ref q9, .int (nI de), .int (nI ke), .ref q10, .ref q11, .ref q12, .int (nI sm), .ref q13, .ref q14])), (q1, .inl (kB G, 200, .inl tx)), (q2, .inl (kI G, 2, .inl ro)), (q3, .inl (kI G, 2, .inl co)), (q4, .inl (kI G, 2, .inl mp)), (q5, .inl (kI G, 10, .inl my)), (q6, .inl (kI G, 10, .inl md)), (q7, .inl (kI G, 10, .inl mr)), (q8, .inl (kI G, 40, .inl dr)), (q9, .inl (kI G, 504, .inl (upd (upd nw (2 + t) x) (12 + t) b))), (q10, .inl (kI G, 64, .inl tk)), (q11, .inl (kI G, 64, .inl cs)), (q12, .inl (kI G, 12, .inl sa)), (q13, .inl (kI G, 8, .inl go)), (q14, .inl (kI G, 2048, .inl to))] H := hP
  have hD : va_D A [(q0, .inr (10, [.ref q1, .int (nI ty), .ref q2, .ref q3, .ref q4, .ref q5, .ref q6, .ref q7, .ref q8, .int (nI dm), .int (nI at_), .int (zb so), .ref q9, .int (nI de), .int (nI ke), .ref q10, .ref q11, .ref q12, .int (nI sm), .ref q13, .ref q14])), (q1, .inl (kB G, 200, .inl tx)), (q2, .inl (kI G, 2, .inl ro)), (q3, .inl (kI G, 2, .inl co)), (q4, .inl (kI G, 2, .inl mp)), (q5, .inl (kI G, 10, .inl my)), (q6, .inl (kI G, 10, .inl md)), (q7, .inl (kI G, 10, .inl mr)), (q8, .inl (kI G, 40, .inl dr)), (q9, .inl (kI G, 504, .inl (upd (upd nw (2 + t) x) (12 + t) b))), (q10, .inl (kI G, 64, .inl tk)), (q11, .inl (kI G, 64, .inl cs)), (q12, .inl (kI G, 12, .inl sa)), (q13, .inl (kI G, 8, .inl go)), (q14, .inl (kI G, 2048, .inl to))] := hD
  refine lv_aload_n hx hb dX10_first_19 rfl (lv_at hl 0 rfl) ?_
  refine va_get hx hb hts inlX10 hown hE.1 hP 0 rfl rfl 12 (by decide) (fl_X10_35 hts) (fun _ h9 => h9) rfl dX10_first_20 ?_
  refine lv_bipush (v := 22) hx hb dX10_first_23 (by decide) ?_
  refine lv_iload_n hx hb dX10_first_25 rfl (lv_at hl 1 rfl) ?_
  refine lv_iadd hx hb dX10_first_26 ?_
  rw [show (22 : Int32) + (nI t) = nI (22 + t) from nI_add 22 t]
  refine lv_iload hx hb dX10_first_27 (lv_at hl 4 rfl) ?_
  refine va_iast hx hb hE.1 hP hD hS 9 0 rfl rfl (vp_in_nI (by omega) (by omega)) dX10_first_29 (fun H locs hP hD hS => ?_)
  rw [nI_clamp (show 22 + t < 2 ^ 31 by omega)] at hP hD
  have hP : va_P G.1 vwCl [(q0, .inr (10, [.ref q1, .int (nI ty), .ref q2, .ref q3, .ref q4, .ref q5, .ref q6, .ref q7, .ref q8, .int (nI dm), .int (nI at_), .int (zb so), .ref q9, .int (nI de), .int (nI ke), .ref q10, .ref q11, .ref q12, .int (nI sm), .ref q13, .ref q14])), (q1, .inl (kB G, 200, .inl tx)), (q2, .inl (kI G, 2, .inl ro)), (q3, .inl (kI G, 2, .inl co)), (q4, .inl (kI G, 2, .inl mp)), (q5, .inl (kI G, 10, .inl my)), (q6, .inl (kI G, 10, .inl md)), (q7, .inl (kI G, 10, .inl mr)), (q8, .inl (kI G, 40, .inl dr)), (q9, .inl (kI G, 504, .inl (upd (upd (upd nw (2 + t) x) (12 + t) b) (22 + t) f))), (q10, .inl (kI G, 64, .inl tk)), (q11, .inl (kI G, 64, .inl cs)), (q12, .inl (kI G, 12, .inl sa)), (q13, .inl (kI G, 8, .inl go)), (q14, .inl (kI G, 2048, .inl to))] H := hP
  have hD : va_D A [(q0, .inr (10, [.ref q1, .int (nI ty), .ref q2, .ref q3, .ref q4, .ref q5, .ref q6, .ref q7, .ref q8, .int (nI dm), .int (nI at_), .int (zb so), .ref q9, .int (nI de), .int (nI ke), .ref q10, .ref q11, .ref q12, .int (nI sm), .ref q13, .ref q14])), (q1, .inl (kB G, 200, .inl tx)), (q2, .inl (kI G, 2, .inl ro)), (q3, .inl (kI G, 2, .inl co)), (q4, .inl (kI G, 2, .inl mp)), (q5, .inl (kI G, 10, .inl my)), (q6, .inl (kI G, 10, .inl md)), (q7, .inl (kI G, 10, .inl mr)), (q8, .inl (kI G, 40, .inl dr)), (q9, .inl (kI G, 504, .inl (upd (upd (upd nw (2 + t) x) (12 + t) b) (22 + t) f))), (q10, .inl (kI G, 64, .inl tk)), (q11, .inl (kI G, 64, .inl cs)), (q12, .inl (kI G, 12, .inl sa)), (q13, .inl (kI G, 8, .inl go)), (q14, .inl (kI G, 2048, .inl to))] := hD
  refine lv_aload_n hx hb dX10_first_30 rfl (lv_at hl 0 rfl) ?_
  refine va_get hx hb hts inlX10 hown hE.1 hP 0 rfl rfl 12 (by decide) (fl_X10_35 hts) (fun _ h9 => h9) rfl dX10_first_31 ?_
  refine lv_bipush (v := 32) hx hb dX10_first_34 (by decide) ?_
  refine lv_iload_n hx hb dX10_first_36 rfl (lv_at hl 1 rfl) ?_
  refine lv_iadd hx hb dX10_first_37 ?_
  rw [show (32 : Int32) + (nI t) = nI (32 + t) from nI_add 32 t]
  refine lv_iload hx hb dX10_first_38 (lv_at hl 5 rfl) ?_
  refine va_iast hx hb hE.1 hP hD hS 9 0 rfl rfl (vp_in_nI (by omega) (by omega)) dX10_first_40 (fun H locs hP hD hS => ?_)
  rw [nI_clamp (show 32 + t < 2 ^ 31 by omega)] at hP hD
  have hP : va_P G.1 vwCl [(q0, .inr (10, [.ref q1, .int (nI ty), .ref q2, .ref q3, .ref q4, .ref q5, .ref q6, .ref q7, .ref q8, .int (nI dm), .int (nI at_), .int (zb so), .ref q9, .int (nI de), .int (nI ke), .ref q10, .ref q11, .ref q12, .int (nI sm), .ref q13, .ref q14])), (q1, .inl (kB G, 200, .inl tx)), (q2, .inl (kI G, 2, .inl ro)), (q3, .inl (kI G, 2, .inl co)), (q4, .inl (kI G, 2, .inl mp)), (q5, .inl (kI G, 10, .inl my)), (q6, .inl (kI G, 10, .inl md)), (q7, .inl (kI G, 10, .inl mr)), (q8, .inl (kI G, 40, .inl dr)), (q9, .inl (kI G, 504, .inl (upd (upd (upd (upd nw (2 + t) x) (12 + t) b) (22 + t) f) (32 + t) k))), (q10, .inl (kI G, 64, .inl tk)), (q11, .inl (kI G, 64, .inl cs)), (q12, .inl (kI G, 12, .inl sa)), (q13, .inl (kI G, 8, .inl go)), (q14, .inl (kI G, 2048, .inl to))] H := hP
  have hD : va_D A [(q0, .inr (10, [.ref q1, .int (nI ty), .ref q2, .ref q3, .ref q4, .ref q5, .ref q6, .ref q7, .ref q8, .int (nI dm), .int (nI at_), .int (zb so), .ref q9, .int (nI de), .int (nI ke), .ref q10, .ref q11, .ref q12, .int (nI sm), .ref q13, .ref q14])), (q1, .inl (kB G, 200, .inl tx)), (q2, .inl (kI G, 2, .inl ro)), (q3, .inl (kI G, 2, .inl co)), (q4, .inl (kI G, 2, .inl mp)), (q5, .inl (kI G, 10, .inl my)), (q6, .inl (kI G, 10, .inl md)), (q7, .inl (kI G, 10, .inl mr)), (q8, .inl (kI G, 40, .inl dr)), (q9, .inl (kI G, 504, .inl (upd (upd (upd (upd nw (2 + t) x) (12 + t) b) (22 + t) f) (32 + t) k))), (q10, .inl (kI G, 64, .inl tk)), (q11, .inl (kI G, 64, .inl cs)), (q12, .inl (kI G, 12, .inl sa)), (q13, .inl (kI G, 8, .inl go)), (q14, .inl (kI G, 2048, .inl to))] := hD
  exact ct_vret hx hb hr hlk dX10_first_41 hP hD hS (by first | exact ⟨rfl, rfl⟩ | (simp [one]; done))

set_option maxHeartbeats 4000000 in
set_option maxRecDepth 100000 in
theorem c_X10_putMap (l : Launch) (G : Gv) (q0 : Nat) (q1 : Nat) (q2 : Nat) (q3 : Nat) (q4 : Nat) (q5 : Nat) (q6 : Nat) (q7 : Nat) (q8 : Nat) (q9 : Nat) (q10 : Nat) (q11 : Nat) (q12 : Nat) (q13 : Nat) (q14 : Nat) (tx : Nat → Int32) (ro : Nat → Int32) (co : Nat → Int32) (mp : Nat → Int32) (my : Nat → Int32) (md : Nat → Int32) (mr : Nat → Int32) (dr : Nat → Int32) (nw : Nat → Int32) (tk : Nat → Int32) (cs : Nat → Int32) (sa : Nat → Int32) (go : Nat → Int32) (to : Nat → Int32) (ty : Nat) (dm : Nat) (at_ : Nat) (so : Bool) (de : Nat) (ke : Nat) (sm : Nat) (hf : Nat) (t : Nat) (x : Int32) (b : Int32) (f : Int32) (ht : t < 5) (hh : hf < 2) : Ct l yX10_putMap cX10_putMap 6 none (rmz 0 0) G [.ref q0, .int (nI hf), .int (nI t), .int x, .int b, .int f] [(q0, .inr (10, [.ref q1, .int (nI ty), .ref q2, .ref q3, .ref q4, .ref q5, .ref q6, .ref q7, .ref q8, .int (nI dm), .int (nI at_), .int (zb so), .ref q9, .int (nI de), .int (nI ke), .ref q10, .ref q11, .ref q12, .int (nI sm), .ref q13, .ref q14])), (q1, .inl (kB G, 200, .inl tx)), (q2, .inl (kI G, 2, .inl ro)), (q3, .inl (kI G, 2, .inl co)), (q4, .inl (kI G, 2, .inl mp)), (q5, .inl (kI G, 10, .inl my)), (q6, .inl (kI G, 10, .inl md)), (q7, .inl (kI G, 10, .inl mr)), (q8, .inl (kI G, 40, .inl dr)), (q9, .inl (kI G, 504, .inl nw)), (q10, .inl (kI G, 64, .inl tk)), (q11, .inl (kI G, 64, .inl cs)), (q12, .inl (kI G, 12, .inl sa)), (q13, .inl (kI G, 8, .inl go)), (q14, .inl (kI G, 2048, .inl to))] (one none [(q0, .inr (10, [.ref q1, .int (nI ty), .ref q2, .ref q3, .ref q4, .ref q5, .ref q6, .ref q7, .ref q8, .int (nI dm), .int (nI at_), .int (zb so), .ref q9, .int (nI de), .int (nI ke), .ref q10, .ref q11, .ref q12, .int (nI sm), .ref q13, .ref q14])), (q1, .inl (kB G, 200, .inl tx)), (q2, .inl (kI G, 2, .inl ro)), (q3, .inl (kI G, 2, .inl co)), (q4, .inl (kI G, 2, .inl mp)), (q5, .inl (kI G, 10, .inl (upd my (5 * hf + t) x))), (q6, .inl (kI G, 10, .inl (upd md (5 * hf + t) b))), (q7, .inl (kI G, 10, .inl (upd mr (5 * hf + t) f))), (q8, .inl (kI G, 40, .inl dr)), (q9, .inl (kI G, 504, .inl nw)), (q10, .inl (kI G, 64, .inl tk)), (q11, .inl (kI G, 64, .inl cs)), (q12, .inl (kI G, 12, .inl sa)), (q13, .inl (kI G, 8, .inl go)), (q14, .inl (kI G, 2048, .inl to))]) := by
  refine Ct.ofW (by decide) (Nat.le_of_ble_eq_true rfl) ?_
  intro p e s m below meth c ls A hx hb hml hr hown hts hlk hnm hP hD hA hE hS hl
  obtain ⟨H, eH⟩ : ∃ H : Heap, H = s.heap := ⟨_, rfl⟩
  obtain ⟨locs, eL⟩ : ∃ ll : List Loc, ll = [] := ⟨_, rfl⟩
  rw [← eH] at hP
  have hS : va_S A s.heap H locs := by rw [eH, eL]; exact hS
  show WC p l e _ s m _ below meth c G A _ s.heap [] 0 0 _
  rw [← eH, ← eL]
  clear eH eL
  have hl : lv_has ls 6 [(0, .ref q0), (1, .int (nI hf)), (2, .int (nI t)), (3, .int x), (4, .int b), (5, .int f)] := hl
  refine lv_aload_n hx hb dX10_putMap_0 rfl (lv_at hl 0 rfl) ?_
  refine va_get hx hb hts inlX10 hown hE.1 hP 0 rfl rfl 5 (by decide) (fl_X10_23 hts) (fun _ h9 => h9) rfl dX10_putMap_1 ?_
  refine lv_iconst (v := 5) hx hb dX10_putMap_4 (by decide) ?_
  refine lv_iload_n hx hb dX10_putMap_5 rfl (lv_at hl 1 rfl) ?_
  refine lv_imul hx hb dX10_putMap_6 ?_
  rw [show (5 : Int32) * (nI hf) = nI (5 * hf) from pk_mul 5 hf]
  refine lv_iload_n hx hb dX10_putMap_7 rfl (lv_at hl 2 rfl) ?_
  refine lv_iadd hx hb dX10_putMap_8 ?_
  rw [show (nI (5 * hf)) + (nI t) = nI (5 * hf + t) from nI_add (5 * hf) t]
  refine lv_iload_n hx hb dX10_putMap_9 rfl (lv_at hl 3 rfl) ?_
  refine va_iast hx hb hE.1 hP hD hS 5 0 rfl rfl (vp_in_nI (by omega) (by omega)) dX10_putMap_10 (fun H locs hP hD hS => ?_)
  rw [nI_clamp (show 5 * hf + t < 2 ^ 31 by omega)] at hP hD
  have hP : va_P G.1 vwCl [(q0, .inr (10, [.ref q1, .int (nI ty), .ref q2, .ref q3, .ref q4, .ref q5, .ref q6, .ref q7, .ref q8, .int (nI dm), .int (nI at_), .int (zb so), .ref q9, .int (nI de), .int (nI ke), .ref q10, .ref q11, .ref q12, .int (nI sm), .ref q13, .ref q14])), (q1, .inl (kB G, 200, .inl tx)), (q2, .inl (kI G, 2, .inl ro)), (q3, .inl (kI G, 2, .inl co)), (q4, .inl (kI G, 2, .inl mp)), (q5, .inl (kI G, 10, .inl (upd my (5 * hf + t) x))), (q6, .inl (kI G, 10, .inl md)), (q7, .inl (kI G, 10, .inl mr)), (q8, .inl (kI G, 40, .inl dr)), (q9, .inl (kI G, 504, .inl nw)), (q10, .inl (kI G, 64, .inl tk)), (q11, .inl (kI G, 64, .inl cs)), (q12, .inl (kI G, 12, .inl sa)), (q13, .inl (kI G, 8, .inl go)), (q14, .inl (kI G, 2048, .inl to))] H := hP
  have hD : va_D A [(q0, .inr (10, [.ref q1, .int (nI ty), .ref q2, .ref q3, .ref q4, .ref q5, .ref q6, .ref q7, .ref q8, .int (nI dm), .int (nI at_), .int (zb so), .ref q9, .int (nI de), .int (nI ke), .ref q10, .ref q11, .ref q12, .int (nI sm), .ref q13, .ref q14])), (q1, .inl (kB G, 200, .inl tx)), (q2, .inl (kI G, 2, .inl ro)), (q3, .inl (kI G, 2, .inl co)), (q4, .inl (kI G, 2, .inl mp)), (q5, .inl (kI G, 10, .inl (upd my (5 * hf + t) x))), (q6, .inl (kI G, 10, .inl md)), (q7, .inl (kI G, 10, .inl mr)), (q8, .inl (kI G, 40, .inl dr)), (q9, .inl (kI G, 504, .inl nw)), (q10, .inl (kI G, 64, .inl tk)), (q11, .inl (kI G, 64, .inl cs)), (q12, .inl (kI G, 12, .inl sa)), (q13, .inl (kI G, 8, .inl go)), (q14, .inl (kI G, 2048, .inl to))] := hD
  refine lv_aload_n hx hb dX10_putMap_11 rfl (lv_at hl 0 rfl) ?_
  refine va_get hx hb hts inlX10 hown hE.1 hP 0 rfl rfl 6 (by decide) (fl_X10_26 hts) (fun _ h9 => h9) rfl dX10_putMap_12 ?_
  refine lv_iconst (v := 5) hx hb dX10_putMap_15 (by decide) ?_
  refine lv_iload_n hx hb dX10_putMap_16 rfl (lv_at hl 1 rfl) ?_
  refine lv_imul hx hb dX10_putMap_17 ?_
  rw [show (5 : Int32) * (nI hf) = nI (5 * hf) from pk_mul 5 hf]
  refine lv_iload_n hx hb dX10_putMap_18 rfl (lv_at hl 2 rfl) ?_
  refine lv_iadd hx hb dX10_putMap_19 ?_
  rw [show (nI (5 * hf)) + (nI t) = nI (5 * hf + t) from nI_add (5 * hf) t]
  refine lv_iload hx hb dX10_putMap_20 (lv_at hl 4 rfl) ?_
  refine va_iast hx hb hE.1 hP hD hS 6 0 rfl rfl (vp_in_nI (by omega) (by omega)) dX10_putMap_22 (fun H locs hP hD hS => ?_)
  rw [nI_clamp (show 5 * hf + t < 2 ^ 31 by omega)] at hP hD
  have hP : va_P G.1 vwCl [(q0, .inr (10, [.ref q1, .int (nI ty), .ref q2, .ref q3, .ref q4, .ref q5, .ref q6, .ref q7, .ref q8, .int (nI dm), .int (nI at_), .int (zb so), .ref q9, .int (nI de), .int (nI ke), .ref q10, .ref q11, .ref q12, .int (nI sm), .ref q13, .ref q14])), (q1, .inl (kB G, 200, .inl tx)), (q2, .inl (kI G, 2, .inl ro)), (q3, .inl (kI G, 2, .inl co)), (q4, .inl (kI G, 2, .inl mp)), (q5, .inl (kI G, 10, .inl (upd my (5 * hf + t) x))), (q6, .inl (kI G, 10, .inl (upd md (5 * hf + t) b))), (q7, .inl (kI G, 10, .inl mr)), (q8, .inl (kI G, 40, .inl dr)), (q9, .inl (kI G, 504, .inl nw)), (q10, .inl (kI G, 64, .inl tk)), (q11, .inl (kI G, 64, .inl cs)), (q12, .inl (kI G, 12, .inl sa)), (q13, .inl (kI G, 8, .inl go)), (q14, .inl (kI G, 2048, .inl to))] H := hP
  have hD : va_D A [(q0, .inr (10, [.ref q1, .int (nI ty), .ref q2, .ref q3, .ref q4, .ref q5, .ref q6, .ref q7, .ref q8, .int (nI dm), .int (nI at_), .int (zb so), .ref q9, .int (nI de), .int (nI ke), .ref q10, .ref q11, .ref q12, .int (nI sm), .ref q13, .ref q14])), (q1, .inl (kB G, 200, .inl tx)), (q2, .inl (kI G, 2, .inl ro)), (q3, .inl (kI G, 2, .inl co)), (q4, .inl (kI G, 2, .inl mp)), (q5, .inl (kI G, 10, .inl (upd my (5 * hf + t) x))), (q6, .inl (kI G, 10, .inl (upd md (5 * hf + t) b))), (q7, .inl (kI G, 10, .inl mr)), (q8, .inl (kI G, 40, .inl dr)), (q9, .inl (kI G, 504, .inl nw)), (q10, .inl (kI G, 64, .inl tk)), (q11, .inl (kI G, 64, .inl cs)), (q12, .inl (kI G, 12, .inl sa)), (q13, .inl (kI G, 8, .inl go)), (q14, .inl (kI G, 2048, .inl to))] := hD
  refine lv_aload_n hx hb dX10_putMap_23 rfl (lv_at hl 0 rfl) ?_
  refine va_get hx hb hts inlX10 hown hE.1 hP 0 rfl rfl 7 (by decide) (fl_X10_29 hts) (fun _ h9 => h9) rfl dX10_putMap_24 ?_
  refine lv_iconst (v := 5) hx hb dX10_putMap_27 (by decide) ?_
  refine lv_iload_n hx hb dX10_putMap_28 rfl (lv_at hl 1 rfl) ?_
  refine lv_imul hx hb dX10_putMap_29 ?_
  rw [show (5 : Int32) * (nI hf) = nI (5 * hf) from pk_mul 5 hf]
  refine lv_iload_n hx hb dX10_putMap_30 rfl (lv_at hl 2 rfl) ?_
  refine lv_iadd hx hb dX10_putMap_31 ?_
  rw [show (nI (5 * hf)) + (nI t) = nI (5 * hf + t) from nI_add (5 * hf) t]
  refine lv_iload hx hb dX10_putMap_32 (lv_at hl 5 rfl) ?_
  refine va_iast hx hb hE.1 hP hD hS 7 0 rfl rfl (vp_in_nI (by omega) (by omega)) dX10_putMap_34 (fun H locs hP hD hS => ?_)
  rw [nI_clamp (show 5 * hf + t < 2 ^ 31 by omega)] at hP hD
  have hP : va_P G.1 vwCl [(q0, .inr (10, [.ref q1, .int (nI ty), .ref q2, .ref q3, .ref q4, .ref q5, .ref q6, .ref q7, .ref q8, .int (nI dm), .int (nI at_), .int (zb so), .ref q9, .int (nI de), .int (nI ke), .ref q10, .ref q11, .ref q12, .int (nI sm), .ref q13, .ref q14])), (q1, .inl (kB G, 200, .inl tx)), (q2, .inl (kI G, 2, .inl ro)), (q3, .inl (kI G, 2, .inl co)), (q4, .inl (kI G, 2, .inl mp)), (q5, .inl (kI G, 10, .inl (upd my (5 * hf + t) x))), (q6, .inl (kI G, 10, .inl (upd md (5 * hf + t) b))), (q7, .inl (kI G, 10, .inl (upd mr (5 * hf + t) f))), (q8, .inl (kI G, 40, .inl dr)), (q9, .inl (kI G, 504, .inl nw)), (q10, .inl (kI G, 64, .inl tk)), (q11, .inl (kI G, 64, .inl cs)), (q12, .inl (kI G, 12, .inl sa)), (q13, .inl (kI G, 8, .inl go)), (q14, .inl (kI G, 2048, .inl to))] H := hP
  have hD : va_D A [(q0, .inr (10, [.ref q1, .int (nI ty), .ref q2, .ref q3, .ref q4, .ref q5, .ref q6, .ref q7, .ref q8, .int (nI dm), .int (nI at_), .int (zb so), .ref q9, .int (nI de), .int (nI ke), .ref q10, .ref q11, .ref q12, .int (nI sm), .ref q13, .ref q14])), (q1, .inl (kB G, 200, .inl tx)), (q2, .inl (kI G, 2, .inl ro)), (q3, .inl (kI G, 2, .inl co)), (q4, .inl (kI G, 2, .inl mp)), (q5, .inl (kI G, 10, .inl (upd my (5 * hf + t) x))), (q6, .inl (kI G, 10, .inl (upd md (5 * hf + t) b))), (q7, .inl (kI G, 10, .inl (upd mr (5 * hf + t) f))), (q8, .inl (kI G, 40, .inl dr)), (q9, .inl (kI G, 504, .inl nw)), (q10, .inl (kI G, 64, .inl tk)), (q11, .inl (kI G, 64, .inl cs)), (q12, .inl (kI G, 12, .inl sa)), (q13, .inl (kI G, 8, .inl go)), (q14, .inl (kI G, 2048, .inl to))] := hD
  exact ct_vret hx hb hr hlk dX10_putMap_35 hP hD hS (by first | exact ⟨rfl, rfl⟩ | (simp [one]; done))

set_option maxHeartbeats 4000000 in
set_option maxRecDepth 100000 in
theorem c_X10_write (l : Launch) (G : Gv) (q0 : Nat) (q1 : Nat) (q2 : Nat) (q3 : Nat) (q4 : Nat) (q5 : Nat) (q6 : Nat) (q7 : Nat) (q8 : Nat) (q9 : Nat) (q10 : Nat) (q11 : Nat) (q12 : Nat) (q13 : Nat) (q14 : Nat) (tx : Nat → Int32) (ro : Nat → Int32) (co : Nat → Int32) (mp : Nat → Int32) (my : Nat → Int32) (md : Nat → Int32) (mr : Nat → Int32) (dr : Nat → Int32) (nw : Nat → Int32) (tk : Nat → Int32) (cs : Nat → Int32) (sa : Nat → Int32) (go : Nat → Int32) (to : Nat → Int32) (ty : Nat) (dm : Nat) (at_ : Nat) (so : Bool) (de : Nat) (ke : Nat) (sm : Nat) (x : Int32) (hty : ty ≤ 200) : Ct l yX10_write cX10_write 2 (some .int) (rmz 1 22) G [.ref q0, .int x] [(q0, .inr (10, [.ref q1, .int (nI ty), .ref q2, .ref q3, .ref q4, .ref q5, .ref q6, .ref q7, .ref q8, .int (nI dm), .int (nI at_), .int (zb so), .ref q9, .int (nI de), .int (nI ke), .ref q10, .ref q11, .ref q12, .int (nI sm), .ref q13, .ref q14])), (q1, .inl (kB G, 200, .inl tx)), (q2, .inl (kI G, 2, .inl ro)), (q3, .inl (kI G, 2, .inl co)), (q4, .inl (kI G, 2, .inl mp)), (q5, .inl (kI G, 10, .inl my)), (q6, .inl (kI G, 10, .inl md)), (q7, .inl (kI G, 10, .inl mr)), (q8, .inl (kI G, 40, .inl dr)), (q9, .inl (kI G, 504, .inl nw)), (q10, .inl (kI G, 64, .inl tk)), (q11, .inl (kI G, 64, .inl cs)), (q12, .inl (kI G, 12, .inl sa)), (q13, .inl (kI G, 8, .inl go)), (q14, .inl (kI G, 2048, .inl to))] (one (some (.int (if inn x 32 126 then (if ty = 200 then -3 else nI (ty + 1)) else -1))) [(q0, .inr (10, [.ref q1, .int (nI (if inn x 32 126 && !decide (ty = 200) then ty + 1 else ty)), .ref q2, .ref q3, .ref q4, .ref q5, .ref q6, .ref q7, .ref q8, .int (nI dm), .int (nI at_), .int (zb so), .ref q9, .int (nI de), .int (nI ke), .ref q10, .ref q11, .ref q12, .int (nI sm), .ref q13, .ref q14])), (q1, .inl (kB G, 200, .inl (if inn x 32 126 && !decide (ty = 200) then upd tx ty (byt x) else tx))), (q2, .inl (kI G, 2, .inl ro)), (q3, .inl (kI G, 2, .inl co)), (q4, .inl (kI G, 2, .inl mp)), (q5, .inl (kI G, 10, .inl my)), (q6, .inl (kI G, 10, .inl md)), (q7, .inl (kI G, 10, .inl mr)), (q8, .inl (kI G, 40, .inl dr)), (q9, .inl (kI G, 504, .inl nw)), (q10, .inl (kI G, 64, .inl tk)), (q11, .inl (kI G, 64, .inl cs)), (q12, .inl (kI G, 12, .inl sa)), (q13, .inl (kI G, 8, .inl go)), (q14, .inl (kI G, 2048, .inl to))]) := by
  refine Ct.ofW (by decide) (Nat.le_of_ble_eq_true rfl) ?_
  intro p e s m below meth c ls A hx hb hml hr hown hts hlk hnm hP hD hA hE hS hl
  obtain ⟨H, eH⟩ : ∃ H : Heap, H = s.heap := ⟨_, rfl⟩
  obtain ⟨locs, eL⟩ : ∃ ll : List Loc, ll = [] := ⟨_, rfl⟩
  rw [← eH] at hP
  have hS : va_S A s.heap H locs := by rw [eH, eL]; exact hS
  show WC p l e _ s m _ below meth c G A _ s.heap [] 0 0 _
  rw [← eH, ← eL]
  clear eH eL
  have hl : lv_has ls 2 [(0, .ref q0), (1, .int x)] := hl
  refine lv_iload_n hx hb dX10_write_0 rfl (lv_at hl 1 rfl) ?_
  refine lv_bipush (v := 32) hx hb dX10_write_1 (by decide) ?_
  refine lv_bipush (v := 126) hx hb dX10_write_3 (by decide) ?_
  refine rd_callS (As := [.int x, .int 32, .int 126]) (rest := []) hx hb hml hown hts (hE.at0 hS) hl.1 (c_X10_in l G x 32 126 ) (cs_X10_61 hts) ⟨(Nat.le_of_ble_eq_true rfl), (Nat.le_of_ble_eq_true rfl)⟩ ⟨Nat.zero_le _, Nat.zero_le _⟩ rfl (sub_P hP [] rfl) rfl (Nat.le_of_ble_eq_true rfl) dX10_write_5 ?_
  refine lv_if_ne (tgt := 13) hx hb dX10_write_8 (by decide) (fun c8 => ?_) (fun c8 => ?_)
  · have c8 := zb_n0.mp c8
    refine lv_aload_n hx hb dX10_write_13 rfl (lv_at hl 0 rfl) ?_
    refine va_get hx hb hts inlX10 hown hE.1 hP 0 rfl rfl 1 (by decide) (fl_X10_65 hts) (fun _ h9 => h9) rfl dX10_write_14 ?_
    refine lv_sipush (v := 200) hx hb dX10_write_17 (by decide) ?_
    refine lv_icmp_ne (tgt := 26) hx hb dX10_write_20 (by decide) (fun c20 => ?_) (fun c20 => ?_)
    · have c20 : ¬ ty = 200 := fun z => c20 (by rw [z]; rfl)
      refine lv_aload_n hx hb dX10_write_26 rfl (lv_at hl 0 rfl) ?_
      refine va_get hx hb hts inlX10 hown hE.1 hP 0 rfl rfl 0 (by decide) (fl_X10_7 hts) (fun _ h9 => h9) rfl dX10_write_27 ?_
      refine lv_aload_n hx hb dX10_write_30 rfl (lv_at hl 0 rfl) ?_
      refine va_get hx hb hts inlX10 hown hE.1 hP 0 rfl rfl 1 (by decide) (fl_X10_65 hts) (fun _ h9 => h9) rfl dX10_write_31 ?_
      refine lv_iload_n hx hb dX10_write_34 rfl (lv_at hl 1 rfl) ?_
      refine lv_i2b hx hb dX10_write_35 rfl ?_
      refine va_bast hx hb hE.1 hP hD hS 1 2 rfl rfl (vp_in_nI (by omega) (by omega)) dX10_write_36 (fun H locs hP hD hS => ?_)
      rw [nI_clamp (show ty < 2 ^ 31 by omega)] at hP hD
      have hP : va_P G.1 vwCl [(q0, .inr (10, [.ref q1, .int (nI ty), .ref q2, .ref q3, .ref q4, .ref q5, .ref q6, .ref q7, .ref q8, .int (nI dm), .int (nI at_), .int (zb so), .ref q9, .int (nI de), .int (nI ke), .ref q10, .ref q11, .ref q12, .int (nI sm), .ref q13, .ref q14])), (q1, .inl (kB G, 200, .inl (upd tx ty (vp_nar .byte x.toInt8.toInt32)))), (q2, .inl (kI G, 2, .inl ro)), (q3, .inl (kI G, 2, .inl co)), (q4, .inl (kI G, 2, .inl mp)), (q5, .inl (kI G, 10, .inl my)), (q6, .inl (kI G, 10, .inl md)), (q7, .inl (kI G, 10, .inl mr)), (q8, .inl (kI G, 40, .inl dr)), (q9, .inl (kI G, 504, .inl nw)), (q10, .inl (kI G, 64, .inl tk)), (q11, .inl (kI G, 64, .inl cs)), (q12, .inl (kI G, 12, .inl sa)), (q13, .inl (kI G, 8, .inl go)), (q14, .inl (kI G, 2048, .inl to))] H := hP
      have hD : va_D A [(q0, .inr (10, [.ref q1, .int (nI ty), .ref q2, .ref q3, .ref q4, .ref q5, .ref q6, .ref q7, .ref q8, .int (nI dm), .int (nI at_), .int (zb so), .ref q9, .int (nI de), .int (nI ke), .ref q10, .ref q11, .ref q12, .int (nI sm), .ref q13, .ref q14])), (q1, .inl (kB G, 200, .inl (upd tx ty (vp_nar .byte x.toInt8.toInt32)))), (q2, .inl (kI G, 2, .inl ro)), (q3, .inl (kI G, 2, .inl co)), (q4, .inl (kI G, 2, .inl mp)), (q5, .inl (kI G, 10, .inl my)), (q6, .inl (kI G, 10, .inl md)), (q7, .inl (kI G, 10, .inl mr)), (q8, .inl (kI G, 40, .inl dr)), (q9, .inl (kI G, 504, .inl nw)), (q10, .inl (kI G, 64, .inl tk)), (q11, .inl (kI G, 64, .inl cs)), (q12, .inl (kI G, 12, .inl sa)), (q13, .inl (kI G, 8, .inl go)), (q14, .inl (kI G, 2048, .inl to))] := hD
      refine lv_aload_n hx hb dX10_write_37 rfl (lv_at hl 0 rfl) ?_
      refine lv_dup hx hb dX10_write_38 rfl ?_
      refine va_get hx hb hts inlX10 hown hE.1 hP 0 rfl rfl 1 (by decide) (fl_X10_65 hts) (fun _ h9 => h9) rfl dX10_write_39 ?_
      refine lv_iconst (v := 1) hx hb dX10_write_42 (by decide) ?_
      refine lv_iadd hx hb dX10_write_43 ?_
      rw [show (nI ty) + (1 : Int32) = nI (ty + 1) from nI_add ty 1]
      refine va_put (v := .int (nI (ty + 1))) (ty := .int) hx hb hts inlX10 tyX10 tyX10_ok nmX10 hown hE.1 hP hD hS 0 rfl rfl 1 (by decide) (fl_X10_65 hts) (fun _ h9 => h9) rfl (by decide +kernel) rfl rfl (Nat.le_of_ble_eq_true rfl) dX10_write_44 (fun H locs hP hD hS => ?_)
      have hP : va_P G.1 vwCl [(q0, .inr (10, [.ref q1, .int (nI (ty + 1)), .ref q2, .ref q3, .ref q4, .ref q5, .ref q6, .ref q7, .ref q8, .int (nI dm), .int (nI at_), .int (zb so), .ref q9, .int (nI de), .int (nI ke), .ref q10, .ref q11, .ref q12, .int (nI sm), .ref q13, .ref q14])), (q1, .inl (kB G, 200, .inl (upd tx ty (vp_nar .byte x.toInt8.toInt32)))), (q2, .inl (kI G, 2, .inl ro)), (q3, .inl (kI G, 2, .inl co)), (q4, .inl (kI G, 2, .inl mp)), (q5, .inl (kI G, 10, .inl my)), (q6, .inl (kI G, 10, .inl md)), (q7, .inl (kI G, 10, .inl mr)), (q8, .inl (kI G, 40, .inl dr)), (q9, .inl (kI G, 504, .inl nw)), (q10, .inl (kI G, 64, .inl tk)), (q11, .inl (kI G, 64, .inl cs)), (q12, .inl (kI G, 12, .inl sa)), (q13, .inl (kI G, 8, .inl go)), (q14, .inl (kI G, 2048, .inl to))] H := hP
      have hD : va_D A [(q0, .inr (10, [.ref q1, .int (nI (ty + 1)), .ref q2, .ref q3, .ref q4, .ref q5, .ref q6, .ref q7, .ref q8, .int (nI dm), .int (nI at_), .int (zb so), .ref q9, .int (nI de), .int (nI ke), .ref q10, .ref q11, .ref q12, .int (nI sm), .ref q13, .ref q14])), (q1, .inl (kB G, 200, .inl (upd tx ty (vp_nar .byte x.toInt8.toInt32)))), (q2, .inl (kI G, 2, .inl ro)), (q3, .inl (kI G, 2, .inl co)), (q4, .inl (kI G, 2, .inl mp)), (q5, .inl (kI G, 10, .inl my)), (q6, .inl (kI G, 10, .inl md)), (q7, .inl (kI G, 10, .inl mr)), (q8, .inl (kI G, 40, .inl dr)), (q9, .inl (kI G, 504, .inl nw)), (q10, .inl (kI G, 64, .inl tk)), (q11, .inl (kI G, 64, .inl cs)), (q12, .inl (kI G, 12, .inl sa)), (q13, .inl (kI G, 8, .inl go)), (q14, .inl (kI G, 2048, .inl to))] := hD
      refine lv_aload_n hx hb dX10_write_47 rfl (lv_at hl 0 rfl) ?_
      refine va_get hx hb hts inlX10 hown hE.1 hP 0 rfl rfl 1 (by decide) (fl_X10_65 hts) (fun _ h9 => h9) rfl dX10_write_48 ?_
      exact ct_iret hx hb hr hlk dX10_write_51 hP hD hS (by simp [one, byt, c8, c20])
    · have c20 : ty = 200 := (nI_eq (a := ty) (b := 200) (by omega) (by decide)).mp c20
      refine lv_bipush (v := -3) hx hb dX10_write_23 (by decide) ?_
      exact ct_iret hx hb hr hlk dX10_write_25 hP hD hS (by simp [one, byt, c8, c20])
  · have c8 := zb_0.mp c8
    refine lv_iconst (v := -1) hx hb dX10_write_11 (by decide) ?_
    exact ct_iret hx hb hr hlk dX10_write_12 hP hD hS (by simp [one, byt, c8])

set_option maxHeartbeats 4000000 in
set_option maxRecDepth 100000 in
theorem c_X10_wipe (l : Launch) (G : Gv) (q0 : Nat) (q1 : Nat) (q2 : Nat) (q3 : Nat) (q4 : Nat) (q5 : Nat) (q6 : Nat) (q7 : Nat) (q8 : Nat) (q9 : Nat) (q10 : Nat) (q11 : Nat) (q12 : Nat) (q13 : Nat) (q14 : Nat) (tx : Nat → Int32) (ro : Nat → Int32) (co : Nat → Int32) (mp : Nat → Int32) (my : Nat → Int32) (md : Nat → Int32) (mr : Nat → Int32) (dr : Nat → Int32) (nw : Nat → Int32) (tk : Nat → Int32) (cs : Nat → Int32) (sa : Nat → Int32) (go : Nat → Int32) (to : Nat → Int32) (ty : Nat) (dm : Nat) (at_ : Nat) (so : Bool) (de : Nat) (ke : Nat) (sm : Nat)  : Ct l yX10_wipe cX10_wipe 2 (some .int) (rmz 0 0) G [.ref q0] [(q0, .inr (10, [.ref q1, .int (nI ty), .ref q2, .ref q3, .ref q4, .ref q5, .ref q6, .ref q7, .ref q8, .int (nI dm), .int (nI at_), .int (zb so), .ref q9, .int (nI de), .int (nI ke), .ref q10, .ref q11, .ref q12, .int (nI sm), .ref q13, .ref q14])), (q1, .inl (kB G, 200, .inl tx)), (q2, .inl (kI G, 2, .inl ro)), (q3, .inl (kI G, 2, .inl co)), (q4, .inl (kI G, 2, .inl mp)), (q5, .inl (kI G, 10, .inl my)), (q6, .inl (kI G, 10, .inl md)), (q7, .inl (kI G, 10, .inl mr)), (q8, .inl (kI G, 40, .inl dr)), (q9, .inl (kI G, 504, .inl nw)), (q10, .inl (kI G, 64, .inl tk)), (q11, .inl (kI G, 64, .inl cs)), (q12, .inl (kI G, 12, .inl sa)), (q13, .inl (kI G, 8, .inl go)), (q14, .inl (kI G, 2048, .inl to))] (one (some (.int (nI ty))) [(q0, .inr (10, [.ref q1, .int 0, .ref q2, .ref q3, .ref q4, .ref q5, .ref q6, .ref q7, .ref q8, .int (nI dm), .int (nI at_), .int (zb so), .ref q9, .int (nI de), .int (nI ke), .ref q10, .ref q11, .ref q12, .int (nI sm), .ref q13, .ref q14])), (q1, .inl (kB G, 200, .inl tx)), (q2, .inl (kI G, 2, .inl ro)), (q3, .inl (kI G, 2, .inl co)), (q4, .inl (kI G, 2, .inl mp)), (q5, .inl (kI G, 10, .inl my)), (q6, .inl (kI G, 10, .inl md)), (q7, .inl (kI G, 10, .inl mr)), (q8, .inl (kI G, 40, .inl dr)), (q9, .inl (kI G, 504, .inl nw)), (q10, .inl (kI G, 64, .inl tk)), (q11, .inl (kI G, 64, .inl cs)), (q12, .inl (kI G, 12, .inl sa)), (q13, .inl (kI G, 8, .inl go)), (q14, .inl (kI G, 2048, .inl to))]) := by
  refine Ct.ofW (by decide) (Nat.le_of_ble_eq_true rfl) ?_
  intro p e s m below meth c ls A hx hb hml hr hown hts hlk hnm hP hD hA hE hS hl
  obtain ⟨H, eH⟩ : ∃ H : Heap, H = s.heap := ⟨_, rfl⟩
  obtain ⟨locs, eL⟩ : ∃ ll : List Loc, ll = [] := ⟨_, rfl⟩
  rw [← eH] at hP
  have hS : va_S A s.heap H locs := by rw [eH, eL]; exact hS
  show WC p l e _ s m _ below meth c G A _ s.heap [] 0 0 _
  rw [← eH, ← eL]
  clear eH eL
  have hl : lv_has ls 2 [(0, .ref q0)] := hl
  refine lv_aload_n hx hb dX10_wipe_0 rfl (lv_at hl 0 rfl) ?_
  refine va_get hx hb hts inlX10 hown hE.1 hP 0 rfl rfl 1 (by decide) (fl_X10_65 hts) (fun _ h9 => h9) rfl dX10_wipe_1 ?_
  refine lv_istore_n (lv' := [(1, .int (nI ty)), (0, .ref q0)]) hx hb dX10_wipe_4 rfl hl (by decide) rfl (fun ls hl => ?_)
  refine lv_aload_n hx hb dX10_wipe_5 rfl (lv_at hl 1 rfl) ?_
  refine lv_iconst (v := 0) hx hb dX10_wipe_6 (by decide) ?_
  refine va_put (v := .int 0) (ty := .int) hx hb hts inlX10 tyX10 tyX10_ok nmX10 hown hE.1 hP hD hS 0 rfl rfl 1 (by decide) (fl_X10_65 hts) (fun _ h9 => h9) rfl (by decide +kernel) rfl rfl (Nat.le_of_ble_eq_true rfl) dX10_wipe_7 (fun H locs hP hD hS => ?_)
  have hP : va_P G.1 vwCl [(q0, .inr (10, [.ref q1, .int 0, .ref q2, .ref q3, .ref q4, .ref q5, .ref q6, .ref q7, .ref q8, .int (nI dm), .int (nI at_), .int (zb so), .ref q9, .int (nI de), .int (nI ke), .ref q10, .ref q11, .ref q12, .int (nI sm), .ref q13, .ref q14])), (q1, .inl (kB G, 200, .inl tx)), (q2, .inl (kI G, 2, .inl ro)), (q3, .inl (kI G, 2, .inl co)), (q4, .inl (kI G, 2, .inl mp)), (q5, .inl (kI G, 10, .inl my)), (q6, .inl (kI G, 10, .inl md)), (q7, .inl (kI G, 10, .inl mr)), (q8, .inl (kI G, 40, .inl dr)), (q9, .inl (kI G, 504, .inl nw)), (q10, .inl (kI G, 64, .inl tk)), (q11, .inl (kI G, 64, .inl cs)), (q12, .inl (kI G, 12, .inl sa)), (q13, .inl (kI G, 8, .inl go)), (q14, .inl (kI G, 2048, .inl to))] H := hP
  have hD : va_D A [(q0, .inr (10, [.ref q1, .int 0, .ref q2, .ref q3, .ref q4, .ref q5, .ref q6, .ref q7, .ref q8, .int (nI dm), .int (nI at_), .int (zb so), .ref q9, .int (nI de), .int (nI ke), .ref q10, .ref q11, .ref q12, .int (nI sm), .ref q13, .ref q14])), (q1, .inl (kB G, 200, .inl tx)), (q2, .inl (kI G, 2, .inl ro)), (q3, .inl (kI G, 2, .inl co)), (q4, .inl (kI G, 2, .inl mp)), (q5, .inl (kI G, 10, .inl my)), (q6, .inl (kI G, 10, .inl md)), (q7, .inl (kI G, 10, .inl mr)), (q8, .inl (kI G, 40, .inl dr)), (q9, .inl (kI G, 504, .inl nw)), (q10, .inl (kI G, 64, .inl tk)), (q11, .inl (kI G, 64, .inl cs)), (q12, .inl (kI G, 12, .inl sa)), (q13, .inl (kI G, 8, .inl go)), (q14, .inl (kI G, 2048, .inl to))] := hD
  refine lv_iload_n hx hb dX10_wipe_10 rfl (lv_at hl 0 rfl) ?_
  exact ct_iret hx hb hr hlk dX10_wipe_11 hP hD hS (by first | exact ⟨rfl, rfl⟩ | (simp [one]; done))

set_option maxHeartbeats 4000000 in
set_option maxRecDepth 100000 in
theorem c_X10_here (l : Launch) (G : Gv) (q0 : Nat) (q1 : Nat) (q2 : Nat) (q3 : Nat) (q4 : Nat) (q5 : Nat) (q6 : Nat) (q7 : Nat) (q8 : Nat) (q9 : Nat) (q10 : Nat) (q11 : Nat) (q12 : Nat) (q13 : Nat) (q14 : Nat) (tx : Nat → Int32) (ro : Nat → Int32) (co : Nat → Int32) (mp : Nat → Int32) (my : Nat → Int32) (md : Nat → Int32) (mr : Nat → Int32) (dr : Nat → Int32) (nw : Nat → Int32) (tk : Nat → Int32) (cs : Nat → Int32) (sa : Nat → Int32) (go : Nat → Int32) (to : Nat → Int32) (ty : Nat) (dm : Nat) (at_ : Nat) (so : Bool) (de : Nat) (ke : Nat) (sm : Nat) (hty : ty ≤ 200) (hat : at_ ≤ 100000) : Rd l yX10_here cX10_here 1 (some .int) (rmz 0 0) G [.ref q0] [(q0, .inr (10, [.ref q1, .int (nI ty), .ref q2, .ref q3, .ref q4, .ref q5, .ref q6, .ref q7, .ref q8, .int (nI dm), .int (nI at_), .int (zb so), .ref q9, .int (nI de), .int (nI ke), .ref q10, .ref q11, .ref q12, .int (nI sm), .ref q13, .ref q14])), (q1, .inl (kB G, 200, .inl tx)), (q2, .inl (kI G, 2, .inl ro)), (q3, .inl (kI G, 2, .inl co)), (q4, .inl (kI G, 2, .inl mp)), (q5, .inl (kI G, 10, .inl my)), (q6, .inl (kI G, 10, .inl md)), (q7, .inl (kI G, 10, .inl mr)), (q8, .inl (kI G, 40, .inl dr)), (q9, .inl (kI G, 504, .inl nw)), (q10, .inl (kI G, 64, .inl tk)), (q11, .inl (kI G, 64, .inl cs)), (q12, .inl (kI G, 12, .inl sa)), (q13, .inl (kI G, 8, .inl go)), (q14, .inl (kI G, 2048, .inl to))] (.int (hre tx ty at_)) := by
  refine Rd.ofW (by decide) (Nat.le_of_ble_eq_true rfl) ?_
  intro p e s m below meth c ls hx hb hml hr hown hts hlk hP hE hl
  have hl : lv_has ls 1 [(0, .ref q0)] := hl
  refine lv_aload_n hx hb dX10_here_0 rfl (lv_at hl 0 rfl) ?_
  refine va_get hx hb hts inlX10 hown hE.1 hP 0 rfl rfl 10 (by decide) (fl_X10_69 hts) (fun _ h9 => h9) rfl dX10_here_1 ?_
  refine lv_aload_n hx hb dX10_here_4 rfl (lv_at hl 0 rfl) ?_
  refine va_get hx hb hts inlX10 hown hE.1 hP 0 rfl rfl 1 (by decide) (fl_X10_65 hts) (fun _ h9 => h9) rfl dX10_here_5 ?_
  refine lv_icmp_ge (tgt := 23) hx hb dX10_here_8 (by decide) (fun c8 => ?_) (fun c8 => ?_)
  · have c8 : ¬ at_ < ty := by have := le_of_le (n := ty) (k := at_) (by omega) (by omega) c8; omega
    refine lv_iconst (v := -1) hx hb dX10_here_23 (by decide) ?_
    exact rd_iret hx hb hr hlk dX10_here_24 (by first | rfl | (simp [zb, c8, hre]; done))
  · have c8 : at_ < ty := lt_of_nle (by omega) (by omega) c8
    refine lv_aload_n hx hb dX10_here_11 rfl (lv_at hl 0 rfl) ?_
    refine va_get hx hb hts inlX10 hown hE.1 hP 0 rfl rfl 0 (by decide) (fl_X10_7 hts) (fun _ h9 => h9) rfl dX10_here_12 ?_
    refine lv_aload_n hx hb dX10_here_15 rfl (lv_at hl 0 rfl) ?_
    refine va_get hx hb hts inlX10 hown hE.1 hP 0 rfl rfl 10 (by decide) (fl_X10_69 hts) (fun _ h9 => h9) rfl dX10_here_16 ?_
    refine va_bald hx hb hE.1 hP 1 2 rfl rfl (vp_in_nI (by omega) (by omega)) dX10_here_19 ?_
    rw [nI_clamp (show at_ < 2 ^ 31 by omega)]
    refine lv_goto (tgt := 24) hx hb dX10_here_20 (by decide) ?_
    exact rd_iret hx hb hr hlk dX10_here_24 (by first | rfl | (simp [zb, c8, hre]; done))

set_option maxHeartbeats 4000000 in
set_option maxRecDepth 100000 in
theorem c_X10_cells (l : Launch) (G : Gv) (q0 : Nat) (q1 : Nat) (q2 : Nat) (q3 : Nat) (q4 : Nat) (q5 : Nat) (q6 : Nat) (q7 : Nat) (q8 : Nat) (q9 : Nat) (q10 : Nat) (q11 : Nat) (q12 : Nat) (q13 : Nat) (q14 : Nat) (tx : Nat → Int32) (ro : Nat → Int32) (co : Nat → Int32) (mp : Nat → Int32) (my : Nat → Int32) (md : Nat → Int32) (mr : Nat → Int32) (dr : Nat → Int32) (nw : Nat → Int32) (tk : Nat → Int32) (cs : Nat → Int32) (sa : Nat → Int32) (go : Nat → Int32) (to : Nat → Int32) (ty : Nat) (dm : Nat) (at_ : Nat) (so : Bool) (de : Nat) (ke : Nat) (sm : Nat) (nr : Nat) (nc : Nat) (hro : ro 0 = nI nr) (hco : co 0 = nI nc) (hg1 : 2 ≤ nr ∧ nr ≤ 8) (hg2 : 2 ≤ nc ∧ nc ≤ 8) : Rd l yX10_cells cX10_cells 2 (some .int) (rmz 0 0) G [.ref q0, .int 0] [(q0, .inr (10, [.ref q1, .int (nI ty), .ref q2, .ref q3, .ref q4, .ref q5, .ref q6, .ref q7, .ref q8, .int (nI dm), .int (nI at_), .int (zb so), .ref q9, .int (nI de), .int (nI ke), .ref q10, .ref q11, .ref q12, .int (nI sm), .ref q13, .ref q14])), (q1, .inl (kB G, 200, .inl tx)), (q2, .inl (kI G, 2, .inl ro)), (q3, .inl (kI G, 2, .inl co)), (q4, .inl (kI G, 2, .inl mp)), (q5, .inl (kI G, 10, .inl my)), (q6, .inl (kI G, 10, .inl md)), (q7, .inl (kI G, 10, .inl mr)), (q8, .inl (kI G, 40, .inl dr)), (q9, .inl (kI G, 504, .inl nw)), (q10, .inl (kI G, 64, .inl tk)), (q11, .inl (kI G, 64, .inl cs)), (q12, .inl (kI G, 12, .inl sa)), (q13, .inl (kI G, 8, .inl go)), (q14, .inl (kI G, 2048, .inl to))] (.int (nI (nr * nc))) := by
  refine Rd.ofW (by decide) (Nat.le_of_ble_eq_true rfl) ?_
  intro p e s m below meth c ls hx hb hml hr hown hts hlk hP hE hl
  have hl : lv_has ls 2 [(0, .ref q0), (1, .int 0)] := hl
  refine lv_aload_n hx hb dX10_cells_0 rfl (lv_at hl 0 rfl) ?_
  refine va_get hx hb hts inlX10 hown hE.1 hP 0 rfl rfl 2 (by decide) (fl_X10_13 hts) (fun _ h9 => h9) rfl dX10_cells_1 ?_
  refine lv_iload_n hx hb dX10_cells_4 rfl (lv_at hl 1 rfl) ?_
  refine va_iald hx hb hE.1 hP 2 0 rfl rfl (inB_iff.mp (by decide)) dX10_cells_5 ?_
  rw [show (0 : Int32).toNatClampNeg = 0 from rfl]
  rw [hro]
  refine lv_aload_n hx hb dX10_cells_6 rfl (lv_at hl 0 rfl) ?_
  refine va_get hx hb hts inlX10 hown hE.1 hP 0 rfl rfl 3 (by decide) (fl_X10_17 hts) (fun _ h9 => h9) rfl dX10_cells_7 ?_
  refine lv_iload_n hx hb dX10_cells_10 rfl (lv_at hl 1 rfl) ?_
  refine va_iald hx hb hE.1 hP 3 0 rfl rfl (inB_iff.mp (by decide)) dX10_cells_11 ?_
  rw [show (0 : Int32).toNatClampNeg = 0 from rfl]
  rw [hco]
  refine lv_imul hx hb dX10_cells_12 ?_
  rw [show (nI nr) * (nI nc) = nI (nr * nc) from pk_mul nr nc]
  exact rd_iret hx hb hr hlk dX10_cells_13 (by first | rfl | (simp [zb]; done))

set_option maxHeartbeats 4000000 in
set_option maxRecDepth 100000 in
theorem c_X10_isCell (l : Launch) (G : Gv) (q0 : Nat) (q1 : Nat) (q2 : Nat) (q3 : Nat) (q4 : Nat) (q5 : Nat) (q6 : Nat) (q7 : Nat) (q8 : Nat) (q9 : Nat) (q10 : Nat) (q11 : Nat) (q12 : Nat) (q13 : Nat) (q14 : Nat) (tx : Nat → Int32) (ro : Nat → Int32) (co : Nat → Int32) (mp : Nat → Int32) (my : Nat → Int32) (md : Nat → Int32) (mr : Nat → Int32) (dr : Nat → Int32) (nw : Nat → Int32) (tk : Nat → Int32) (cs : Nat → Int32) (sa : Nat → Int32) (go : Nat → Int32) (to : Nat → Int32) (ty : Nat) (dm : Nat) (at_ : Nat) (so : Bool) (de : Nat) (ke : Nat) (sm : Nat) (nr : Nat) (nc : Nat) (x : Int32) (hro : ro 0 = nI nr) (hco : co 0 = nI nc) (hg1 : 2 ≤ nr ∧ nr ≤ 8) (hg2 : 2 ≤ nc ∧ nc ≤ 8) : Rd l yX10_isCell cX10_isCell 2 (some .boolean) (rmz 1 22) G [.ref q0, .int x] [(q0, .inr (10, [.ref q1, .int (nI ty), .ref q2, .ref q3, .ref q4, .ref q5, .ref q6, .ref q7, .ref q8, .int (nI dm), .int (nI at_), .int (zb so), .ref q9, .int (nI de), .int (nI ke), .ref q10, .ref q11, .ref q12, .int (nI sm), .ref q13, .ref q14])), (q1, .inl (kB G, 200, .inl tx)), (q2, .inl (kI G, 2, .inl ro)), (q3, .inl (kI G, 2, .inl co)), (q4, .inl (kI G, 2, .inl mp)), (q5, .inl (kI G, 10, .inl my)), (q6, .inl (kI G, 10, .inl md)), (q7, .inl (kI G, 10, .inl mr)), (q8, .inl (kI G, 40, .inl dr)), (q9, .inl (kI G, 504, .inl nw)), (q10, .inl (kI G, 64, .inl tk)), (q11, .inl (kI G, 64, .inl cs)), (q12, .inl (kI G, 12, .inl sa)), (q13, .inl (kI G, 8, .inl go)), (q14, .inl (kI G, 2048, .inl to))] (.int (zb (inG nr nc x))) := by
  refine Rd.ofW (by decide) (Nat.le_of_ble_eq_true rfl) ?_
  intro p e s m below meth c ls hx hb hml hr hown hts hlk hP hE hl
  have hl : lv_has ls 2 [(0, .ref q0), (1, .int x)] := hl
  have hcl := cells_le hg1 hg2
  refine lv_iload_n hx hb dX10_isCell_0 rfl (lv_at hl 1 rfl) ?_
  refine lv_iconst (v := 0) hx hb dX10_isCell_1 (by decide) ?_
  refine lv_aload_n hx hb dX10_isCell_2 rfl (lv_at hl 0 rfl) ?_
  refine lv_iconst (v := 0) hx hb dX10_isCell_3 (by decide) ?_
  refine rd_callV (As := [.int 0]) (rest := [.int 0, .int x]) hx hb hml hown hts hE hl.1 (c_X10_cells l G q0 q1 q2 q3 q4 q5 q6 q7 q8 q9 q10 q11 q12 q13 q14 tx ro co mp my md mr dr nw tk cs sa go to ty dm at_ so de ke sm nr nc (by first | assumption | omega) (by first | assumption | omega) (by first | assumption | omega) (by first | assumption | omega)) (cw_X10_87 hts) ⟨(Nat.le_of_ble_eq_true rfl), (Nat.le_of_ble_eq_true rfl)⟩ ⟨Nat.zero_le _, Nat.zero_le _⟩ rfl (sub_P hP [0, 1, 2, 3, 4, 5, 6, 7, 8, 9, 10, 11, 12, 13, 14] rfl) rfl rfl rfl rfl (Nat.le_of_ble_eq_true rfl) dX10_isCell_4 ?_
  refine lv_iconst (v := 1) hx hb dX10_isCell_7 (by decide) ?_
  refine lv_isub hx hb dX10_isCell_8 ?_
  refine rd_callS (As := [.int x, .int 0, .int ((nI (nr * nc)) - 1)]) (rest := []) hx hb hml hown hts hE hl.1 (c_X10_in l G x 0 ((nI (nr * nc)) - 1) ) (cs_X10_61 hts) ⟨(Nat.le_of_ble_eq_true rfl), (Nat.le_of_ble_eq_true rfl)⟩ ⟨Nat.zero_le _, Nat.zero_le _⟩ rfl (sub_P hP [] rfl) rfl (Nat.le_of_ble_eq_true rfl) dX10_isCell_9 ?_
  rw [show inn x 0 (nI (nr * nc) - 1) = inG nr nc x from inn_n (by omega) x]
  exact rd_zret hx hb hr hlk dX10_isCell_12 (zb_nar _) (by first | rfl | (simp [zb]; done))

set_option maxHeartbeats 4000000 in
set_option maxRecDepth 100000 in
theorem c_X10_isThing (l : Launch) (G : Gv) (q0 : Nat) (q1 : Nat) (q2 : Nat) (q3 : Nat) (q4 : Nat) (q5 : Nat) (q6 : Nat) (q7 : Nat) (q8 : Nat) (q9 : Nat) (q10 : Nat) (q11 : Nat) (q12 : Nat) (q13 : Nat) (q14 : Nat) (tx : Nat → Int32) (ro : Nat → Int32) (co : Nat → Int32) (mp : Nat → Int32) (my : Nat → Int32) (md : Nat → Int32) (mr : Nat → Int32) (dr : Nat → Int32) (nw : Nat → Int32) (tk : Nat → Int32) (cs : Nat → Int32) (sa : Nat → Int32) (go : Nat → Int32) (to : Nat → Int32) (ty : Nat) (dm : Nat) (at_ : Nat) (so : Bool) (de : Nat) (ke : Nat) (sm : Nat) (n : Nat) (t : Int32) (hn1 : nw 1 = nI n) (hn : n ≤ 10) : Rd l yX10_isThing cX10_isThing 2 (some .boolean) (rmz 1 22) G [.ref q0, .int t] [(q0, .inr (10, [.ref q1, .int (nI ty), .ref q2, .ref q3, .ref q4, .ref q5, .ref q6, .ref q7, .ref q8, .int (nI dm), .int (nI at_), .int (zb so), .ref q9, .int (nI de), .int (nI ke), .ref q10, .ref q11, .ref q12, .int (nI sm), .ref q13, .ref q14])), (q1, .inl (kB G, 200, .inl tx)), (q2, .inl (kI G, 2, .inl ro)), (q3, .inl (kI G, 2, .inl co)), (q4, .inl (kI G, 2, .inl mp)), (q5, .inl (kI G, 10, .inl my)), (q6, .inl (kI G, 10, .inl md)), (q7, .inl (kI G, 10, .inl mr)), (q8, .inl (kI G, 40, .inl dr)), (q9, .inl (kI G, 504, .inl nw)), (q10, .inl (kI G, 64, .inl tk)), (q11, .inl (kI G, 64, .inl cs)), (q12, .inl (kI G, 12, .inl sa)), (q13, .inl (kI G, 8, .inl go)), (q14, .inl (kI G, 2048, .inl to))] (.int (zb (inB t n))) := by
  refine Rd.ofW (by decide) (Nat.le_of_ble_eq_true rfl) ?_
  intro p e s m below meth c ls hx hb hml hr hown hts hlk hP hE hl
  have hl : lv_has ls 2 [(0, .ref q0), (1, .int t)] := hl
  refine lv_iload_n hx hb dX10_isThing_0 rfl (lv_at hl 1 rfl) ?_
  refine lv_iconst (v := 0) hx hb dX10_isThing_1 (by decide) ?_
  refine lv_aload_n hx hb dX10_isThing_2 rfl (lv_at hl 0 rfl) ?_
  refine va_get hx hb hts inlX10 hown hE.1 hP 0 rfl rfl 12 (by decide) (fl_X10_35 hts) (fun _ h9 => h9) rfl dX10_isThing_3 ?_
  refine lv_iconst (v := 1) hx hb dX10_isThing_6 (by decide) ?_
  refine va_iald hx hb hE.1 hP 9 0 rfl rfl (inB_iff.mp (by decide)) dX10_isThing_7 ?_
  rw [show (1 : Int32).toNatClampNeg = 1 from rfl]
  rw [hn1]
  refine lv_iconst (v := 1) hx hb dX10_isThing_8 (by decide) ?_
  refine lv_isub hx hb dX10_isThing_9 ?_
  refine rd_callS (As := [.int t, .int 0, .int ((nI n) - 1)]) (rest := []) hx hb hml hown hts hE hl.1 (c_X10_in l G t 0 ((nI n) - 1) ) (cs_X10_61 hts) ⟨(Nat.le_of_ble_eq_true rfl), (Nat.le_of_ble_eq_true rfl)⟩ ⟨Nat.zero_le _, Nat.zero_le _⟩ rfl (sub_P hP [] rfl) rfl (Nat.le_of_ble_eq_true rfl) dX10_isThing_10 ?_
  rw [inn_n (by omega) t]
  exact rd_zret hx hb hr hlk dX10_isThing_13 (zb_nar _) (by first | rfl | (simp [zb]; done))

set_option maxHeartbeats 4000000 in
set_option maxRecDepth 100000 in
theorem c_X10_isMap (l : Launch) (G : Gv) (q0 : Nat) (q1 : Nat) (q2 : Nat) (q3 : Nat) (q4 : Nat) (q5 : Nat) (q6 : Nat) (q7 : Nat) (q8 : Nat) (q9 : Nat) (q10 : Nat) (q11 : Nat) (q12 : Nat) (q13 : Nat) (q14 : Nat) (tx : Nat → Int32) (ro : Nat → Int32) (co : Nat → Int32) (mp : Nat → Int32) (my : Nat → Int32) (md : Nat → Int32) (mr : Nat → Int32) (dr : Nat → Int32) (nw : Nat → Int32) (tk : Nat → Int32) (cs : Nat → Int32) (sa : Nat → Int32) (go : Nat → Int32) (to : Nat → Int32) (ty : Nat) (dm : Nat) (at_ : Nat) (so : Bool) (de : Nat) (ke : Nat) (sm : Nat) (q : Nat) (t : Int32) (hmp : mp 0 = nI q) (hq : q ≤ 5) : Rd l yX10_isMap cX10_isMap 2 (some .boolean) (rmz 1 22) G [.ref q0, .int t] [(q0, .inr (10, [.ref q1, .int (nI ty), .ref q2, .ref q3, .ref q4, .ref q5, .ref q6, .ref q7, .ref q8, .int (nI dm), .int (nI at_), .int (zb so), .ref q9, .int (nI de), .int (nI ke), .ref q10, .ref q11, .ref q12, .int (nI sm), .ref q13, .ref q14])), (q1, .inl (kB G, 200, .inl tx)), (q2, .inl (kI G, 2, .inl ro)), (q3, .inl (kI G, 2, .inl co)), (q4, .inl (kI G, 2, .inl mp)), (q5, .inl (kI G, 10, .inl my)), (q6, .inl (kI G, 10, .inl md)), (q7, .inl (kI G, 10, .inl mr)), (q8, .inl (kI G, 40, .inl dr)), (q9, .inl (kI G, 504, .inl nw)), (q10, .inl (kI G, 64, .inl tk)), (q11, .inl (kI G, 64, .inl cs)), (q12, .inl (kI G, 12, .inl sa)), (q13, .inl (kI G, 8, .inl go)), (q14, .inl (kI G, 2048, .inl to))] (.int (zb (inB t q))) := by
  refine Rd.ofW (by decide) (Nat.le_of_ble_eq_true rfl) ?_
  intro p e s m below meth c ls hx hb hml hr hown hts hlk hP hE hl
  have hl : lv_has ls 2 [(0, .ref q0), (1, .int t)] := hl
  refine lv_iload_n hx hb dX10_isMap_0 rfl (lv_at hl 1 rfl) ?_
  refine lv_iconst (v := 0) hx hb dX10_isMap_1 (by decide) ?_
  refine lv_aload_n hx hb dX10_isMap_2 rfl (lv_at hl 0 rfl) ?_
  refine va_get hx hb hts inlX10 hown hE.1 hP 0 rfl rfl 4 (by decide) (fl_X10_20 hts) (fun _ h9 => h9) rfl dX10_isMap_3 ?_
  refine lv_iconst (v := 0) hx hb dX10_isMap_6 (by decide) ?_
  refine va_iald hx hb hE.1 hP 4 0 rfl rfl (inB_iff.mp (by decide)) dX10_isMap_7 ?_
  rw [show (0 : Int32).toNatClampNeg = 0 from rfl]
  rw [hmp]
  refine lv_iconst (v := 1) hx hb dX10_isMap_8 (by decide) ?_
  refine lv_isub hx hb dX10_isMap_9 ?_
  refine rd_callS (As := [.int t, .int 0, .int ((nI q) - 1)]) (rest := []) hx hb hml hown hts hE hl.1 (c_X10_in l G t 0 ((nI q) - 1) ) (cs_X10_61 hts) ⟨(Nat.le_of_ble_eq_true rfl), (Nat.le_of_ble_eq_true rfl)⟩ ⟨Nat.zero_le _, Nat.zero_le _⟩ rfl (sub_P hP [] rfl) rfl (Nat.le_of_ble_eq_true rfl) dX10_isMap_10 ?_
  rw [inn_n (by omega) t]
  exact rd_zret hx hb hr hlk dX10_isMap_13 (zb_nar _) (by first | rfl | (simp [zb]; done))

set_option maxHeartbeats 4000000 in
set_option maxRecDepth 100000 in
theorem c_X10_stands (l : Launch) (G : Gv) (q0 : Nat) (q1 : Nat) (q2 : Nat) (q3 : Nat) (q4 : Nat) (q5 : Nat) (q6 : Nat) (q7 : Nat) (q8 : Nat) (q9 : Nat) (q10 : Nat) (q11 : Nat) (q12 : Nat) (q13 : Nat) (q14 : Nat) (tx : Nat → Int32) (ro : Nat → Int32) (co : Nat → Int32) (mp : Nat → Int32) (my : Nat → Int32) (md : Nat → Int32) (mr : Nat → Int32) (dr : Nat → Int32) (nw : Nat → Int32) (tk : Nat → Int32) (cs : Nat → Int32) (sa : Nat → Int32) (go : Nat → Int32) (to : Nat → Int32) (ty : Nat) (dm : Nat) (at_ : Nat) (so : Bool) (de : Nat) (ke : Nat) (sm : Nat) (ba : Nat) (k : Nat) (w : Int32) (hba : ba ≤ 462) (hk10 : k < 10) : Rd l yX10_stands cX10_stands 4 (some .boolean) (rmz 0 0) G [.ref q0, .int (nI ba), .int (nI k), .int w] [(q0, .inr (10, [.ref q1, .int (nI ty), .ref q2, .ref q3, .ref q4, .ref q5, .ref q6, .ref q7, .ref q8, .int (nI dm), .int (nI at_), .int (zb so), .ref q9, .int (nI de), .int (nI ke), .ref q10, .ref q11, .ref q12, .int (nI sm), .ref q13, .ref q14])), (q1, .inl (kB G, 200, .inl tx)), (q2, .inl (kI G, 2, .inl ro)), (q3, .inl (kI G, 2, .inl co)), (q4, .inl (kI G, 2, .inl mp)), (q5, .inl (kI G, 10, .inl my)), (q6, .inl (kI G, 10, .inl md)), (q7, .inl (kI G, 10, .inl mr)), (q8, .inl (kI G, 40, .inl dr)), (q9, .inl (kI G, 504, .inl nw)), (q10, .inl (kI G, 64, .inl tk)), (q11, .inl (kI G, 64, .inl cs)), (q12, .inl (kI G, 12, .inl sa)), (q13, .inl (kI G, 8, .inl go)), (q14, .inl (kI G, 2048, .inl to))] (.int (zb (stB (sta nw ba) (fal nw ba) w k))) := by
  refine Rd.ofW (by decide) (Nat.le_of_ble_eq_true rfl) ?_
  intro p e s m below meth c ls hx hb hml hr hown hts hlk hP hE hl
  have hl : lv_has ls 4 [(0, .ref q0), (1, .int (nI ba)), (2, .int (nI k)), (3, .int w)] := hl
  refine lv_aload_n hx hb dX10_stands_0 rfl (lv_at hl 0 rfl) ?_
  refine va_get hx hb hts inlX10 hown hE.1 hP 0 rfl rfl 12 (by decide) (fl_X10_35 hts) (fun _ h9 => h9) rfl dX10_stands_1 ?_
  refine lv_iload_n hx hb dX10_stands_4 rfl (lv_at hl 1 rfl) ?_
  refine lv_bipush (v := 12) hx hb dX10_stands_5 (by decide) ?_
  refine lv_iadd hx hb dX10_stands_7 ?_
  rw [show (nI ba) + (12 : Int32) = nI (ba + 12) from nI_add ba 12]
  refine lv_iload_n hx hb dX10_stands_8 rfl (lv_at hl 2 rfl) ?_
  refine lv_iadd hx hb dX10_stands_9 ?_
  rw [show (nI (ba + 12)) + (nI k) = nI (ba + 12 + k) from nI_add (ba + 12) k]
  refine va_iald hx hb hE.1 hP 9 0 rfl rfl (vp_in_nI (by omega) (by omega)) dX10_stands_10 ?_
  rw [nI_clamp (show ba + 12 + k < 2 ^ 31 by omega)]
  refine lv_iload_n hx hb dX10_stands_11 rfl (lv_at hl 3 rfl) ?_
  refine lv_icmp_gt (tgt := 34) hx hb dX10_stands_12 (by decide) (fun c12 => ?_) (fun c12 => ?_)
  · refine lv_iconst (v := 0) hx hb dX10_stands_34 (by decide) ?_
    exact rd_zret hx hb hr hlk dX10_stands_35 rfl (by first | rfl | (simp [zb, c12, stB, sta, fal]; done))
  · refine lv_iload_n hx hb dX10_stands_15 rfl (lv_at hl 3 rfl) ?_
    refine lv_aload_n hx hb dX10_stands_16 rfl (lv_at hl 0 rfl) ?_
    refine va_get hx hb hts inlX10 hown hE.1 hP 0 rfl rfl 12 (by decide) (fl_X10_35 hts) (fun _ h9 => h9) rfl dX10_stands_17 ?_
    refine lv_iload_n hx hb dX10_stands_20 rfl (lv_at hl 1 rfl) ?_
    refine lv_bipush (v := 22) hx hb dX10_stands_21 (by decide) ?_
    refine lv_iadd hx hb dX10_stands_23 ?_
    rw [show (nI ba) + (22 : Int32) = nI (ba + 22) from nI_add ba 22]
    refine lv_iload_n hx hb dX10_stands_24 rfl (lv_at hl 2 rfl) ?_
    refine lv_iadd hx hb dX10_stands_25 ?_
    rw [show (nI (ba + 22)) + (nI k) = nI (ba + 22 + k) from nI_add (ba + 22) k]
    refine va_iald hx hb hE.1 hP 9 0 rfl rfl (vp_in_nI (by omega) (by omega)) dX10_stands_26 ?_
    rw [nI_clamp (show ba + 22 + k < 2 ^ 31 by omega)]
    refine lv_icmp_ge (tgt := 34) hx hb dX10_stands_27 (by decide) (fun c27 => ?_) (fun c27 => ?_)
    · refine lv_iconst (v := 0) hx hb dX10_stands_34 (by decide) ?_
      exact rd_zret hx hb hr hlk dX10_stands_35 rfl (by first | rfl | (simp [zb, c12, c27, stB, sta, fal]; done))
    · refine lv_iconst (v := 1) hx hb dX10_stands_30 (by decide) ?_
      refine lv_goto (tgt := 35) hx hb dX10_stands_31 (by decide) ?_
      exact rd_zret hx hb hr hlk dX10_stands_35 rfl (by first | rfl | (simp [zb, c12, c27, stB, sta, fal]; done))

set_option maxHeartbeats 4000000 in
set_option maxRecDepth 100000 in
theorem c_X10_isLost (l : Launch) (G : Gv) (q0 : Nat) (q1 : Nat) (q2 : Nat) (q3 : Nat) (q4 : Nat) (q5 : Nat) (q6 : Nat) (q7 : Nat) (q8 : Nat) (q9 : Nat) (q10 : Nat) (q11 : Nat) (q12 : Nat) (q13 : Nat) (q14 : Nat) (tx : Nat → Int32) (ro : Nat → Int32) (co : Nat → Int32) (mp : Nat → Int32) (my : Nat → Int32) (md : Nat → Int32) (mr : Nat → Int32) (dr : Nat → Int32) (nw : Nat → Int32) (tk : Nat → Int32) (cs : Nat → Int32) (sa : Nat → Int32) (go : Nat → Int32) (to : Nat → Int32) (ty : Nat) (dm : Nat) (at_ : Nat) (so : Bool) (de : Nat) (ke : Nat) (sm : Nat) (ba : Nat) (k : Nat) (w : Int32) (hba : ba ≤ 462) (hk10 : k < 10) : Rd l yX10_isLost cX10_isLost 4 (some .boolean) (rmz 0 0) G [.ref q0, .int (nI ba), .int (nI k), .int w] [(q0, .inr (10, [.ref q1, .int (nI ty), .ref q2, .ref q3, .ref q4, .ref q5, .ref q6, .ref q7, .ref q8, .int (nI dm), .int (nI at_), .int (zb so), .ref q9, .int (nI de), .int (nI ke), .ref q10, .ref q11, .ref q12, .int (nI sm), .ref q13, .ref q14])), (q1, .inl (kB G, 200, .inl tx)), (q2, .inl (kI G, 2, .inl ro)), (q3, .inl (kI G, 2, .inl co)), (q4, .inl (kI G, 2, .inl mp)), (q5, .inl (kI G, 10, .inl my)), (q6, .inl (kI G, 10, .inl md)), (q7, .inl (kI G, 10, .inl mr)), (q8, .inl (kI G, 40, .inl dr)), (q9, .inl (kI G, 504, .inl nw)), (q10, .inl (kI G, 64, .inl tk)), (q11, .inl (kI G, 64, .inl cs)), (q12, .inl (kI G, 12, .inl sa)), (q13, .inl (kI G, 8, .inl go)), (q14, .inl (kI G, 2048, .inl to))] (.int (zb (loB (fal nw ba) w k))) := by
  refine Rd.ofW (by decide) (Nat.le_of_ble_eq_true rfl) ?_
  intro p e s m below meth c ls hx hb hml hr hown hts hlk hP hE hl
  have hl : lv_has ls 4 [(0, .ref q0), (1, .int (nI ba)), (2, .int (nI k)), (3, .int w)] := hl
  refine lv_aload_n hx hb dX10_isLost_0 rfl (lv_at hl 0 rfl) ?_
  refine va_get hx hb hts inlX10 hown hE.1 hP 0 rfl rfl 12 (by decide) (fl_X10_35 hts) (fun _ h9 => h9) rfl dX10_isLost_1 ?_
  refine lv_iload_n hx hb dX10_isLost_4 rfl (lv_at hl 1 rfl) ?_
  refine lv_bipush (v := 22) hx hb dX10_isLost_5 (by decide) ?_
  refine lv_iadd hx hb dX10_isLost_7 ?_
  rw [show (nI ba) + (22 : Int32) = nI (ba + 22) from nI_add ba 22]
  refine lv_iload_n hx hb dX10_isLost_8 rfl (lv_at hl 2 rfl) ?_
  refine lv_iadd hx hb dX10_isLost_9 ?_
  rw [show (nI (ba + 22)) + (nI k) = nI (ba + 22 + k) from nI_add (ba + 22) k]
  refine va_iald hx hb hE.1 hP 9 0 rfl rfl (vp_in_nI (by omega) (by omega)) dX10_isLost_10 ?_
  rw [nI_clamp (show ba + 22 + k < 2 ^ 31 by omega)]
  refine lv_iload_n hx hb dX10_isLost_11 rfl (lv_at hl 3 rfl) ?_
  refine lv_icmp_gt (tgt := 19) hx hb dX10_isLost_12 (by decide) (fun c12 => ?_) (fun c12 => ?_)
  · refine lv_iconst (v := 0) hx hb dX10_isLost_19 (by decide) ?_
    exact rd_zret hx hb hr hlk dX10_isLost_20 rfl (by first | rfl | (simp [zb, c12, loB, fal]; done))
  · refine lv_iconst (v := 1) hx hb dX10_isLost_15 (by decide) ?_
    refine lv_goto (tgt := 20) hx hb dX10_isLost_16 (by decide) ?_
    exact rd_zret hx hb hr hlk dX10_isLost_20 rfl (by first | rfl | (simp [zb, c12, loB, fal]; done))

set_option maxHeartbeats 4000000 in
set_option maxRecDepth 100000 in
theorem c_X10_canBurn (l : Launch) (G : Gv) (q0 : Nat) (q1 : Nat) (q2 : Nat) (q3 : Nat) (q4 : Nat) (q5 : Nat) (q6 : Nat) (q7 : Nat) (q8 : Nat) (q9 : Nat) (q10 : Nat) (q11 : Nat) (q12 : Nat) (q13 : Nat) (q14 : Nat) (tx : Nat → Int32) (ro : Nat → Int32) (co : Nat → Int32) (mp : Nat → Int32) (my : Nat → Int32) (md : Nat → Int32) (mr : Nat → Int32) (dr : Nat → Int32) (nw : Nat → Int32) (tk : Nat → Int32) (cs : Nat → Int32) (sa : Nat → Int32) (go : Nat → Int32) (to : Nat → Int32) (ty : Nat) (dm : Nat) (at_ : Nat) (so : Bool) (de : Nat) (ke : Nat) (sm : Nat) (ba : Nat) (k : Nat) (hba : ba ≤ 462) (hk10 : k < 10) : Rd l yX10_canBurn cX10_canBurn 3 (some .boolean) (rmz 1 23) G [.ref q0, .int (nI ba), .int (nI k)] [(q0, .inr (10, [.ref q1, .int (nI ty), .ref q2, .ref q3, .ref q4, .ref q5, .ref q6, .ref q7, .ref q8, .int (nI dm), .int (nI at_), .int (zb so), .ref q9, .int (nI de), .int (nI ke), .ref q10, .ref q11, .ref q12, .int (nI sm), .ref q13, .ref q14])), (q1, .inl (kB G, 200, .inl tx)), (q2, .inl (kI G, 2, .inl ro)), (q3, .inl (kI G, 2, .inl co)), (q4, .inl (kI G, 2, .inl mp)), (q5, .inl (kI G, 10, .inl my)), (q6, .inl (kI G, 10, .inl md)), (q7, .inl (kI G, 10, .inl mr)), (q8, .inl (kI G, 40, .inl dr)), (q9, .inl (kI G, 504, .inl nw)), (q10, .inl (kI G, 64, .inl tk)), (q11, .inl (kI G, 64, .inl cs)), (q12, .inl (kI G, 12, .inl sa)), (q13, .inl (kI G, 8, .inl go)), (q14, .inl (kI G, 2048, .inl to))] (.int (zb (cbB (sta nw ba) (fal nw ba) (kin nw ba) (nw ba) k))) := by
  refine Rd.ofW (by decide) (Nat.le_of_ble_eq_true rfl) ?_
  intro p e s m below meth c ls hx hb hml hr hown hts hlk hP hE hl
  have hl : lv_has ls 3 [(0, .ref q0), (1, .int (nI ba)), (2, .int (nI k))] := hl
  refine lv_aload_n hx hb dX10_canBurn_0 rfl (lv_at hl 0 rfl) ?_
  refine lv_iload_n hx hb dX10_canBurn_1 rfl (lv_at hl 1 rfl) ?_
  refine lv_iload_n hx hb dX10_canBurn_2 rfl (lv_at hl 2 rfl) ?_
  refine lv_aload_n hx hb dX10_canBurn_3 rfl (lv_at hl 0 rfl) ?_
  refine va_get hx hb hts inlX10 hown hE.1 hP 0 rfl rfl 12 (by decide) (fl_X10_35 hts) (fun _ h9 => h9) rfl dX10_canBurn_4 ?_
  refine lv_iload_n hx hb dX10_canBurn_7 rfl (lv_at hl 1 rfl) ?_
  refine lv_iconst (v := 0) hx hb dX10_canBurn_8 (by decide) ?_
  refine lv_iadd hx hb dX10_canBurn_9 ?_
  rw [show nI ba + 0 = nI ba from nI_add ba 0]
  refine va_iald hx hb hE.1 hP 9 0 rfl rfl (vp_in_nI (by omega) (by omega)) dX10_canBurn_10 ?_
  rw [nI_clamp (show ba < 2 ^ 31 by omega)]
  refine rd_callV (As := [.int (nI ba), .int (nI k), .int (nw ba)]) (rest := []) hx hb hml hown hts hE hl.1 (c_X10_stands l G q0 q1 q2 q3 q4 q5 q6 q7 q8 q9 q10 q11 q12 q13 q14 tx ro co mp my md mr dr nw tk cs sa go to ty dm at_ so de ke sm ba k (nw ba) (by first | assumption | omega) (by first | assumption | omega)) (cw_X10_110 hts) ⟨(Nat.le_of_ble_eq_true rfl), (Nat.le_of_ble_eq_true rfl)⟩ ⟨Nat.zero_le _, Nat.zero_le _⟩ rfl (sub_P hP [0, 1, 2, 3, 4, 5, 6, 7, 8, 9, 10, 11, 12, 13, 14] rfl) rfl rfl rfl rfl (Nat.le_of_ble_eq_true rfl) dX10_canBurn_11 ?_
  refine lv_if_eq (tgt := 36) hx hb dX10_canBurn_14 (by decide) (fun c14 => ?_) (fun c14 => ?_)
  · have c14 := zb_0.mp c14
    refine lv_iconst (v := 0) hx hb dX10_canBurn_36 (by decide) ?_
    exact rd_zret hx hb hr hlk dX10_canBurn_37 rfl (by first | rfl | (simp [zb, c14, cbB, kin]; done))
  · have c14 := zb_n0.mp c14
    refine lv_aload_n hx hb dX10_canBurn_17 rfl (lv_at hl 0 rfl) ?_
    refine va_get hx hb hts inlX10 hown hE.1 hP 0 rfl rfl 12 (by decide) (fl_X10_35 hts) (fun _ h9 => h9) rfl dX10_canBurn_18 ?_
    refine lv_iload_n hx hb dX10_canBurn_21 rfl (lv_at hl 1 rfl) ?_
    refine lv_bipush (v := 32) hx hb dX10_canBurn_22 (by decide) ?_
    refine lv_iadd hx hb dX10_canBurn_24 ?_
    rw [show (nI ba) + (32 : Int32) = nI (ba + 32) from nI_add ba 32]
    refine lv_iload_n hx hb dX10_canBurn_25 rfl (lv_at hl 2 rfl) ?_
    refine lv_iadd hx hb dX10_canBurn_26 ?_
    rw [show (nI (ba + 32)) + (nI k) = nI (ba + 32 + k) from nI_add (ba + 32) k]
    refine va_iald hx hb hE.1 hP 9 0 rfl rfl (vp_in_nI (by omega) (by omega)) dX10_canBurn_27 ?_
    rw [nI_clamp (show ba + 32 + k < 2 ^ 31 by omega)]
    refine lv_iconst (v := 1) hx hb dX10_canBurn_28 (by decide) ?_
    refine lv_icmp_eq (tgt := 36) hx hb dX10_canBurn_29 (by decide) (fun c29 => ?_) (fun c29 => ?_)
    · refine lv_iconst (v := 0) hx hb dX10_canBurn_36 (by decide) ?_
      exact rd_zret hx hb hr hlk dX10_canBurn_37 rfl (by first | rfl | (simp [zb, c14, c29, cbB, kin]; done))
    · refine lv_iconst (v := 1) hx hb dX10_canBurn_32 (by decide) ?_
      refine lv_goto (tgt := 37) hx hb dX10_canBurn_33 (by decide) ?_
      exact rd_zret hx hb hr hlk dX10_canBurn_37 rfl (by first | rfl | (simp [zb, c14, c29, cbB, kin]; done))

set_option maxHeartbeats 4000000 in
set_option maxRecDepth 100000 in
theorem c_X10_thingAt (l : Launch) (G : Gv) (q0 : Nat) (q1 : Nat) (q2 : Nat) (q3 : Nat) (q4 : Nat) (q5 : Nat) (q6 : Nat) (q7 : Nat) (q8 : Nat) (q9 : Nat) (q10 : Nat) (q11 : Nat) (q12 : Nat) (q13 : Nat) (q14 : Nat) (tx : Nat → Int32) (ro : Nat → Int32) (co : Nat → Int32) (mp : Nat → Int32) (my : Nat → Int32) (md : Nat → Int32) (mr : Nat → Int32) (dr : Nat → Int32) (nw : Nat → Int32) (tk : Nat → Int32) (cs : Nat → Int32) (sa : Nat → Int32) (go : Nat → Int32) (to : Nat → Int32) (ty : Nat) (dm : Nat) (at_ : Nat) (so : Bool) (de : Nat) (ke : Nat) (sm : Nat) (n : Nat) (x : Int32) (hn1 : nw 1 = nI n) (hn : n ≤ 10) : Rd l yX10_thingAt cX10_thingAt 4 (some .int) (rmz 0 0) G [.ref q0, .int x] [(q0, .inr (10, [.ref q1, .int (nI ty), .ref q2, .ref q3, .ref q4, .ref q5, .ref q6, .ref q7, .ref q8, .int (nI dm), .int (nI at_), .int (zb so), .ref q9, .int (nI de), .int (nI ke), .ref q10, .ref q11, .ref q12, .int (nI sm), .ref q13, .ref q14])), (q1, .inl (kB G, 200, .inl tx)), (q2, .inl (kI G, 2, .inl ro)), (q3, .inl (kI G, 2, .inl co)), (q4, .inl (kI G, 2, .inl mp)), (q5, .inl (kI G, 10, .inl my)), (q6, .inl (kI G, 10, .inl md)), (q7, .inl (kI G, 10, .inl mr)), (q8, .inl (kI G, 40, .inl dr)), (q9, .inl (kI G, 504, .inl nw)), (q10, .inl (kI G, 64, .inl tk)), (q11, .inl (kI G, 64, .inl cs)), (q12, .inl (kI G, 12, .inl sa)), (q13, .inl (kI G, 8, .inl go)), (q14, .inl (kI G, 2048, .inl to))] (.int (lsx (fun k => decide (cel nw 0 k = x)) n)) := by
  refine Rd.ofW (by decide) (Nat.le_of_ble_eq_true rfl) ?_
  intro p e s m below meth c ls hx hb hml hr hown hts hlk hP hE hl
  have hl : lv_has ls 4 [(0, .ref q0), (1, .int x)] := hl
  have J_5 : ∀ (n_ : Nat) (k : Nat) (acc : Int32) (hk : k ≤ n) (ha : acc = lsx (fun k => decide (cel nw 0 k = x)) k) (hm_5 : n - k < n_), ∀ ls : Array Slot, lv_has ls 4 [(0, .ref q0), (1, .int x), (2, .int acc), (3, .int (nI k))] → WR p l e (rmz 0 0) s m [.ref q0, .int x] below meth c (.int (lsx (fun k => decide (cel nw 0 k = x)) n)) (F0 m 5 ls []) := by
    intro n_
    induction n_ with
    | zero =>
      intro k acc hk ha hm_5
      exact absurd hm_5 (Nat.not_lt_zero _)
    | succ n_ ih_5 =>
      intro k acc hk ha hm_5 ls hl
      refine lv_iload_n hx hb dX10_thingAt_5 rfl (lv_at hl 3 rfl) ?_
      refine lv_aload_n hx hb dX10_thingAt_6 rfl (lv_at hl 0 rfl) ?_
      refine va_get hx hb hts inlX10 hown hE.1 hP 0 rfl rfl 12 (by decide) (fl_X10_35 hts) (fun _ h9 => h9) rfl dX10_thingAt_7 ?_
      refine lv_iconst (v := 1) hx hb dX10_thingAt_10 (by decide) ?_
      refine va_iald hx hb hE.1 hP 9 0 rfl rfl (inB_iff.mp (by decide)) dX10_thingAt_11 ?_
      rw [show (1 : Int32).toNatClampNeg = 1 from rfl]
      rw [hn1]
      refine lv_icmp_ge (tgt := 39) hx hb dX10_thingAt_12 (by decide) (fun c12 => ?_) (fun c12 => ?_)
      · have hkn : n ≤ k := le_of_le (by omega) (by omega) c12
        refine lv_iload_n hx hb dX10_thingAt_39 rfl (lv_at hl 2 rfl) ?_
        exact rd_iret hx hb hr hlk dX10_thingAt_40 (by rw [ha, show k = n by omega])
      · have hkn : k < n := lt_of_nle (by omega) (by omega) c12
        refine lv_aload_n hx hb dX10_thingAt_15 rfl (lv_at hl 0 rfl) ?_
        refine va_get hx hb hts inlX10 hown hE.1 hP 0 rfl rfl 12 (by decide) (fl_X10_35 hts) (fun _ h9 => h9) rfl dX10_thingAt_16 ?_
        refine lv_iconst (v := 2) hx hb dX10_thingAt_19 (by decide) ?_
        refine lv_iload_n hx hb dX10_thingAt_20 rfl (lv_at hl 3 rfl) ?_
        refine lv_iadd hx hb dX10_thingAt_21 ?_
        rw [show (2 : Int32) + (nI k) = nI (2 + k) from nI_add 2 k]
        refine va_iald hx hb hE.1 hP 9 0 rfl rfl (vp_in_nI (by omega) (by omega)) dX10_thingAt_22 ?_
        rw [nI_clamp (show 2 + k < 2 ^ 31 by omega)]
        refine lv_iload_n hx hb dX10_thingAt_23 rfl (lv_at hl 1 rfl) ?_
        refine lv_icmp_ne (tgt := 31) hx hb dX10_thingAt_24 (by decide) (fun c24 => ?_) (fun c24 => ?_)
        · refine lv_iload_n hx hb dX10_thingAt_31 rfl (lv_at hl 2 rfl) ?_
          refine lv_istore_n (lv' := [(2, .int acc), (0, .ref q0), (1, .int x), (3, .int (nI k))]) hx hb dX10_thingAt_32 rfl hl (by decide) rfl (fun ls hl => ?_)
          refine lv_iinc (v := nI (k + 1)) (lv' := [(3, .int (nI (k + 1))), (2, .int acc), (0, .ref q0), (1, .int x)]) hx hb dX10_thingAt_33 hl (k := 3) rfl (nI_1 k) (by decide) rfl (fun ls hl => ?_)
          refine lv_goto (tgt := 5) hx hb dX10_thingAt_36 (by decide) ?_
          have ha0 := ha
          rw [lsx] at ha0
          exact ih_5 (k + 1) acc (by first | assumption | omega | rfl) (by rw [lsx, it_s]; simp only [← ha0]; simp [cel, c12, c24]) (by omega) ls (lv_sub hl [2, 3, 1, 0] rfl)
        · refine lv_iload_n hx hb dX10_thingAt_27 rfl (lv_at hl 3 rfl) ?_
          refine lv_goto (tgt := 32) hx hb dX10_thingAt_28 (by decide) ?_
          refine lv_istore_n (lv' := [(2, .int (nI k)), (0, .ref q0), (1, .int x), (3, .int (nI k))]) hx hb dX10_thingAt_32 rfl hl (by decide) rfl (fun ls hl => ?_)
          refine lv_iinc (v := nI (k + 1)) (lv' := [(3, .int (nI (k + 1))), (2, .int (nI k)), (0, .ref q0), (1, .int x)]) hx hb dX10_thingAt_33 hl (k := 3) rfl (nI_1 k) (by decide) rfl (fun ls hl => ?_)
          refine lv_goto (tgt := 5) hx hb dX10_thingAt_36 (by decide) ?_
          have ha0 := ha
          rw [lsx] at ha0
          exact ih_5 (k + 1) (nI k) (by first | assumption | omega | rfl) (by rw [lsx, it_s]; simp only [← ha0]; simp [cel, c12, c24]) (by omega) ls (lv_sub hl [2, 3, 1, 0] rfl)
  refine lv_bipush (v := -4) hx hb dX10_thingAt_0 (by decide) ?_
  refine lv_istore_n (lv' := [(2, .int (-4)), (0, .ref q0), (1, .int x)]) hx hb dX10_thingAt_2 rfl hl (by decide) rfl (fun ls hl => ?_)
  refine lv_iconst (v := 0) hx hb dX10_thingAt_3 (by decide) ?_
  refine lv_istore_n (lv' := [(3, .int 0), (2, .int (-4)), (0, .ref q0), (1, .int x)]) hx hb dX10_thingAt_4 rfl hl (by decide) rfl (fun ls hl => ?_)
  exact J_5 (n - 0 + 1) 0 (-4) (by first | assumption | omega | rfl) rfl (Nat.lt_succ_self _) ls (lv_sub hl [2, 3, 1, 0] rfl)

set_option maxHeartbeats 4000000 in
set_option maxRecDepth 100000 in
theorem c_X10_taken (l : Launch) (G : Gv) (q0 : Nat) (q1 : Nat) (q2 : Nat) (q3 : Nat) (q4 : Nat) (q5 : Nat) (q6 : Nat) (q7 : Nat) (q8 : Nat) (q9 : Nat) (q10 : Nat) (q11 : Nat) (q12 : Nat) (q13 : Nat) (q14 : Nat) (tx : Nat → Int32) (ro : Nat → Int32) (co : Nat → Int32) (mp : Nat → Int32) (my : Nat → Int32) (md : Nat → Int32) (mr : Nat → Int32) (dr : Nat → Int32) (nw : Nat → Int32) (tk : Nat → Int32) (cs : Nat → Int32) (sa : Nat → Int32) (go : Nat → Int32) (to : Nat → Int32) (ty : Nat) (dm : Nat) (at_ : Nat) (so : Bool) (de : Nat) (ke : Nat) (sm : Nat) (ba : Nat) (n : Nat) (w : Int32) (hba : ba ≤ 462) (hn1 : nw (ba + 1) = nI n) (hn : n ≤ 10) : Rd l yX10_taken cX10_taken 6 (some .long) (rmz 1 23) G [.ref q0, .int (nI ba), .int w] [(q0, .inr (10, [.ref q1, .int (nI ty), .ref q2, .ref q3, .ref q4, .ref q5, .ref q6, .ref q7, .ref q8, .int (nI dm), .int (nI at_), .int (zb so), .ref q9, .int (nI de), .int (nI ke), .ref q10, .ref q11, .ref q12, .int (nI sm), .ref q13, .ref q14])), (q1, .inl (kB G, 200, .inl tx)), (q2, .inl (kI G, 2, .inl ro)), (q3, .inl (kI G, 2, .inl co)), (q4, .inl (kI G, 2, .inl mp)), (q5, .inl (kI G, 10, .inl my)), (q6, .inl (kI G, 10, .inl md)), (q7, .inl (kI G, 10, .inl mr)), (q8, .inl (kI G, 40, .inl dr)), (q9, .inl (kI G, 504, .inl nw)), (q10, .inl (kI G, 64, .inl tk)), (q11, .inl (kI G, 64, .inl cs)), (q12, .inl (kI G, 12, .inl sa)), (q13, .inl (kI G, 8, .inl go)), (q14, .inl (kI G, 2048, .inl to))] (.long (stC (cel nw ba) (sta nw ba) (fal nw ba) w n)) := by
  refine Rd.ofW (by decide) (Nat.le_of_ble_eq_true rfl) ?_
  intro p e s m below meth c ls hx hb hml hr hown hts hlk hP hE hl
  have hl : lv_has ls 6 [(0, .ref q0), (1, .int (nI ba)), (2, .int w)] := hl
  have J_5 : ∀ (n_ : Nat) (k : Nat) (acc : Int64) (hk : k ≤ n) (ha : acc = stC (cel nw ba) (sta nw ba) (fal nw ba) w k) (hm_5 : n - k < n_), ∀ ls : Array Slot, lv_has ls 6 [(0, .ref q0), (1, .int (nI ba)), (2, .int w), (3, .long acc), (5, .int (nI k))] → WR p l e (rmz 1 23) s m [.ref q0, .int (nI ba), .int w] below meth c (.long (stC (cel nw ba) (sta nw ba) (fal nw ba) w n)) (F0 m 5 ls []) := by
    intro n_
    induction n_ with
    | zero =>
      intro k acc hk ha hm_5
      exact absurd hm_5 (Nat.not_lt_zero _)
    | succ n_ ih_5 =>
      intro k acc hk ha hm_5 ls hl
      refine lv_iload hx hb dX10_taken_5 (lv_at hl 4 rfl) ?_
      refine lv_aload_n hx hb dX10_taken_7 rfl (lv_at hl 0 rfl) ?_
      refine va_get hx hb hts inlX10 hown hE.1 hP 0 rfl rfl 12 (by decide) (fl_X10_35 hts) (fun _ h9 => h9) rfl dX10_taken_8 ?_
      refine lv_iload_n hx hb dX10_taken_11 rfl (lv_at hl 1 rfl) ?_
      refine lv_iconst (v := 1) hx hb dX10_taken_12 (by decide) ?_
      refine lv_iadd hx hb dX10_taken_13 ?_
      rw [show (nI ba) + (1 : Int32) = nI (ba + 1) from nI_add ba 1]
      refine va_iald hx hb hE.1 hP 9 0 rfl rfl (vp_in_nI (by omega) (by omega)) dX10_taken_14 ?_
      rw [nI_clamp (show ba + 1 < 2 ^ 31 by omega)]
      rw [hn1]
      refine lv_icmp_ge (tgt := 55) hx hb dX10_taken_15 (by decide) (fun c15 => ?_) (fun c15 => ?_)
      · have hkn : n ≤ k := le_of_le (by omega) (by omega) c15
        refine lv_lload_n hx hb dX10_taken_55 rfl (lv_at hl 3 rfl) ?_
        exact rd_lret hx hb hr hlk dX10_taken_56 (by rw [ha, show k = n by omega])
      · have hkn : k < n := lt_of_nle (by omega) (by omega) c15
        refine lv_lload_n hx hb dX10_taken_18 rfl (lv_at hl 3 rfl) ?_
        refine lv_aload_n hx hb dX10_taken_19 rfl (lv_at hl 0 rfl) ?_
        refine lv_iload_n hx hb dX10_taken_20 rfl (lv_at hl 1 rfl) ?_
        refine lv_iload hx hb dX10_taken_21 (lv_at hl 4 rfl) ?_
        refine lv_iload_n hx hb dX10_taken_23 rfl (lv_at hl 2 rfl) ?_
        refine rd_callV (As := [.int (nI ba), .int (nI k), .int w]) (rest := [.long acc]) hx hb hml hown hts hE hl.1 (c_X10_stands l G q0 q1 q2 q3 q4 q5 q6 q7 q8 q9 q10 q11 q12 q13 q14 tx ro co mp my md mr dr nw tk cs sa go to ty dm at_ so de ke sm ba k w (by first | assumption | omega) (by first | assumption | omega)) (cw_X10_110 hts) ⟨(Nat.le_of_ble_eq_true rfl), (Nat.le_of_ble_eq_true rfl)⟩ ⟨Nat.zero_le _, Nat.zero_le _⟩ rfl (sub_P hP [0, 1, 2, 3, 4, 5, 6, 7, 8, 9, 10, 11, 12, 13, 14] rfl) rfl rfl rfl rfl (Nat.le_of_ble_eq_true rfl) dX10_taken_24 ?_
        refine lv_if_eq (tgt := 46) hx hb dX10_taken_27 (by decide) (fun c27 => ?_) (fun c27 => ?_)
        · have c27 := zb_0.mp c27
          refine lv_lconst (v := 0) hx hb dX10_taken_46 (by decide) ?_
          refine lv_lor hx hb dX10_taken_47 ?_
          refine lv_lstore_n (lv' := [(3, .long (acc ||| 0)), (0, .ref q0), (1, .int (nI ba)), (2, .int w), (5, .int (nI k))]) hx hb dX10_taken_48 rfl hl (by decide) rfl (fun ls hl => ?_)
          refine lv_iinc (v := nI (k + 1)) (lv' := [(5, .int (nI (k + 1))), (3, .long (acc ||| 0)), (0, .ref q0), (1, .int (nI ba)), (2, .int w)]) hx hb dX10_taken_49 hl (k := 4) rfl (nI_1 k) (by decide) rfl (fun ls hl => ?_)
          refine lv_goto (tgt := 5) hx hb dX10_taken_52 (by decide) ?_
          have ha0 := ha
          rw [stC] at ha0
          exact ih_5 (k + 1) (acc ||| 0) (by first | assumption | omega | rfl) (by rw [stC, it_s]; simp only [← ha0, c27]; rfl) (by omega) ls (lv_sub hl [2, 3, 4, 1, 0] rfl)
        · have c27 := zb_n0.mp c27
          refine lv_lconst (v := 1) hx hb dX10_taken_30 (by decide) ?_
          refine lv_aload_n hx hb dX10_taken_31 rfl (lv_at hl 0 rfl) ?_
          refine va_get hx hb hts inlX10 hown hE.1 hP 0 rfl rfl 12 (by decide) (fl_X10_35 hts) (fun _ h9 => h9) rfl dX10_taken_32 ?_
          refine lv_iload_n hx hb dX10_taken_35 rfl (lv_at hl 1 rfl) ?_
          refine lv_iconst (v := 2) hx hb dX10_taken_36 (by decide) ?_
          refine lv_iadd hx hb dX10_taken_37 ?_
          rw [show (nI ba) + (2 : Int32) = nI (ba + 2) from nI_add ba 2]
          refine lv_iload hx hb dX10_taken_38 (lv_at hl 4 rfl) ?_
          refine lv_iadd hx hb dX10_taken_40 ?_
          rw [show (nI (ba + 2)) + (nI k) = nI (ba + 2 + k) from nI_add (ba + 2) k]
          refine va_iald hx hb hE.1 hP 9 0 rfl rfl (vp_in_nI (by omega) (by omega)) dX10_taken_41 ?_
          rw [nI_clamp (show ba + 2 + k < 2 ^ 31 by omega)]
          refine lv_lshl hx hb dX10_taken_42 rfl ?_
          refine lv_goto (tgt := 47) hx hb dX10_taken_43 (by decide) ?_
          refine lv_lor hx hb dX10_taken_47 ?_
          refine lv_lstore_n (lv' := [(3, .long (acc ||| (1 <<< ((nw (ba + 2 + k)).toInt64 &&& 63)))), (0, .ref q0), (1, .int (nI ba)), (2, .int w), (5, .int (nI k))]) hx hb dX10_taken_48 rfl hl (by decide) rfl (fun ls hl => ?_)
          refine lv_iinc (v := nI (k + 1)) (lv' := [(5, .int (nI (k + 1))), (3, .long (acc ||| (1 <<< ((nw (ba + 2 + k)).toInt64 &&& 63)))), (0, .ref q0), (1, .int (nI ba)), (2, .int w)]) hx hb dX10_taken_49 hl (k := 4) rfl (nI_1 k) (by decide) rfl (fun ls hl => ?_)
          refine lv_goto (tgt := 5) hx hb dX10_taken_52 (by decide) ?_
          have ha0 := ha
          rw [stC] at ha0
          exact ih_5 (k + 1) (acc ||| (1 <<< ((nw (ba + 2 + k)).toInt64 &&& 63))) (by first | assumption | omega | rfl) (by rw [stC, it_s]; simp only [← ha0, c27]; rfl) (by omega) ls (lv_sub hl [2, 3, 4, 1, 0] rfl)
  refine lv_lconst (v := 0) hx hb dX10_taken_0 (by decide) ?_
  refine lv_lstore_n (lv' := [(3, .long 0), (0, .ref q0), (1, .int (nI ba)), (2, .int w)]) hx hb dX10_taken_1 rfl hl (by decide) rfl (fun ls hl => ?_)
  refine lv_iconst (v := 0) hx hb dX10_taken_2 (by decide) ?_
  refine lv_istore (lv' := [(5, .int 0), (3, .long 0), (0, .ref q0), (1, .int (nI ba)), (2, .int w)]) hx hb dX10_taken_3 hl (by decide) rfl (fun ls hl => ?_)
  exact J_5 (n - 0 + 1) 0 0 (by first | assumption | omega | rfl) rfl (Nat.lt_succ_self _) ls (lv_sub hl [2, 3, 4, 1, 0] rfl)

set_option maxHeartbeats 4000000 in
set_option maxRecDepth 100000 in
theorem c_X10_trueTo (l : Launch) (G : Gv) (q0 : Nat) (q1 : Nat) (q2 : Nat) (q3 : Nat) (q4 : Nat) (q5 : Nat) (q6 : Nat) (q7 : Nat) (q8 : Nat) (q9 : Nat) (q10 : Nat) (q11 : Nat) (q12 : Nat) (q13 : Nat) (q14 : Nat) (tx : Nat → Int32) (ro : Nat → Int32) (co : Nat → Int32) (mp : Nat → Int32) (my : Nat → Int32) (md : Nat → Int32) (mr : Nat → Int32) (dr : Nat → Int32) (nw : Nat → Int32) (tk : Nat → Int32) (cs : Nat → Int32) (sa : Nat → Int32) (go : Nat → Int32) (to : Nat → Int32) (ty : Nat) (dm : Nat) (at_ : Nat) (so : Bool) (de : Nat) (ke : Nat) (sm : Nat) (ba : Nat) (n : Nat) (nr : Nat) (nc : Nat) (w : Int32) (hba : ba ≤ 462) (hn1 : nw (ba + 1) = nI n) (hn : n ≤ 10) (hro : ro 0 = nI nr) (hco : co 0 = nI nc) (hg1 : 2 ≤ nr ∧ nr ≤ 8) (hg2 : 2 ≤ nc ∧ nc ≤ 8) : Rd l yX10_trueTo cX10_trueTo 9 (some .long) (rmz 1 23) G [.ref q0, .int (nI ba), .int w] [(q0, .inr (10, [.ref q1, .int (nI ty), .ref q2, .ref q3, .ref q4, .ref q5, .ref q6, .ref q7, .ref q8, .int (nI dm), .int (nI at_), .int (zb so), .ref q9, .int (nI de), .int (nI ke), .ref q10, .ref q11, .ref q12, .int (nI sm), .ref q13, .ref q14])), (q1, .inl (kB G, 200, .inl tx)), (q2, .inl (kI G, 2, .inl ro)), (q3, .inl (kI G, 2, .inl co)), (q4, .inl (kI G, 2, .inl mp)), (q5, .inl (kI G, 10, .inl my)), (q6, .inl (kI G, 10, .inl md)), (q7, .inl (kI G, 10, .inl mr)), (q8, .inl (kI G, 40, .inl dr)), (q9, .inl (kI G, 504, .inl nw)), (q10, .inl (kI G, 64, .inl tk)), (q11, .inl (kI G, 64, .inl cs)), (q12, .inl (kI G, 12, .inl sa)), (q13, .inl (kI G, 8, .inl go)), (q14, .inl (kI G, 2048, .inl to))] (.long (drM nc (cel nw ba) (fal nw ba) (kin nw ba) w n)) := by
  refine Rd.ofW (by decide) (Nat.le_of_ble_eq_true rfl) ?_
  intro p e s m below meth c ls hx hb hml hr hown hts hlk hP hE hl
  have hl : lv_has ls 9 [(0, .ref q0), (1, .int (nI ba)), (2, .int w)] := hl
  have J_5 : ∀ (n_ : Nat) (k : Nat) (acc : Int64) (hk : k ≤ n) (ha : acc = drM nc (cel nw ba) (fal nw ba) (kin nw ba) w k) (hm_5 : n - k < n_), ∀ ls : Array Slot, lv_has ls 9 [(0, .ref q0), (1, .int (nI ba)), (2, .int w), (3, .long acc), (5, .int (nI k))] → WR p l e (rmz 1 23) s m [.ref q0, .int (nI ba), .int w] below meth c (.long (drM nc (cel nw ba) (fal nw ba) (kin nw ba) w n)) (F0 m 5 ls []) := by
    intro n_
    induction n_ with
    | zero =>
      intro k acc hk ha hm_5
      exact absurd hm_5 (Nat.not_lt_zero _)
    | succ n_ ih_5 =>
      intro k acc hk ha hm_5 ls hl
      have J_76 : ∀ (g : Bool) (hkn : k < n) (hgo : goM nc (cel nw ba) (kin nw ba) k = g), ∀ ls : Array Slot, lv_has ls 9 [(0, .ref q0), (1, .int (nI ba)), (2, .int w), (3, .long acc), (5, .int (nI k)), (6, .int (nw (ba + 2 + k))), (7, .int (nw (ba + 32 + k)))] → WR p l e (rmz 1 23) s m [.ref q0, .int (nI ba), .int w] below meth c (.long (drM nc (cel nw ba) (fal nw ba) (kin nw ba) w n)) (F0 m 76 ls [.int (zb g)]) := by
        intro g hkn hgo ls hl
        refine lv_istore (lv' := [(8, .int (zb g)), (0, .ref q0), (1, .int (nI ba)), (2, .int w), (3, .long acc), (5, .int (nI k)), (6, .int (nw (ba + 2 + k))), (7, .int (nw (ba + 32 + k)))]) hx hb dX10_trueTo_76 hl (by decide) rfl (fun ls hl => ?_)
        refine lv_lload_n hx hb dX10_trueTo_78 rfl (lv_at hl 4 rfl) ?_
        refine lv_aload_n hx hb dX10_trueTo_79 rfl (lv_at hl 1 rfl) ?_
        refine lv_iload_n hx hb dX10_trueTo_80 rfl (lv_at hl 2 rfl) ?_
        refine lv_iload hx hb dX10_trueTo_81 (lv_at hl 5 rfl) ?_
        refine lv_iload_n hx hb dX10_trueTo_83 rfl (lv_at hl 3 rfl) ?_
        refine rd_callV (As := [.int (nI ba), .int (nI k), .int w]) (rest := [.long acc]) hx hb hml hown hts hE hl.1 (c_X10_isLost l G q0 q1 q2 q3 q4 q5 q6 q7 q8 q9 q10 q11 q12 q13 q14 tx ro co mp my md mr dr nw tk cs sa go to ty dm at_ so de ke sm ba k w (by first | assumption | omega) (by first | assumption | omega)) (cw_X10_113 hts) ⟨(Nat.le_of_ble_eq_true rfl), (Nat.le_of_ble_eq_true rfl)⟩ ⟨Nat.zero_le _, Nat.zero_le _⟩ rfl (sub_P hP [0, 1, 2, 3, 4, 5, 6, 7, 8, 9, 10, 11, 12, 13, 14] rfl) rfl rfl rfl rfl (Nat.le_of_ble_eq_true rfl) dX10_trueTo_84 ?_
        refine lv_if_eq (tgt := 115) hx hb dX10_trueTo_87 (by decide) (fun c87 => ?_) (fun c87 => ?_)
        · have c87 := zb_0.mp c87
          refine lv_lconst (v := 0) hx hb dX10_trueTo_115 (by decide) ?_
          refine lv_lor hx hb dX10_trueTo_116 ?_
          refine lv_lstore_n (lv' := [(3, .long (acc ||| 0)), (8, .int (zb g)), (0, .ref q0), (1, .int (nI ba)), (2, .int w), (5, .int (nI k)), (6, .int (nw (ba + 2 + k))), (7, .int (nw (ba + 32 + k)))]) hx hb dX10_trueTo_117 rfl hl (by decide) rfl (fun ls hl => ?_)
          refine lv_iinc (v := nI (k + 1)) (lv' := [(5, .int (nI (k + 1))), (3, .long (acc ||| 0)), (8, .int (zb g)), (0, .ref q0), (1, .int (nI ba)), (2, .int w), (6, .int (nw (ba + 2 + k))), (7, .int (nw (ba + 32 + k)))]) hx hb dX10_trueTo_118 hl (k := 5) rfl (nI_1 k) (by decide) rfl (fun ls hl => ?_)
          refine lv_goto (tgt := 5) hx hb dX10_trueTo_121 (by decide) ?_
          have ha0 := ha
          rw [drM] at ha0
          exact ih_5 (k + 1) (acc ||| 0) (by first | assumption | omega | rfl) (by rw [drM, it_s]; simp only [← ha0]; simp [bt, hgo, c87, cel, kin]) (by omega) ls (lv_sub hl [3, 4, 5, 1, 0] rfl)
        · have c87 := zb_n0.mp c87
          refine lv_iload hx hb dX10_trueTo_90 (lv_at hl 7 rfl) ?_
          refine lv_iconst (v := 3) hx hb dX10_trueTo_92 (by decide) ?_
          refine lv_icmp_eq (tgt := 115) hx hb dX10_trueTo_93 (by decide) (fun c93 => ?_) (fun c93 => ?_)
          · refine lv_lconst (v := 0) hx hb dX10_trueTo_115 (by decide) ?_
            refine lv_lor hx hb dX10_trueTo_116 ?_
            refine lv_lstore_n (lv' := [(3, .long (acc ||| 0)), (8, .int (zb g)), (0, .ref q0), (1, .int (nI ba)), (2, .int w), (5, .int (nI k)), (6, .int (nw (ba + 2 + k))), (7, .int (nw (ba + 32 + k)))]) hx hb dX10_trueTo_117 rfl hl (by decide) rfl (fun ls hl => ?_)
            refine lv_iinc (v := nI (k + 1)) (lv' := [(5, .int (nI (k + 1))), (3, .long (acc ||| 0)), (8, .int (zb g)), (0, .ref q0), (1, .int (nI ba)), (2, .int w), (6, .int (nw (ba + 2 + k))), (7, .int (nw (ba + 32 + k)))]) hx hb dX10_trueTo_118 hl (k := 5) rfl (nI_1 k) (by decide) rfl (fun ls hl => ?_)
            refine lv_goto (tgt := 5) hx hb dX10_trueTo_121 (by decide) ?_
            have ha0 := ha
            rw [drM] at ha0
            exact ih_5 (k + 1) (acc ||| 0) (by first | assumption | omega | rfl) (by rw [drM, it_s]; simp only [← ha0]; simp [bt, hgo, c87, c93, cel, kin]) (by omega) ls (lv_sub hl [3, 4, 5, 1, 0] rfl)
          · refine lv_lconst (v := 1) hx hb dX10_trueTo_96 (by decide) ?_
            refine lv_iload hx hb dX10_trueTo_97 (lv_at hl 0 rfl) ?_
            refine lv_if_eq (tgt := 109) hx hb dX10_trueTo_99 (by decide) (fun c99 => ?_) (fun c99 => ?_)
            · have c99 := zb_0.mp c99
              refine lv_iload hx hb dX10_trueTo_109 (lv_at hl 6 rfl) ?_
              refine lv_lshl hx hb dX10_trueTo_111 rfl ?_
              refine lv_goto (tgt := 116) hx hb dX10_trueTo_112 (by decide) ?_
              refine lv_lor hx hb dX10_trueTo_116 ?_
              refine lv_lstore_n (lv' := [(3, .long (acc ||| (1 <<< ((nw (ba + 2 + k)).toInt64 &&& 63)))), (8, .int (zb g)), (0, .ref q0), (1, .int (nI ba)), (2, .int w), (5, .int (nI k)), (6, .int (nw (ba + 2 + k))), (7, .int (nw (ba + 32 + k)))]) hx hb dX10_trueTo_117 rfl hl (by decide) rfl (fun ls hl => ?_)
              refine lv_iinc (v := nI (k + 1)) (lv' := [(5, .int (nI (k + 1))), (3, .long (acc ||| (1 <<< ((nw (ba + 2 + k)).toInt64 &&& 63)))), (8, .int (zb g)), (0, .ref q0), (1, .int (nI ba)), (2, .int w), (6, .int (nw (ba + 2 + k))), (7, .int (nw (ba + 32 + k)))]) hx hb dX10_trueTo_118 hl (k := 5) rfl (nI_1 k) (by decide) rfl (fun ls hl => ?_)
              refine lv_goto (tgt := 5) hx hb dX10_trueTo_121 (by decide) ?_
              have ha0 := ha
              rw [drM] at ha0
              exact ih_5 (k + 1) (acc ||| (1 <<< ((nw (ba + 2 + k)).toInt64 &&& 63))) (by first | assumption | omega | rfl) (by rw [drM, it_s]; simp only [← ha0]; simp [bt, hgo, c87, c93, c99, cel, kin]) (by omega) ls (lv_sub hl [3, 4, 5, 1, 0] rfl)
            · have c99 := zb_n0.mp c99
              refine lv_iload hx hb dX10_trueTo_102 (lv_at hl 6 rfl) ?_
              refine lv_iconst (v := 1) hx hb dX10_trueTo_104 (by decide) ?_
              refine lv_iadd hx hb dX10_trueTo_105 ?_
              refine lv_goto (tgt := 111) hx hb dX10_trueTo_106 (by decide) ?_
              refine lv_lshl hx hb dX10_trueTo_111 rfl ?_
              refine lv_goto (tgt := 116) hx hb dX10_trueTo_112 (by decide) ?_
              refine lv_lor hx hb dX10_trueTo_116 ?_
              refine lv_lstore_n (lv' := [(3, .long (acc ||| (1 <<< (((nw (ba + 2 + k)) + 1).toInt64 &&& 63)))), (8, .int (zb g)), (0, .ref q0), (1, .int (nI ba)), (2, .int w), (5, .int (nI k)), (6, .int (nw (ba + 2 + k))), (7, .int (nw (ba + 32 + k)))]) hx hb dX10_trueTo_117 rfl hl (by decide) rfl (fun ls hl => ?_)
              refine lv_iinc (v := nI (k + 1)) (lv' := [(5, .int (nI (k + 1))), (3, .long (acc ||| (1 <<< (((nw (ba + 2 + k)) + 1).toInt64 &&& 63)))), (8, .int (zb g)), (0, .ref q0), (1, .int (nI ba)), (2, .int w), (6, .int (nw (ba + 2 + k))), (7, .int (nw (ba + 32 + k)))]) hx hb dX10_trueTo_118 hl (k := 5) rfl (nI_1 k) (by decide) rfl (fun ls hl => ?_)
              refine lv_goto (tgt := 5) hx hb dX10_trueTo_121 (by decide) ?_
              have ha0 := ha
              rw [drM] at ha0
              exact ih_5 (k + 1) (acc ||| (1 <<< (((nw (ba + 2 + k)) + 1).toInt64 &&& 63))) (by first | assumption | omega | rfl) (by rw [drM, it_s]; simp only [← ha0]; simp [bt, hgo, c87, c93, c99, cel, kin]) (by omega) ls (lv_sub hl [3, 4, 5, 1, 0] rfl)
      refine lv_iload hx hb dX10_trueTo_5 (lv_at hl 4 rfl) ?_
      refine lv_aload_n hx hb dX10_trueTo_7 rfl (lv_at hl 0 rfl) ?_
      refine va_get hx hb hts inlX10 hown hE.1 hP 0 rfl rfl 12 (by decide) (fl_X10_35 hts) (fun _ h9 => h9) rfl dX10_trueTo_8 ?_
      refine lv_iload_n hx hb dX10_trueTo_11 rfl (lv_at hl 1 rfl) ?_
      refine lv_iconst (v := 1) hx hb dX10_trueTo_12 (by decide) ?_
      refine lv_iadd hx hb dX10_trueTo_13 ?_
      rw [show (nI ba) + (1 : Int32) = nI (ba + 1) from nI_add ba 1]
      refine va_iald hx hb hE.1 hP 9 0 rfl rfl (vp_in_nI (by omega) (by omega)) dX10_trueTo_14 ?_
      rw [nI_clamp (show ba + 1 < 2 ^ 31 by omega)]
      rw [hn1]
      refine lv_icmp_ge (tgt := 124) hx hb dX10_trueTo_15 (by decide) (fun c15 => ?_) (fun c15 => ?_)
      · have hkn : n ≤ k := le_of_le (by omega) (by omega) c15
        refine lv_lload_n hx hb dX10_trueTo_124 rfl (lv_at hl 3 rfl) ?_
        exact rd_lret hx hb hr hlk dX10_trueTo_125 (by rw [ha, show k = n by omega])
      · have hkn : k < n := lt_of_nle (by omega) (by omega) c15
        refine lv_aload_n hx hb dX10_trueTo_18 rfl (lv_at hl 0 rfl) ?_
        refine va_get hx hb hts inlX10 hown hE.1 hP 0 rfl rfl 12 (by decide) (fl_X10_35 hts) (fun _ h9 => h9) rfl dX10_trueTo_19 ?_
        refine lv_iload_n hx hb dX10_trueTo_22 rfl (lv_at hl 1 rfl) ?_
        refine lv_iconst (v := 2) hx hb dX10_trueTo_23 (by decide) ?_
        refine lv_iadd hx hb dX10_trueTo_24 ?_
        rw [show (nI ba) + (2 : Int32) = nI (ba + 2) from nI_add ba 2]
        refine lv_iload hx hb dX10_trueTo_25 (lv_at hl 4 rfl) ?_
        refine lv_iadd hx hb dX10_trueTo_27 ?_
        rw [show (nI (ba + 2)) + (nI k) = nI (ba + 2 + k) from nI_add (ba + 2) k]
        refine va_iald hx hb hE.1 hP 9 0 rfl rfl (vp_in_nI (by omega) (by omega)) dX10_trueTo_28 ?_
        rw [nI_clamp (show ba + 2 + k < 2 ^ 31 by omega)]
        refine lv_istore (lv' := [(6, .int (nw (ba + 2 + k))), (0, .ref q0), (1, .int (nI ba)), (2, .int w), (3, .long acc), (5, .int (nI k))]) hx hb dX10_trueTo_29 hl (by decide) rfl (fun ls hl => ?_)
        refine lv_aload_n hx hb dX10_trueTo_31 rfl (lv_at hl 1 rfl) ?_
        refine va_get hx hb hts inlX10 hown hE.1 hP 0 rfl rfl 12 (by decide) (fl_X10_35 hts) (fun _ h9 => h9) rfl dX10_trueTo_32 ?_
        refine lv_iload_n hx hb dX10_trueTo_35 rfl (lv_at hl 2 rfl) ?_
        refine lv_bipush (v := 32) hx hb dX10_trueTo_36 (by decide) ?_
        refine lv_iadd hx hb dX10_trueTo_38 ?_
        rw [show (nI ba) + (32 : Int32) = nI (ba + 32) from nI_add ba 32]
        refine lv_iload hx hb dX10_trueTo_39 (lv_at hl 5 rfl) ?_
        refine lv_iadd hx hb dX10_trueTo_41 ?_
        rw [show (nI (ba + 32)) + (nI k) = nI (ba + 32 + k) from nI_add (ba + 32) k]
        refine va_iald hx hb hE.1 hP 9 0 rfl rfl (vp_in_nI (by omega) (by omega)) dX10_trueTo_42 ?_
        rw [nI_clamp (show ba + 32 + k < 2 ^ 31 by omega)]
        refine lv_istore (lv' := [(7, .int (nw (ba + 32 + k))), (6, .int (nw (ba + 2 + k))), (0, .ref q0), (1, .int (nI ba)), (2, .int w), (3, .long acc), (5, .int (nI k))]) hx hb dX10_trueTo_43 hl (by decide) rfl (fun ls hl => ?_)
        refine lv_iload hx hb dX10_trueTo_45 (lv_at hl 0 rfl) ?_
        refine lv_iconst (v := 2) hx hb dX10_trueTo_47 (by decide) ?_
        refine lv_icmp_ne (tgt := 75) hx hb dX10_trueTo_48 (by decide) (fun c48 => ?_) (fun c48 => ?_)
        · refine lv_iconst (v := 0) hx hb dX10_trueTo_75 (by decide) ?_
          exact J_76 false (by first | assumption | omega | rfl) (by simp [goM, cel, kin, c15, c48]) ls (lv_sub hl [2, 3, 4, 5, 6, 1, 0] rfl)
        · refine lv_iload hx hb dX10_trueTo_51 (lv_at hl 1 rfl) ?_
          refine lv_aload_n hx hb dX10_trueTo_53 rfl (lv_at hl 2 rfl) ?_
          refine va_get hx hb hts inlX10 hown hE.1 hP 0 rfl rfl 3 (by decide) (fl_X10_17 hts) (fun _ h9 => h9) rfl dX10_trueTo_54 ?_
          refine lv_iconst (v := 0) hx hb dX10_trueTo_57 (by decide) ?_
          refine va_iald hx hb hE.1 hP 3 0 rfl rfl (inB_iff.mp (by decide)) dX10_trueTo_58 ?_
          rw [show (0 : Int32).toNatClampNeg = 0 from rfl]
          rw [hco]
          refine lv_irem hx hb dX10_trueTo_59 (nc_ne hg2) ?_
          refine lv_aload_n hx hb dX10_trueTo_60 rfl (lv_at hl 2 rfl) ?_
          refine va_get hx hb hts inlX10 hown hE.1 hP 0 rfl rfl 3 (by decide) (fl_X10_17 hts) (fun _ h9 => h9) rfl dX10_trueTo_61 ?_
          refine lv_iconst (v := 0) hx hb dX10_trueTo_64 (by decide) ?_
          refine va_iald hx hb hE.1 hP 3 0 rfl rfl (inB_iff.mp (by decide)) dX10_trueTo_65 ?_
          rw [show (0 : Int32).toNatClampNeg = 0 from rfl]
          rw [hco]
          refine lv_iconst (v := 1) hx hb dX10_trueTo_66 (by decide) ?_
          refine lv_isub hx hb dX10_trueTo_67 ?_
          refine lv_icmp_ge (tgt := 75) hx hb dX10_trueTo_68 (by decide) (fun c68 => ?_) (fun c68 => ?_)
          · refine lv_iconst (v := 0) hx hb dX10_trueTo_75 (by decide) ?_
            exact J_76 false (by first | assumption | omega | rfl) (by simp [goM, cel, kin, c15, c48, c68]) ls (lv_sub hl [2, 3, 4, 5, 6, 1, 0] rfl)
          · refine lv_iconst (v := 1) hx hb dX10_trueTo_71 (by decide) ?_
            refine lv_goto (tgt := 76) hx hb dX10_trueTo_72 (by decide) ?_
            exact J_76 true (by first | assumption | omega | rfl) (by simp [goM, cel, kin, c48, c68]) ls (lv_sub hl [2, 3, 4, 5, 6, 1, 0] rfl)
  refine lv_lconst (v := 0) hx hb dX10_trueTo_0 (by decide) ?_
  refine lv_lstore_n (lv' := [(3, .long 0), (0, .ref q0), (1, .int (nI ba)), (2, .int w)]) hx hb dX10_trueTo_1 rfl hl (by decide) rfl (fun ls hl => ?_)
  refine lv_iconst (v := 0) hx hb dX10_trueTo_2 (by decide) ?_
  refine lv_istore (lv' := [(5, .int 0), (3, .long 0), (0, .ref q0), (1, .int (nI ba)), (2, .int w)]) hx hb dX10_trueTo_3 hl (by decide) rfl (fun ls hl => ?_)
  exact J_5 (n - 0 + 1) 0 0 (by first | assumption | omega | rfl) rfl (Nat.lt_succ_self _) ls (lv_sub hl [2, 3, 4, 1, 0] rfl)

set_option maxHeartbeats 4000000 in
set_option maxRecDepth 100000 in
theorem c_X10_byHand (l : Launch) (G : Gv) (q0 : Nat) (q1 : Nat) (q2 : Nat) (q3 : Nat) (q4 : Nat) (q5 : Nat) (q6 : Nat) (q7 : Nat) (q8 : Nat) (q9 : Nat) (q10 : Nat) (q11 : Nat) (q12 : Nat) (q13 : Nat) (q14 : Nat) (tx : Nat → Int32) (ro : Nat → Int32) (co : Nat → Int32) (mp : Nat → Int32) (my : Nat → Int32) (md : Nat → Int32) (mr : Nat → Int32) (dr : Nat → Int32) (nw : Nat → Int32) (tk : Nat → Int32) (cs : Nat → Int32) (sa : Nat → Int32) (go : Nat → Int32) (to : Nat → Int32) (ty : Nat) (dm : Nat) (at_ : Nat) (so : Bool) (de : Nat) (ke : Nat) (sm : Nat) (nr : Nat) (nc : Nat) (v : Int64) (dn : Int32) (rt : Int32) (hro : ro 0 = nI nr) (hco : co 0 = nI nc) (hg1 : 2 ≤ nr ∧ nr ≤ 8) (hg2 : 2 ≤ nc ∧ nc ≤ 8) : Rd l yX10_byHand cX10_byHand 11 (some .long) (rmz 1 22) G [.ref q0, .long v, .int dn, .int rt] [(q0, .inr (10, [.ref q1, .int (nI ty), .ref q2, .ref q3, .ref q4, .ref q5, .ref q6, .ref q7, .ref q8, .int (nI dm), .int (nI at_), .int (zb so), .ref q9, .int (nI de), .int (nI ke), .ref q10, .ref q11, .ref q12, .int (nI sm), .ref q13, .ref q14])), (q1, .inl (kB G, 200, .inl tx)), (q2, .inl (kI G, 2, .inl ro)), (q3, .inl (kI G, 2, .inl co)), (q4, .inl (kI G, 2, .inl mp)), (q5, .inl (kI G, 10, .inl my)), (q6, .inl (kI G, 10, .inl md)), (q7, .inl (kI G, 10, .inl mr)), (q8, .inl (kI G, 40, .inl dr)), (q9, .inl (kI G, 504, .inl nw)), (q10, .inl (kI G, 64, .inl tk)), (q11, .inl (kI G, 64, .inl cs)), (q12, .inl (kI G, 12, .inl sa)), (q13, .inl (kI G, 8, .inl go)), (q14, .inl (kI G, 2048, .inl to))] (.long (bhM nr nc v dn rt (nr * nc))) := by
  refine Rd.ofW (by decide) (Nat.le_of_ble_eq_true rfl) ?_
  intro p e s m below meth c ls hx hb hml hr hown hts hlk hP hE hl
  have hl : lv_has ls 11 [(0, .ref q0), (1, .long v), (3, .int dn), (4, .int rt)] := hl
  have hcl := cells_le hg1 hg2
  have J_6 : ∀ (n_ : Nat) (k : Nat) (acc : Int64) (hk : k ≤ nr * nc) (ha : acc = bhM nr nc v dn rt k) (hm_6 : nr * nc - k < n_), ∀ ls : Array Slot, lv_has ls 11 [(0, .ref q0), (1, .long v), (3, .int dn), (4, .int rt), (5, .long acc), (7, .int (nI k))] → WR p l e (rmz 1 22) s m [.ref q0, .long v, .int dn, .int rt] below meth c (.long (bhM nr nc v dn rt (nr * nc))) (F0 m 6 ls []) := by
    intro n_
    induction n_ with
    | zero =>
      intro k acc hk ha hm_6
      exact absurd hm_6 (Nat.not_lt_zero _)
    | succ n_ ih_6 =>
      intro k acc hk ha hm_6 ls hl
      refine lv_iload hx hb dX10_byHand_6 (lv_at hl 5 rfl) ?_
      refine lv_aload_n hx hb dX10_byHand_8 rfl (lv_at hl 0 rfl) ?_
      refine lv_iconst (v := 0) hx hb dX10_byHand_9 (by decide) ?_
      refine rd_callV (As := [.int 0]) (rest := [.int (nI k)]) hx hb hml hown hts hE hl.1 (c_X10_cells l G q0 q1 q2 q3 q4 q5 q6 q7 q8 q9 q10 q11 q12 q13 q14 tx ro co mp my md mr dr nw tk cs sa go to ty dm at_ so de ke sm nr nc (by first | assumption | omega) (by first | assumption | omega) (by first | assumption | omega) (by first | assumption | omega)) (cw_X10_87 hts) ⟨(Nat.le_of_ble_eq_true rfl), (Nat.le_of_ble_eq_true rfl)⟩ ⟨Nat.zero_le _, Nat.zero_le _⟩ rfl (sub_P hP [0, 1, 2, 3, 4, 5, 6, 7, 8, 9, 10, 11, 12, 13, 14] rfl) rfl rfl rfl rfl (Nat.le_of_ble_eq_true rfl) dX10_byHand_10 ?_
      refine lv_icmp_ge (tgt := 133) hx hb dX10_byHand_13 (by decide) (fun c13 => ?_) (fun c13 => ?_)
      · have hkn : nr * nc ≤ k := le_of_le (by omega) (by omega) c13
        refine lv_lload hx hb dX10_byHand_133 (lv_at hl 4 rfl) ?_
        exact rd_lret hx hb hr hlk dX10_byHand_135 (by rw [ha, show k = nr * nc by omega])
      · have hkn : k < nr * nc := lt_of_nle (by omega) (by omega) c13
        refine lv_iload hx hb dX10_byHand_16 (lv_at hl 5 rfl) ?_
        refine lv_aload_n hx hb dX10_byHand_18 rfl (lv_at hl 0 rfl) ?_
        refine va_get hx hb hts inlX10 hown hE.1 hP 0 rfl rfl 3 (by decide) (fl_X10_17 hts) (fun _ h9 => h9) rfl dX10_byHand_19 ?_
        refine lv_iconst (v := 0) hx hb dX10_byHand_22 (by decide) ?_
        refine va_iald hx hb hE.1 hP 3 0 rfl rfl (inB_iff.mp (by decide)) dX10_byHand_23 ?_
        rw [show (0 : Int32).toNatClampNeg = 0 from rfl]
        rw [hco]
        refine lv_idiv hx hb dX10_byHand_24 (nc_ne hg2) ?_
        refine lv_iload_n hx hb dX10_byHand_25 rfl (lv_at hl 2 rfl) ?_
        refine lv_iadd hx hb dX10_byHand_26 ?_
        refine lv_iconst (v := 2) hx hb dX10_byHand_27 (by decide) ?_
        refine lv_isub hx hb dX10_byHand_28 ?_
        rw [show nI k / nI nc + dn - 2 = (nI k / nI nc + dn) - 2 from rfl]
        refine lv_istore (lv' := [(8, .int ((nI k / nI nc + dn) - 2)), (0, .ref q0), (1, .long v), (3, .int dn), (4, .int rt), (5, .long acc), (7, .int (nI k))]) hx hb dX10_byHand_29 hl (by decide) rfl (fun ls hl => ?_)
        refine lv_iload hx hb dX10_byHand_31 (lv_at hl 6 rfl) ?_
        refine lv_aload_n hx hb dX10_byHand_33 rfl (lv_at hl 1 rfl) ?_
        refine va_get hx hb hts inlX10 hown hE.1 hP 0 rfl rfl 3 (by decide) (fl_X10_17 hts) (fun _ h9 => h9) rfl dX10_byHand_34 ?_
        refine lv_iconst (v := 0) hx hb dX10_byHand_37 (by decide) ?_
        refine va_iald hx hb hE.1 hP 3 0 rfl rfl (inB_iff.mp (by decide)) dX10_byHand_38 ?_
        rw [show (0 : Int32).toNatClampNeg = 0 from rfl]
        rw [hco]
        refine lv_irem hx hb dX10_byHand_39 (nc_ne hg2) ?_
        refine lv_iload hx hb dX10_byHand_40 (lv_at hl 4 rfl) ?_
        refine lv_iadd hx hb dX10_byHand_42 ?_
        refine lv_iconst (v := 2) hx hb dX10_byHand_43 (by decide) ?_
        refine lv_isub hx hb dX10_byHand_44 ?_
        rw [show nI k - nI k / nI nc * nI nc + rt - 2 = (nI k - nI k / nI nc * nI nc + rt) - 2 from rfl]
        refine lv_istore (lv' := [(9, .int ((nI k - nI k / nI nc * nI nc + rt) - 2)), (8, .int ((nI k / nI nc + dn) - 2)), (0, .ref q0), (1, .long v), (3, .int dn), (4, .int rt), (5, .long acc), (7, .int (nI k))]) hx hb dX10_byHand_45 hl (by decide) rfl (fun ls hl => ?_)
        refine lv_lload_n hx hb dX10_byHand_47 rfl (lv_at hl 3 rfl) ?_
        refine lv_iload hx hb dX10_byHand_48 (lv_at hl 7 rfl) ?_
        refine lv_lshr hx hb dX10_byHand_50 rfl ?_
        refine lv_lconst (v := 1) hx hb dX10_byHand_51 (by decide) ?_
        refine lv_land hx hb dX10_byHand_52 ?_
        refine lv_lconst (v := 1) hx hb dX10_byHand_53 (by decide) ?_
        refine W.lcmp hx hb dX10_byHand_54 ?_
        refine lv_if_ne (tgt := 96) hx hb dX10_byHand_55 (by decide) (fun c55 => ?_) (fun c55 => ?_)
        · have c55 := lgc_ne.mp c55
          have c55 : hsM v k = false := by simp [hsM, c55]
          refine lv_iconst (v := 0) hx hb dX10_byHand_96 (by decide) ?_
          refine lv_istore (lv' := [(10, .int 0), (9, .int ((nI k - nI k / nI nc * nI nc + rt) - 2)), (8, .int ((nI k / nI nc + dn) - 2)), (0, .ref q0), (1, .long v), (3, .int dn), (4, .int rt), (5, .long acc), (7, .int (nI k))]) hx hb dX10_byHand_97 hl (by decide) rfl (fun ls hl => ?_)
          refine lv_lload hx hb dX10_byHand_99 (lv_at hl 7 rfl) ?_
          refine lv_iload hx hb dX10_byHand_101 (lv_at hl 0 rfl) ?_
          refine lv_if_eq (tgt := 123) hx hb dX10_byHand_103 (by decide) (fun c103 => ?_) (fun c103 => ?_)
          · refine lv_lconst (v := 0) hx hb dX10_byHand_123 (by decide) ?_
            refine lv_lor hx hb dX10_byHand_124 ?_
            refine lv_lstore (lv' := [(5, .long (acc ||| 0)), (10, .int 0), (9, .int ((nI k - nI k / nI nc * nI nc + rt) - 2)), (8, .int ((nI k / nI nc + dn) - 2)), (0, .ref q0), (1, .long v), (3, .int dn), (4, .int rt), (7, .int (nI k))]) hx hb dX10_byHand_125 hl (by decide) rfl (fun ls hl => ?_)
            refine lv_iinc (v := nI (k + 1)) (lv' := [(7, .int (nI (k + 1))), (5, .long (acc ||| 0)), (10, .int 0), (9, .int ((nI k - nI k / nI nc * nI nc + rt) - 2)), (8, .int ((nI k / nI nc + dn) - 2)), (0, .ref q0), (1, .long v), (3, .int dn), (4, .int rt)]) hx hb dX10_byHand_127 hl (k := 8) rfl (nI_1 k) (by decide) rfl (fun ls hl => ?_)
            refine lv_goto (tgt := 6) hx hb dX10_byHand_130 (by decide) ?_
            have ha0 := ha
            rw [bhM] at ha0
            exact ih_6 (k + 1) (acc ||| 0) (by first | assumption | omega | rfl) (by rw [bhM, it_s]; simp only [← ha0]; simp [bt, c13, c55]) (by omega) ls (lv_sub hl [5, 6, 7, 8, 1, 0] rfl)
          · exact absurd c103 (by decide)
        · have c55 := lgc_eq.mp c55
          have c55 : hsM v k = true := by simp [hsM, c55]
          refine lv_iload hx hb dX10_byHand_58 (lv_at hl 1 rfl) ?_
          refine lv_iconst (v := 0) hx hb dX10_byHand_60 (by decide) ?_
          refine lv_aload_n hx hb dX10_byHand_61 rfl (lv_at hl 2 rfl) ?_
          refine va_get hx hb hts inlX10 hown hE.1 hP 0 rfl rfl 2 (by decide) (fl_X10_13 hts) (fun _ h9 => h9) rfl dX10_byHand_62 ?_
          refine lv_iconst (v := 0) hx hb dX10_byHand_65 (by decide) ?_
          refine va_iald hx hb hE.1 hP 2 0 rfl rfl (inB_iff.mp (by decide)) dX10_byHand_66 ?_
          rw [show (0 : Int32).toNatClampNeg = 0 from rfl]
          rw [hro]
          refine lv_iconst (v := 1) hx hb dX10_byHand_67 (by decide) ?_
          refine lv_isub hx hb dX10_byHand_68 ?_
          refine rd_callS (As := [.int ((nI k / nI nc + dn) - 2), .int 0, .int ((nI nr) - 1)]) (rest := []) hx hb hml hown hts hE hl.1 (c_X10_in l G ((nI k / nI nc + dn) - 2) 0 ((nI nr) - 1) ) (cs_X10_61 hts) ⟨(Nat.le_of_ble_eq_true rfl), (Nat.le_of_ble_eq_true rfl)⟩ ⟨Nat.zero_le _, Nat.zero_le _⟩ rfl (sub_P hP [] rfl) rfl (Nat.le_of_ble_eq_true rfl) dX10_byHand_69 ?_
          rw [inn_n (by omega)]
          refine lv_if_eq (tgt := 96) hx hb dX10_byHand_72 (by decide) (fun c72 => ?_) (fun c72 => ?_)
          · have c72 := zb_0.mp c72
            refine lv_iconst (v := 0) hx hb dX10_byHand_96 (by decide) ?_
            refine lv_istore (lv' := [(10, .int 0), (9, .int ((nI k - nI k / nI nc * nI nc + rt) - 2)), (8, .int ((nI k / nI nc + dn) - 2)), (0, .ref q0), (1, .long v), (3, .int dn), (4, .int rt), (5, .long acc), (7, .int (nI k))]) hx hb dX10_byHand_97 hl (by decide) rfl (fun ls hl => ?_)
            refine lv_lload hx hb dX10_byHand_99 (lv_at hl 7 rfl) ?_
            refine lv_iload hx hb dX10_byHand_101 (lv_at hl 0 rfl) ?_
            refine lv_if_eq (tgt := 123) hx hb dX10_byHand_103 (by decide) (fun c103 => ?_) (fun c103 => ?_)
            · refine lv_lconst (v := 0) hx hb dX10_byHand_123 (by decide) ?_
              refine lv_lor hx hb dX10_byHand_124 ?_
              refine lv_lstore (lv' := [(5, .long (acc ||| 0)), (10, .int 0), (9, .int ((nI k - nI k / nI nc * nI nc + rt) - 2)), (8, .int ((nI k / nI nc + dn) - 2)), (0, .ref q0), (1, .long v), (3, .int dn), (4, .int rt), (7, .int (nI k))]) hx hb dX10_byHand_125 hl (by decide) rfl (fun ls hl => ?_)
              refine lv_iinc (v := nI (k + 1)) (lv' := [(7, .int (nI (k + 1))), (5, .long (acc ||| 0)), (10, .int 0), (9, .int ((nI k - nI k / nI nc * nI nc + rt) - 2)), (8, .int ((nI k / nI nc + dn) - 2)), (0, .ref q0), (1, .long v), (3, .int dn), (4, .int rt)]) hx hb dX10_byHand_127 hl (k := 8) rfl (nI_1 k) (by decide) rfl (fun ls hl => ?_)
              refine lv_goto (tgt := 6) hx hb dX10_byHand_130 (by decide) ?_
              have ha0 := ha
              rw [bhM] at ha0
              exact ih_6 (k + 1) (acc ||| 0) (by first | assumption | omega | rfl) (by rw [bhM, it_s]; simp only [← ha0]; simp [bt, c13, c55, c72]) (by omega) ls (lv_sub hl [5, 6, 7, 8, 1, 0] rfl)
            · exact absurd c103 (by decide)
          · have c72 := zb_n0.mp c72
            refine lv_iload hx hb dX10_byHand_75 (lv_at hl 0 rfl) ?_
            refine lv_iconst (v := 0) hx hb dX10_byHand_77 (by decide) ?_
            refine lv_aload_n hx hb dX10_byHand_78 rfl (lv_at hl 2 rfl) ?_
            refine va_get hx hb hts inlX10 hown hE.1 hP 0 rfl rfl 3 (by decide) (fl_X10_17 hts) (fun _ h9 => h9) rfl dX10_byHand_79 ?_
            refine lv_iconst (v := 0) hx hb dX10_byHand_82 (by decide) ?_
            refine va_iald hx hb hE.1 hP 3 0 rfl rfl (inB_iff.mp (by decide)) dX10_byHand_83 ?_
            rw [show (0 : Int32).toNatClampNeg = 0 from rfl]
            rw [hco]
            refine lv_iconst (v := 1) hx hb dX10_byHand_84 (by decide) ?_
            refine lv_isub hx hb dX10_byHand_85 ?_
            refine rd_callS (As := [.int ((nI k - nI k / nI nc * nI nc + rt) - 2), .int 0, .int ((nI nc) - 1)]) (rest := []) hx hb hml hown hts hE hl.1 (c_X10_in l G ((nI k - nI k / nI nc * nI nc + rt) - 2) 0 ((nI nc) - 1) ) (cs_X10_61 hts) ⟨(Nat.le_of_ble_eq_true rfl), (Nat.le_of_ble_eq_true rfl)⟩ ⟨Nat.zero_le _, Nat.zero_le _⟩ rfl (sub_P hP [] rfl) rfl (Nat.le_of_ble_eq_true rfl) dX10_byHand_86 ?_
            rw [inn_n (by omega)]
            refine lv_if_eq (tgt := 96) hx hb dX10_byHand_89 (by decide) (fun c89 => ?_) (fun c89 => ?_)
            · have c89 := zb_0.mp c89
              refine lv_iconst (v := 0) hx hb dX10_byHand_96 (by decide) ?_
              refine lv_istore (lv' := [(10, .int 0), (9, .int ((nI k - nI k / nI nc * nI nc + rt) - 2)), (8, .int ((nI k / nI nc + dn) - 2)), (0, .ref q0), (1, .long v), (3, .int dn), (4, .int rt), (5, .long acc), (7, .int (nI k))]) hx hb dX10_byHand_97 hl (by decide) rfl (fun ls hl => ?_)
              refine lv_lload hx hb dX10_byHand_99 (lv_at hl 7 rfl) ?_
              refine lv_iload hx hb dX10_byHand_101 (lv_at hl 0 rfl) ?_
              refine lv_if_eq (tgt := 123) hx hb dX10_byHand_103 (by decide) (fun c103 => ?_) (fun c103 => ?_)
              · refine lv_lconst (v := 0) hx hb dX10_byHand_123 (by decide) ?_
                refine lv_lor hx hb dX10_byHand_124 ?_
                refine lv_lstore (lv' := [(5, .long (acc ||| 0)), (10, .int 0), (9, .int ((nI k - nI k / nI nc * nI nc + rt) - 2)), (8, .int ((nI k / nI nc + dn) - 2)), (0, .ref q0), (1, .long v), (3, .int dn), (4, .int rt), (7, .int (nI k))]) hx hb dX10_byHand_125 hl (by decide) rfl (fun ls hl => ?_)
                refine lv_iinc (v := nI (k + 1)) (lv' := [(7, .int (nI (k + 1))), (5, .long (acc ||| 0)), (10, .int 0), (9, .int ((nI k - nI k / nI nc * nI nc + rt) - 2)), (8, .int ((nI k / nI nc + dn) - 2)), (0, .ref q0), (1, .long v), (3, .int dn), (4, .int rt)]) hx hb dX10_byHand_127 hl (k := 8) rfl (nI_1 k) (by decide) rfl (fun ls hl => ?_)
                refine lv_goto (tgt := 6) hx hb dX10_byHand_130 (by decide) ?_
                have ha0 := ha
                rw [bhM] at ha0
                exact ih_6 (k + 1) (acc ||| 0) (by first | assumption | omega | rfl) (by rw [bhM, it_s]; simp only [← ha0]; simp [bt, c13, c55, c72, c89]) (by omega) ls (lv_sub hl [5, 6, 7, 8, 1, 0] rfl)
              · exact absurd c103 (by decide)
            · have c89 := zb_n0.mp c89
              refine lv_iconst (v := 1) hx hb dX10_byHand_92 (by decide) ?_
              refine lv_goto (tgt := 97) hx hb dX10_byHand_93 (by decide) ?_
              refine lv_istore (lv' := [(10, .int 1), (9, .int ((nI k - nI k / nI nc * nI nc + rt) - 2)), (8, .int ((nI k / nI nc + dn) - 2)), (0, .ref q0), (1, .long v), (3, .int dn), (4, .int rt), (5, .long acc), (7, .int (nI k))]) hx hb dX10_byHand_97 hl (by decide) rfl (fun ls hl => ?_)
              refine lv_lload hx hb dX10_byHand_99 (lv_at hl 7 rfl) ?_
              refine lv_iload hx hb dX10_byHand_101 (lv_at hl 0 rfl) ?_
              refine lv_if_eq (tgt := 123) hx hb dX10_byHand_103 (by decide) (fun c103 => ?_) (fun c103 => ?_)
              · exact absurd c103 (by decide)
              · refine lv_lconst (v := 1) hx hb dX10_byHand_106 (by decide) ?_
                refine lv_iload hx hb dX10_byHand_107 (lv_at hl 2 rfl) ?_
                refine lv_aload_n hx hb dX10_byHand_109 rfl (lv_at hl 3 rfl) ?_
                refine va_get hx hb hts inlX10 hown hE.1 hP 0 rfl rfl 3 (by decide) (fl_X10_17 hts) (fun _ h9 => h9) rfl dX10_byHand_110 ?_
                refine lv_iconst (v := 0) hx hb dX10_byHand_113 (by decide) ?_
                refine va_iald hx hb hE.1 hP 3 0 rfl rfl (inB_iff.mp (by decide)) dX10_byHand_114 ?_
                rw [show (0 : Int32).toNatClampNeg = 0 from rfl]
                rw [hco]
                refine lv_imul hx hb dX10_byHand_115 ?_
                refine lv_iload hx hb dX10_byHand_116 (lv_at hl 1 rfl) ?_
                refine lv_iadd hx hb dX10_byHand_118 ?_
                refine lv_lshl hx hb dX10_byHand_119 rfl ?_
                refine lv_goto (tgt := 124) hx hb dX10_byHand_120 (by decide) ?_
                refine lv_lor hx hb dX10_byHand_124 ?_
                refine lv_lstore (lv' := [(5, .long (acc ||| (1 <<< (((((nI k / nI nc + dn) - 2) * (nI nc)) + ((nI k - nI k / nI nc * nI nc + rt) - 2)).toInt64 &&& 63)))), (10, .int 1), (9, .int ((nI k - nI k / nI nc * nI nc + rt) - 2)), (8, .int ((nI k / nI nc + dn) - 2)), (0, .ref q0), (1, .long v), (3, .int dn), (4, .int rt), (7, .int (nI k))]) hx hb dX10_byHand_125 hl (by decide) rfl (fun ls hl => ?_)
                refine lv_iinc (v := nI (k + 1)) (lv' := [(7, .int (nI (k + 1))), (5, .long (acc ||| (1 <<< (((((nI k / nI nc + dn) - 2) * (nI nc)) + ((nI k - nI k / nI nc * nI nc + rt) - 2)).toInt64 &&& 63)))), (10, .int 1), (9, .int ((nI k - nI k / nI nc * nI nc + rt) - 2)), (8, .int ((nI k / nI nc + dn) - 2)), (0, .ref q0), (1, .long v), (3, .int dn), (4, .int rt)]) hx hb dX10_byHand_127 hl (k := 8) rfl (nI_1 k) (by decide) rfl (fun ls hl => ?_)
                refine lv_goto (tgt := 6) hx hb dX10_byHand_130 (by decide) ?_
                have ha0 := ha
                rw [bhM] at ha0
                exact ih_6 (k + 1) (acc ||| (1 <<< (((((nI k / nI nc + dn) - 2) * (nI nc)) + ((nI k - nI k / nI nc * nI nc + rt) - 2)).toInt64 &&& 63))) (by first | assumption | omega | rfl) (by rw [bhM, it_s]; simp only [← ha0]; simp [bt, c13, c55, c72, c89]) (by omega) ls (lv_sub hl [5, 6, 7, 8, 1, 0] rfl)
  refine lv_lconst (v := 0) hx hb dX10_byHand_0 (by decide) ?_
  refine lv_lstore (lv' := [(5, .long 0), (0, .ref q0), (1, .long v), (3, .int dn), (4, .int rt)]) hx hb dX10_byHand_1 hl (by decide) rfl (fun ls hl => ?_)
  refine lv_iconst (v := 0) hx hb dX10_byHand_3 (by decide) ?_
  refine lv_istore (lv' := [(7, .int 0), (5, .long 0), (0, .ref q0), (1, .long v), (3, .int dn), (4, .int rt)]) hx hb dX10_byHand_4 hl (by decide) rfl (fun ls hl => ?_)
  exact J_6 (nr * nc - 0 + 1) 0 0 (by first | assumption | omega | rfl) rfl (Nat.lt_succ_self _) ls (lv_sub hl [2, 3, 4, 5, 1, 0] rfl)
