/-! the reference: reads -/
def swM (nr nc : Nat) (nw my md mr : Nat → Int32) (n j : Nat) : Int64 := bhM nr nc (drM nc (cel nw 0) (fal nw 0) (kin nw 0) (my j) n) (md j) (mr j) (nr * nc)
def mbB (nw : Nat → Int32) (ba : Nat) (b : Bool) (k : Nat) : Bool := if b then stB (sta nw ba) (fal nw ba) (nw ba) k else loB (fal nw ba) (nw ba) k
def mbM (nw : Nat → Int32) (ba : Nat) (b : Bool) (n : Nat) : Int32 := it (fun k a => a + (if mbB nw ba b k then 1 else 0)) 0 n
def thM (nw : Nat → Int32) (n : Nat) (t w : Int32) : Int32 := if inB t n then (if w = 0 then cel nw 0 (ix t) else if w = 1 then sta nw 0 (ix t) else if w = 2 then (if fal nw 0 (ix t) = 100000 then 99 else fal nw 0 (ix t)) else if w = 3 then kin nw 0 (ix t) else if w = 4 then zb (stB (sta nw 0) (fal nw 0) (nw 0) (ix t)) else if w = 5 then zb (loB (fal nw 0) (nw 0) (ix t)) else -1) else -1
def mpM (nr nc : Nat) (nw my md mr : Nat → Int32) (n q : Nat) (t w : Int32) : Int32 := if inB t q then (if w = 0 then my (ix t) else if w = 1 then md (ix t) else if w = 2 then mr (ix t) else if w = 3 then mnM (swM nr nc nw my md mr n (ix t)) 64 else -1) else -1
def ssM (w : Int64) (x : Int32) : Int32 := ((w >>> (x.toInt64 &&& 63)) &&& 1).toInt32
def wgM (nw : Nat → Int32) (w : Int32) (v : Int64) (n : Nat) : Int64 := it (fun k a => a &&& (if loB (fal nw 0) w k then bt (cel nw 0 k) ^^^ (-1) else -1)) v n
def nmA (my : Nat → Int32) (y : Int32) (n : Nat) : Int32 := it (fun k a => if my k ≤ y then a else if a ≤ my k then a else my k) 1000 n
def olB (nw : Nat → Int32) (fr up : Int32) (k : Nat) : Bool := !decide (kin nw 0 k = 3) && (loB (fal nw 0) up k && !loB (fal nw 0) fr k)
def olI (nw : Nat → Int32) (fr up : Int32) (s : Int32 × Int32) (n : Nat) : Int32 × Int32 := it (fun k a => (a.1 + (if olB nw fr up k then 1 else 0), a.2 * (if olB nw fr up k then a.1 + (if olB nw fr up k then 1 else 0) else 1))) s n
def olL (nw my : Nat → Int32) (n q : Nat) : Nat → Int32 → Int32 → Int32
  | 0, _, w => w
  | f + 1, fr, w => if 1000 ≤ nmA my fr q then w else olL nw my n q f (nmA my fr q) (olI nw fr (nmA my fr q) (0, w) n).2
def snM (sa : Nat → Int32) (n : Nat) : Int64 := it (fun k a => a ||| bt (sa k)) 0 n
def fcM (nr nc : Nat) (nw : Nat → Int32) (n k : Nat) : Int64 := bhM nr nc (drM nc (cel nw 0) (fal nw 0) (kin nw 0) (nI k / 25) n) (nI k / 5 - nI k / 5 / 5 * 5) (nI k - nI k / 5 * 5) (nr * nc)
def fdM (nr nc : Nat) (nw : Nat → Int32) (n : Nat) (v : Int64) (k : Nat) : Int32 × Int32 := it (fun j a => if fcM nr nc nw n j = v then (a.1 + 1, if a.1 = 0 then nI j else a.2) else a) (0, -4) k
def ctM (nr nc : Nat) (nw : Nat → Int32) (n q sm de ke ty : Nat) (w : Int32) : Int32 := if w = 0 then nI (nr * nc) else if w = 1 then nI n else if w = 2 then nI q else if w = 3 then nw 0 else if w = 4 then mbM nw 0 true n else if w = 5 then mbM nw 0 false n else if w = 6 then nI sm else if w = 7 then nI de else if w = 8 then nI ke else if w = 9 then nI ty else -1
theorem inn_nat {w : Int32} {n : Nat} (hn : n < 2 ^ 30) (h : inn w 0 (nI n) = true) : ∃ v : Nat, v ≤ n ∧ w = nI v := by
  simp only [inn, Bool.and_eq_true, Bool.not_eq_true', decide_eq_false_iff_not] at h
  obtain ⟨j, hj, rfl⟩ := nI_of h.1
  exact ⟨j, ngt_of_nI (by omega) (by omega) h.2, rfl⟩
theorem inn_no {w : Int32} {n : Nat} (h : inn w 0 (nI n) = false) : ∀ v : Nat, v ≤ n → n < 2 ^ 30 → ¬ w = nI v := by
  intro v hv hn e
  subst e
  have h1 : ¬ nI v < 0 := nI_pos (by omega)
  have h2 : ¬ nI n < nI v := nI_nlt hv (by omega)
  simp [inn, h1, h2] at h
theorem thM_5 {nw : Nat → Int32} {n j : Nat} {w : Int32} (h : inB (nI j) n = true) (hj : j < 1000) (h5 : ∃ v : Nat, v ≤ 5 ∧ w = nI v) (h4 : 4 ≤ w) (h6 : ¬ w = 4) : thM nw n (nI j) w = zb (loB (fal nw 0) (nw 0) j) := by
  obtain ⟨v, hv, rfl⟩ := h5
  have e4 : 4 ≤ v := le_of_le (n := 4) (by omega) (by omega) h4
  have e5 : v = 5 := by
    rcases Nat.lt_or_ge v 5 with z | z
    · exact absurd (show nI v = 4 by rw [show v = 4 by omega]; rfl) h6
    · omega
  subst e5
  rw [thM, if_pos h, ixx (by omega)]
  rfl
theorem thM_4 {nw : Nat → Int32} {n j : Nat} (h : inB (nI j) n = true) (hj : j < 1000) : thM nw n (nI j) 4 = zb (stB (sta nw 0) (fal nw 0) (nw 0) j) := by
  rw [thM, if_pos h, ixx (by omega)]
  rfl
theorem thM_v {nw : Nat → Int32} {n j v : Nat} (h : inB (nI j) n = true) (hj : j < 1000) (hv : v < 4) (h2 : v = 2 → ¬ nw (22 + j) = 100000) : thM nw n (nI j) (nI v) = nw (2 + 10 * v + j) := by
  rw [thM, if_pos h, ixx (by omega)]
  match v, hv with
  | 0, _ => show nw (0 + 2 + j) = nw (2 + 10 * 0 + j); congr 1
  | 1, _ => show nw (0 + 12 + j) = nw (2 + 10 * 1 + j); congr 1
  | 2, _ =>
    show (if nw (0 + 22 + j) = 100000 then 99 else nw (0 + 22 + j)) = nw (2 + 10 * 2 + j)
    rw [show 0 + 22 + j = 22 + j by omega, if_neg (h2 rfl)]
  | 3, _ => show nw (0 + 32 + j) = nw (2 + 10 * 3 + j); congr 1

set_option maxHeartbeats 4000000 in
set_option maxRecDepth 100000 in
theorem c_X10_manyOf (l : Launch) (G : Gv) (v : Int64)  : Rd l yX10_manyOf cX10_manyOf 4 (some .int) (rmz 0 0) G [.long v] [] (.int (mnM v 64)) := by
  refine Rd.ofW (by decide) (Nat.le_of_ble_eq_true rfl) ?_
  intro p e s m below meth c ls hx hb hml hr hown hts hlk hP hE hl
  have hl : lv_has ls 4 [(0, .long v)] := hl
  have J_4 : ∀ (n_ : Nat) (k : Nat) (acc : Int32) (hk : k ≤ 64) (ha : acc = mnM v k) (hm_4 : 64 - k < n_), ∀ ls : Array Slot, lv_has ls 4 [(0, .long v), (2, .int acc), (3, .int (nI k))] → WR p l e (rmz 0 0) s m [.long v] below meth c (.int (mnM v 64)) (F0 m 4 ls []) := by
    intro n_
    induction n_ with
    | zero =>
      intro k acc hk ha hm_4
      exact absurd hm_4 (Nat.not_lt_zero _)
    | succ n_ ih_4 =>
      intro k acc hk ha hm_4 ls hl
      refine lv_iload_n hx hb dX10_manyOf_4 rfl (lv_at hl 2 rfl) ?_
      refine lv_bipush (v := 64) hx hb dX10_manyOf_5 (by decide) ?_
      refine lv_icmp_ge (tgt := 34) hx hb dX10_manyOf_7 (by decide) (fun c7 => ?_) (fun c7 => ?_)
      · have hkn : 64 ≤ k := le_of_le (n := 64) (by omega) (by omega) c7
        refine lv_iload_n hx hb dX10_manyOf_34 rfl (lv_at hl 1 rfl) ?_
        exact rd_iret hx hb hr hlk dX10_manyOf_35 (by rw [ha, show k = 64 by omega])
      · have hkn : k < 64 := lt_of_nle (n := 64) (by omega) (by omega) c7
        refine lv_iload_n hx hb dX10_manyOf_10 rfl (lv_at hl 1 rfl) ?_
        refine lv_lload_n hx hb dX10_manyOf_11 rfl (lv_at hl 0 rfl) ?_
        refine lv_iload_n hx hb dX10_manyOf_12 rfl (lv_at hl 2 rfl) ?_
        refine lv_lshr hx hb dX10_manyOf_13 rfl ?_
        refine lv_lconst (v := 1) hx hb dX10_manyOf_14 (by decide) ?_
        refine lv_land hx hb dX10_manyOf_15 ?_
        refine lv_lconst (v := 1) hx hb dX10_manyOf_16 (by decide) ?_
        refine W.lcmp hx hb dX10_manyOf_17 ?_
        refine lv_if_ne (tgt := 25) hx hb dX10_manyOf_18 (by decide) (fun c18 => ?_) (fun c18 => ?_)
        · have c18 := lgc_ne.mp c18
          have c18 : hsM v k = false := by simp [hsM, c18]
          refine lv_iconst (v := 0) hx hb dX10_manyOf_25 (by decide) ?_
          refine lv_iadd hx hb dX10_manyOf_26 ?_
          refine lv_istore_n (lv' := [(2, .int (acc + 0)), (0, .long v), (3, .int (nI k))]) hx hb dX10_manyOf_27 rfl hl (by decide) rfl (fun ls hl => ?_)
          refine lv_iinc (v := nI (k + 1)) (lv' := [(3, .int (nI (k + 1))), (2, .int (acc + 0)), (0, .long v)]) hx hb dX10_manyOf_28 hl (k := 2) rfl (nI_1 k) (by decide) rfl (fun ls hl => ?_)
          refine lv_goto (tgt := 4) hx hb dX10_manyOf_31 (by decide) ?_
          have ha0 := ha
          rw [mnM] at ha0
          exact ih_4 (k + 1) (acc + 0) (by first | assumption | omega | rfl) (by rw [mnM, it_s]; simp only [← ha0]; simp [c7, c18]) (by omega) ls (lv_sub hl [2, 1, 0] rfl)
        · have c18 := lgc_eq.mp c18
          have c18 : hsM v k = true := by simp [hsM, c18]
          refine lv_iconst (v := 1) hx hb dX10_manyOf_21 (by decide) ?_
          refine lv_goto (tgt := 26) hx hb dX10_manyOf_22 (by decide) ?_
          refine lv_iadd hx hb dX10_manyOf_26 ?_
          refine lv_istore_n (lv' := [(2, .int (acc + 1)), (0, .long v), (3, .int (nI k))]) hx hb dX10_manyOf_27 rfl hl (by decide) rfl (fun ls hl => ?_)
          refine lv_iinc (v := nI (k + 1)) (lv' := [(3, .int (nI (k + 1))), (2, .int (acc + 1)), (0, .long v)]) hx hb dX10_manyOf_28 hl (k := 2) rfl (nI_1 k) (by decide) rfl (fun ls hl => ?_)
          refine lv_goto (tgt := 4) hx hb dX10_manyOf_31 (by decide) ?_
          have ha0 := ha
          rw [mnM] at ha0
          exact ih_4 (k + 1) (acc + 1) (by first | assumption | omega | rfl) (by rw [mnM, it_s]; simp only [← ha0]; simp [c7, c18]) (by omega) ls (lv_sub hl [2, 1, 0] rfl)
  refine lv_iconst (v := 0) hx hb dX10_manyOf_0 (by decide) ?_
  refine lv_istore_n (lv' := [(2, .int 0), (0, .long v)]) hx hb dX10_manyOf_1 rfl hl (by decide) rfl (fun ls hl => ?_)
  refine lv_iconst (v := 0) hx hb dX10_manyOf_2 (by decide) ?_
  refine lv_istore_n (lv' := [(3, .int 0), (2, .int 0), (0, .long v)]) hx hb dX10_manyOf_3 rfl hl (by decide) rfl (fun ls hl => ?_)
  exact J_4 (64 - 0 + 1) 0 0 (by first | assumption | omega | rfl) rfl (Nat.lt_succ_self _) ls (lv_sub hl [2, 1, 0] rfl)

set_option maxHeartbeats 4000000 in
set_option maxRecDepth 100000 in
theorem c_X10_lowest (l : Launch) (G : Gv) (v : Int64)  : Rd l yX10_lowest cX10_lowest 3 (some .int) (rmz 0 0) G [.long v] [] (.int (fsx (hsM v) 64 0)) := by
  refine Rd.ofW (by decide) (Nat.le_of_ble_eq_true rfl) ?_
  intro p e s m below meth c ls hx hb hml hr hown hts hlk hP hE hl
  have hl : lv_has ls 3 [(0, .long v)] := hl
  have J_2 : ∀ (n_ : Nat) (k : Nat) (hk : k ≤ 64) (hL : fsx (hsM v) 64 0 = fsx (hsM v) (64 - k) k) (hm_2 : 64 - k < n_), ∀ ls : Array Slot, lv_has ls 3 [(0, .long v), (2, .int (nI k))] → WR p l e (rmz 0 0) s m [.long v] below meth c (.int (fsx (hsM v) 64 0)) (F0 m 2 ls []) := by
    intro n_
    induction n_ with
    | zero =>
      intro k hk hL hm_2
      exact absurd hm_2 (Nat.not_lt_zero _)
    | succ n_ ih_2 =>
      intro k hk hL hm_2 ls hl
      refine lv_iload_n hx hb dX10_lowest_2 rfl (lv_at hl 1 rfl) ?_
      refine lv_bipush (v := 64) hx hb dX10_lowest_3 (by decide) ?_
      refine lv_icmp_ge (tgt := 26) hx hb dX10_lowest_5 (by decide) (fun c5 => ?_) (fun c5 => ?_)
      · have hkn : 64 ≤ k := le_of_le (n := 64) (by omega) (by omega) c5
        refine lv_bipush (v := -4) hx hb dX10_lowest_26 (by decide) ?_
        exact rd_iret hx hb hr hlk dX10_lowest_28 (by rw [hL, fsx_end hkn])
      · have hkn : k < 64 := lt_of_nle (n := 64) (by omega) (by omega) c5
        refine lv_lload_n hx hb dX10_lowest_8 rfl (lv_at hl 0 rfl) ?_
        refine lv_iload_n hx hb dX10_lowest_9 rfl (lv_at hl 1 rfl) ?_
        refine lv_lshr hx hb dX10_lowest_10 rfl ?_
        refine lv_lconst (v := 1) hx hb dX10_lowest_11 (by decide) ?_
        refine lv_land hx hb dX10_lowest_12 ?_
        refine lv_lconst (v := 1) hx hb dX10_lowest_13 (by decide) ?_
        refine W.lcmp hx hb dX10_lowest_14 ?_
        refine lv_if_ne (tgt := 20) hx hb dX10_lowest_15 (by decide) (fun c15 => ?_) (fun c15 => ?_)
        · have c15 := lgc_ne.mp c15
          have c15 : hsM v k = false := by simp [hsM, c15]
          refine lv_iinc (v := nI (k + 1)) (lv' := [(2, .int (nI (k + 1))), (0, .long v)]) hx hb dX10_lowest_20 hl (k := 1) rfl (nI_1 k) (by decide) rfl (fun ls hl => ?_)
          refine lv_goto (tgt := 2) hx hb dX10_lowest_23 (by decide) ?_
          exact ih_2 (k + 1) (by first | assumption | omega | rfl) (hL.trans (fsx_step hkn c15)) (by omega) ls (lv_sub hl [1, 0] rfl)
        · have c15 := lgc_eq.mp c15
          have c15 : hsM v k = true := by simp [hsM, c15]
          refine lv_iload_n hx hb dX10_lowest_18 rfl (lv_at hl 1 rfl) ?_
          exact rd_iret hx hb hr hlk dX10_lowest_19 (by rw [hL, fsx_hit hkn c15])
  refine lv_iconst (v := 0) hx hb dX10_lowest_0 (by decide) ?_
  refine lv_istore_n (lv' := [(2, .int 0), (0, .long v)]) hx hb dX10_lowest_1 rfl hl (by decide) rfl (fun ls hl => ?_)
  exact J_2 (64 - 0 + 1) 0 (by first | assumption | omega | rfl) rfl (Nat.lt_succ_self _) ls (lv_sub hl [1, 0] rfl)

set_option maxHeartbeats 4000000 in
set_option maxRecDepth 100000 in
theorem c_X10_manyIn (l : Launch) (G : Gv) (g : Int32)  : Rd l yX10_manyIn cX10_manyIn 3 (some .int) (rmz 0 0) G [.int g] [] (.int (miM g 10)) := by
  refine Rd.ofW (by decide) (Nat.le_of_ble_eq_true rfl) ?_
  intro p e s m below meth c ls hx hb hml hr hown hts hlk hP hE hl
  have hl : lv_has ls 3 [(0, .int g)] := hl
  have J_4 : ∀ (n_ : Nat) (k : Nat) (acc : Int32) (hk : k ≤ 10) (ha : acc = miM g k) (hm_4 : 10 - k < n_), ∀ ls : Array Slot, lv_has ls 3 [(0, .int g), (1, .int acc), (2, .int (nI k))] → WR p l e (rmz 0 0) s m [.int g] below meth c (.int (miM g 10)) (F0 m 4 ls []) := by
    intro n_
    induction n_ with
    | zero =>
      intro k acc hk ha hm_4
      exact absurd hm_4 (Nat.not_lt_zero _)
    | succ n_ ih_4 =>
      intro k acc hk ha hm_4 ls hl
      refine lv_iload_n hx hb dX10_manyIn_4 rfl (lv_at hl 2 rfl) ?_
      refine lv_bipush (v := 10) hx hb dX10_manyIn_5 (by decide) ?_
      refine lv_icmp_ge (tgt := 24) hx hb dX10_manyIn_7 (by decide) (fun c7 => ?_) (fun c7 => ?_)
      · have hkn : 10 ≤ k := le_of_le (n := 10) (by omega) (by omega) c7
        refine lv_iload_n hx hb dX10_manyIn_24 rfl (lv_at hl 1 rfl) ?_
        exact rd_iret hx hb hr hlk dX10_manyIn_25 (by rw [ha, show k = 10 by omega])
      · have hkn : k < 10 := lt_of_nle (n := 10) (by omega) (by omega) c7
        refine lv_iload_n hx hb dX10_manyIn_10 rfl (lv_at hl 1 rfl) ?_
        refine lv_iload_n hx hb dX10_manyIn_11 rfl (lv_at hl 0 rfl) ?_
        refine lv_iload_n hx hb dX10_manyIn_12 rfl (lv_at hl 2 rfl) ?_
        refine lv_ishr hx hb dX10_manyIn_13 ?_
        refine lv_iconst (v := 1) hx hb dX10_manyIn_14 (by decide) ?_
        refine lv_iand hx hb dX10_manyIn_15 ?_
        refine lv_iadd hx hb dX10_manyIn_16 ?_
        refine lv_istore_n (lv' := [(1, .int (acc + ((g >>> ((nI k) &&& 31)) &&& 1))), (0, .int g), (2, .int (nI k))]) hx hb dX10_manyIn_17 rfl hl (by decide) rfl (fun ls hl => ?_)
        refine lv_iinc (v := nI (k + 1)) (lv' := [(2, .int (nI (k + 1))), (1, .int (acc + ((g >>> ((nI k) &&& 31)) &&& 1))), (0, .int g)]) hx hb dX10_manyIn_18 hl (k := 2) rfl (nI_1 k) (by decide) rfl (fun ls hl => ?_)
        refine lv_goto (tgt := 4) hx hb dX10_manyIn_21 (by decide) ?_
        have ha0 := ha
        rw [miM] at ha0
        exact ih_4 (k + 1) (acc + ((g >>> ((nI k) &&& 31)) &&& 1)) (by first | assumption | omega | rfl) (by rw [miM, it_s]; simp only [← ha0]) (by omega) ls (lv_sub hl [2, 1, 0] rfl)
  refine lv_iconst (v := 0) hx hb dX10_manyIn_0 (by decide) ?_
  refine lv_istore_n (lv' := [(1, .int 0), (0, .int g)]) hx hb dX10_manyIn_1 rfl hl (by decide) rfl (fun ls hl => ?_)
  refine lv_iconst (v := 0) hx hb dX10_manyIn_2 (by decide) ?_
  refine lv_istore_n (lv' := [(2, .int 0), (1, .int 0), (0, .int g)]) hx hb dX10_manyIn_3 rfl hl (by decide) rfl (fun ls hl => ?_)
  exact J_4 (10 - 0 + 1) 0 0 (by first | assumption | omega | rfl) rfl (Nat.lt_succ_self _) ls (lv_sub hl [2, 1, 0] rfl)

set_option maxHeartbeats 4000000 in
set_option maxRecDepth 100000 in
theorem c_X10_beside (l : Launch) (G : Gv) (q0 : Nat) (q1 : Nat) (q2 : Nat) (q3 : Nat) (q4 : Nat) (q5 : Nat) (q6 : Nat) (q7 : Nat) (q8 : Nat) (q9 : Nat) (q10 : Nat) (q11 : Nat) (q12 : Nat) (q13 : Nat) (q14 : Nat) (tx : Nat → Int32) (ro : Nat → Int32) (co : Nat → Int32) (mp : Nat → Int32) (my : Nat → Int32) (md : Nat → Int32) (mr : Nat → Int32) (dr : Nat → Int32) (nw : Nat → Int32) (tk : Nat → Int32) (cs : Nat → Int32) (sa : Nat → Int32) (go : Nat → Int32) (to : Nat → Int32) (ty : Nat) (dm : Nat) (at_ : Nat) (so : Bool) (de : Nat) (ke : Nat) (sm : Nat) (nr : Nat) (nc : Nat) (x : Int32) (d : Int32) (hro : ro 0 = nI nr) (hco : co 0 = nI nc) (hg1 : 2 ≤ nr ∧ nr ≤ 8) (hg2 : 2 ≤ nc ∧ nc ≤ 8) : Rd l yX10_beside cX10_beside 5 (some .int) (rmz 1 22) G [.ref q0, .int x, .int d] [(q0, .inr (10, [.ref q1, .int (nI ty), .ref q2, .ref q3, .ref q4, .ref q5, .ref q6, .ref q7, .ref q8, .int (nI dm), .int (nI at_), .int (zb so), .ref q9, .int (nI de), .int (nI ke), .ref q10, .ref q11, .ref q12, .int (nI sm), .ref q13, .ref q14])), (q1, .inl (kB G, 200, .inl tx)), (q2, .inl (kI G, 2, .inl ro)), (q3, .inl (kI G, 2, .inl co)), (q4, .inl (kI G, 2, .inl mp)), (q5, .inl (kI G, 10, .inl my)), (q6, .inl (kI G, 10, .inl md)), (q7, .inl (kI G, 10, .inl mr)), (q8, .inl (kI G, 40, .inl dr)), (q9, .inl (kI G, 504, .inl nw)), (q10, .inl (kI G, 64, .inl tk)), (q11, .inl (kI G, 64, .inl cs)), (q12, .inl (kI G, 12, .inl sa)), (q13, .inl (kI G, 8, .inl go)), (q14, .inl (kI G, 2048, .inl to))] (.int (bsM nr nc x d)) := by
  refine Rd.ofW (by decide) (Nat.le_of_ble_eq_true rfl) ?_
  intro p e s m below meth c ls hx hb hml hr hown hts hlk hP hE hl
  have hl : lv_has ls 5 [(0, .ref q0), (1, .int x), (2, .int d)] := hl
  have J_56 : ∀ (rr : Int32) (cc2 : Int32) (err : rr = x / nI nc + (if d = 0 then -1 else if d = 1 then 1 else 0)) (ecc : cc2 = x - x / nI nc * nI nc + (if d = 2 then 1 else if d = 3 then -1 else 0)), ∀ ls : Array Slot, lv_has ls 5 [(0, .ref q0), (1, .int x), (2, .int d), (3, .int rr)] → WR p l e (rmz 1 22) s m [.ref q0, .int x, .int d] below meth c (.int (bsM nr nc x d)) (F0 m 56 ls [.int cc2]) := by
    intro rr cc2 err ecc ls hl
    refine lv_istore (lv' := [(4, .int cc2), (0, .ref q0), (1, .int x), (2, .int d), (3, .int rr)]) hx hb dX10_beside_56 hl (by decide) rfl (fun ls hl => ?_)
    refine lv_iload_n hx hb dX10_beside_58 rfl (lv_at hl 4 rfl) ?_
    refine lv_iconst (v := 0) hx hb dX10_beside_59 (by decide) ?_
    refine lv_aload_n hx hb dX10_beside_60 rfl (lv_at hl 1 rfl) ?_
    refine va_get hx hb hts inlX10 hown hE.1 hP 0 rfl rfl 2 (by decide) (fl_X10_13 hts) (fun _ h9 => h9) rfl dX10_beside_61 ?_
    refine lv_iconst (v := 0) hx hb dX10_beside_64 (by decide) ?_
    refine va_iald hx hb hE.1 hP 2 0 rfl rfl (inB_iff.mp (by decide)) dX10_beside_65 ?_
    rw [show (0 : Int32).toNatClampNeg = 0 from rfl]
    rw [hro]
    refine lv_iconst (v := 1) hx hb dX10_beside_66 (by decide) ?_
    refine lv_isub hx hb dX10_beside_67 ?_
    refine rd_callS (As := [.int rr, .int 0, .int ((nI nr) - 1)]) (rest := []) hx hb hml hown hts hE hl.1 (c_X10_in l G rr 0 ((nI nr) - 1) ) (cs_X10_61 hts) ⟨(Nat.le_of_ble_eq_true rfl), (Nat.le_of_ble_eq_true rfl)⟩ ⟨Nat.zero_le _, Nat.zero_le _⟩ rfl (sub_P hP [] rfl) rfl (Nat.le_of_ble_eq_true rfl) dX10_beside_68 ?_
    rw [inn_n (by omega)]
    refine lv_if_eq (tgt := 105) hx hb dX10_beside_71 (by decide) (fun c71 => ?_) (fun c71 => ?_)
    · have c71 := zb_0.mp c71
      refine lv_bipush (v := -4) hx hb dX10_beside_105 (by decide) ?_
      exact rd_iret hx hb hr hlk dX10_beside_107 (by simp [bsM, ← err, ← ecc, c71])
    · have c71 := zb_n0.mp c71
      refine lv_iload hx hb dX10_beside_74 (lv_at hl 0 rfl) ?_
      refine lv_iconst (v := 0) hx hb dX10_beside_76 (by decide) ?_
      refine lv_aload_n hx hb dX10_beside_77 rfl (lv_at hl 1 rfl) ?_
      refine va_get hx hb hts inlX10 hown hE.1 hP 0 rfl rfl 3 (by decide) (fl_X10_17 hts) (fun _ h9 => h9) rfl dX10_beside_78 ?_
      refine lv_iconst (v := 0) hx hb dX10_beside_81 (by decide) ?_
      refine va_iald hx hb hE.1 hP 3 0 rfl rfl (inB_iff.mp (by decide)) dX10_beside_82 ?_
      rw [show (0 : Int32).toNatClampNeg = 0 from rfl]
      rw [hco]
      refine lv_iconst (v := 1) hx hb dX10_beside_83 (by decide) ?_
      refine lv_isub hx hb dX10_beside_84 ?_
      refine rd_callS (As := [.int cc2, .int 0, .int ((nI nc) - 1)]) (rest := []) hx hb hml hown hts hE hl.1 (c_X10_in l G cc2 0 ((nI nc) - 1) ) (cs_X10_61 hts) ⟨(Nat.le_of_ble_eq_true rfl), (Nat.le_of_ble_eq_true rfl)⟩ ⟨Nat.zero_le _, Nat.zero_le _⟩ rfl (sub_P hP [] rfl) rfl (Nat.le_of_ble_eq_true rfl) dX10_beside_85 ?_
      rw [inn_n (by omega)]
      refine lv_if_eq (tgt := 105) hx hb dX10_beside_88 (by decide) (fun c88 => ?_) (fun c88 => ?_)
      · have c88 := zb_0.mp c88
        refine lv_bipush (v := -4) hx hb dX10_beside_105 (by decide) ?_
        exact rd_iret hx hb hr hlk dX10_beside_107 (by simp [bsM, ← err, ← ecc, c71, c88])
      · have c88 := zb_n0.mp c88
        refine lv_iload_n hx hb dX10_beside_91 rfl (lv_at hl 4 rfl) ?_
        refine lv_aload_n hx hb dX10_beside_92 rfl (lv_at hl 1 rfl) ?_
        refine va_get hx hb hts inlX10 hown hE.1 hP 0 rfl rfl 3 (by decide) (fl_X10_17 hts) (fun _ h9 => h9) rfl dX10_beside_93 ?_
        refine lv_iconst (v := 0) hx hb dX10_beside_96 (by decide) ?_
        refine va_iald hx hb hE.1 hP 3 0 rfl rfl (inB_iff.mp (by decide)) dX10_beside_97 ?_
        rw [show (0 : Int32).toNatClampNeg = 0 from rfl]
        rw [hco]
        refine lv_imul hx hb dX10_beside_98 ?_
        refine lv_iload hx hb dX10_beside_99 (lv_at hl 0 rfl) ?_
        refine lv_iadd hx hb dX10_beside_101 ?_
        refine lv_goto (tgt := 107) hx hb dX10_beside_102 (by decide) ?_
        exact rd_iret hx hb hr hlk dX10_beside_107 (by simp [bsM, ← err, ← ecc, c71, c88])
  have J_27 : ∀ (rr : Int32) (err : rr = x / nI nc + (if d = 0 then -1 else if d = 1 then 1 else 0)), ∀ ls : Array Slot, lv_has ls 5 [(0, .ref q0), (1, .int x), (2, .int d)] → WR p l e (rmz 1 22) s m [.ref q0, .int x, .int d] below meth c (.int (bsM nr nc x d)) (F0 m 27 ls [.int rr]) := by
    intro rr err ls hl
    refine lv_istore_n (lv' := [(3, .int rr), (0, .ref q0), (1, .int x), (2, .int d)]) hx hb dX10_beside_27 rfl hl (by decide) rfl (fun ls hl => ?_)
    refine lv_iload_n hx hb dX10_beside_28 rfl (lv_at hl 2 rfl) ?_
    refine lv_aload_n hx hb dX10_beside_29 rfl (lv_at hl 1 rfl) ?_
    refine va_get hx hb hts inlX10 hown hE.1 hP 0 rfl rfl 3 (by decide) (fl_X10_17 hts) (fun _ h9 => h9) rfl dX10_beside_30 ?_
    refine lv_iconst (v := 0) hx hb dX10_beside_33 (by decide) ?_
    refine va_iald hx hb hE.1 hP 3 0 rfl rfl (inB_iff.mp (by decide)) dX10_beside_34 ?_
    rw [show (0 : Int32).toNatClampNeg = 0 from rfl]
    rw [hco]
    refine lv_irem hx hb dX10_beside_35 (nc_ne hg2) ?_
    refine lv_iload_n hx hb dX10_beside_36 rfl (lv_at hl 3 rfl) ?_
    refine lv_iconst (v := 2) hx hb dX10_beside_37 (by decide) ?_
    refine lv_icmp_ne (tgt := 45) hx hb dX10_beside_38 (by decide) (fun c38 => ?_) (fun c38 => ?_)
    · refine lv_iload_n hx hb dX10_beside_45 rfl (lv_at hl 3 rfl) ?_
      refine lv_iconst (v := 3) hx hb dX10_beside_46 (by decide) ?_
      refine lv_icmp_ne (tgt := 54) hx hb dX10_beside_47 (by decide) (fun c47 => ?_) (fun c47 => ?_)
      · refine lv_iconst (v := 0) hx hb dX10_beside_54 (by decide) ?_
        refine lv_iadd hx hb dX10_beside_55 ?_
        exact J_56 rr ((x - x / (nI nc) * (nI nc)) + 0) err (by simp [c38, c47]) ls (lv_sub hl [1, 2, 3, 0] rfl)
      · refine lv_iconst (v := -1) hx hb dX10_beside_50 (by decide) ?_
        refine lv_goto (tgt := 55) hx hb dX10_beside_51 (by decide) ?_
        refine lv_iadd hx hb dX10_beside_55 ?_
        exact J_56 rr ((x - x / (nI nc) * (nI nc)) + (-1)) err (by simp [c38, c47]) ls (lv_sub hl [1, 2, 3, 0] rfl)
    · refine lv_iconst (v := 1) hx hb dX10_beside_41 (by decide) ?_
      refine lv_goto (tgt := 55) hx hb dX10_beside_42 (by decide) ?_
      refine lv_iadd hx hb dX10_beside_55 ?_
      exact J_56 rr ((x - x / (nI nc) * (nI nc)) + 1) err (by simp [c38]) ls (lv_sub hl [1, 2, 3, 0] rfl)
  refine lv_iload_n hx hb dX10_beside_0 rfl (lv_at hl 1 rfl) ?_
  refine lv_aload_n hx hb dX10_beside_1 rfl (lv_at hl 0 rfl) ?_
  refine va_get hx hb hts inlX10 hown hE.1 hP 0 rfl rfl 3 (by decide) (fl_X10_17 hts) (fun _ h9 => h9) rfl dX10_beside_2 ?_
  refine lv_iconst (v := 0) hx hb dX10_beside_5 (by decide) ?_
  refine va_iald hx hb hE.1 hP 3 0 rfl rfl (inB_iff.mp (by decide)) dX10_beside_6 ?_
  rw [show (0 : Int32).toNatClampNeg = 0 from rfl]
  rw [hco]
  refine lv_idiv hx hb dX10_beside_7 (nc_ne hg2) ?_
  refine lv_iload_n hx hb dX10_beside_8 rfl (lv_at hl 2 rfl) ?_
  refine lv_if_ne (tgt := 16) hx hb dX10_beside_9 (by decide) (fun c9 => ?_) (fun c9 => ?_)
  · refine lv_iload_n hx hb dX10_beside_16 rfl (lv_at hl 2 rfl) ?_
    refine lv_iconst (v := 1) hx hb dX10_beside_17 (by decide) ?_
    refine lv_icmp_ne (tgt := 25) hx hb dX10_beside_18 (by decide) (fun c18 => ?_) (fun c18 => ?_)
    · refine lv_iconst (v := 0) hx hb dX10_beside_25 (by decide) ?_
      refine lv_iadd hx hb dX10_beside_26 ?_
      exact J_27 ((x / (nI nc)) + 0) (by simp [c9, c18]) ls (lv_sub hl [0, 1, 2] rfl)
    · refine lv_iconst (v := 1) hx hb dX10_beside_21 (by decide) ?_
      refine lv_goto (tgt := 26) hx hb dX10_beside_22 (by decide) ?_
      refine lv_iadd hx hb dX10_beside_26 ?_
      exact J_27 ((x / (nI nc)) + 1) (by simp [c9, c18]) ls (lv_sub hl [0, 1, 2] rfl)
  · refine lv_iconst (v := -1) hx hb dX10_beside_12 (by decide) ?_
    refine lv_goto (tgt := 26) hx hb dX10_beside_13 (by decide) ?_
    refine lv_iadd hx hb dX10_beside_26 ?_
    exact J_27 ((x / (nI nc)) + (-1)) (by simp [c9]) ls (lv_sub hl [0, 1, 2] rfl)

set_option maxHeartbeats 4000000 in
set_option maxRecDepth 100000 in
theorem c_X10_apart (l : Launch) (G : Gv) (q0 : Nat) (q1 : Nat) (q2 : Nat) (q3 : Nat) (q4 : Nat) (q5 : Nat) (q6 : Nat) (q7 : Nat) (q8 : Nat) (q9 : Nat) (q10 : Nat) (q11 : Nat) (q12 : Nat) (q13 : Nat) (q14 : Nat) (tx : Nat → Int32) (ro : Nat → Int32) (co : Nat → Int32) (mp : Nat → Int32) (my : Nat → Int32) (md : Nat → Int32) (mr : Nat → Int32) (dr : Nat → Int32) (nw : Nat → Int32) (tk : Nat → Int32) (cs : Nat → Int32) (sa : Nat → Int32) (go : Nat → Int32) (to : Nat → Int32) (ty : Nat) (dm : Nat) (at_ : Nat) (so : Bool) (de : Nat) (ke : Nat) (sm : Nat) (nr : Nat) (nc : Nat) (x : Int32) (z : Int32) (hro : ro 0 = nI nr) (hco : co 0 = nI nc) (hg1 : 2 ≤ nr ∧ nr ≤ 8) (hg2 : 2 ≤ nc ∧ nc ≤ 8) : Rd l yX10_apart cX10_apart 5 (some .int) (rmz 0 0) G [.ref q0, .int x, .int z] [(q0, .inr (10, [.ref q1, .int (nI ty), .ref q2, .ref q3, .ref q4, .ref q5, .ref q6, .ref q7, .ref q8, .int (nI dm), .int (nI at_), .int (zb so), .ref q9, .int (nI de), .int (nI ke), .ref q10, .ref q11, .ref q12, .int (nI sm), .ref q13, .ref q14])), (q1, .inl (kB G, 200, .inl tx)), (q2, .inl (kI G, 2, .inl ro)), (q3, .inl (kI G, 2, .inl co)), (q4, .inl (kI G, 2, .inl mp)), (q5, .inl (kI G, 10, .inl my)), (q6, .inl (kI G, 10, .inl md)), (q7, .inl (kI G, 10, .inl mr)), (q8, .inl (kI G, 40, .inl dr)), (q9, .inl (kI G, 504, .inl nw)), (q10, .inl (kI G, 64, .inl tk)), (q11, .inl (kI G, 64, .inl cs)), (q12, .inl (kI G, 12, .inl sa)), (q13, .inl (kI G, 8, .inl go)), (q14, .inl (kI G, 2048, .inl to))] (.int (apM nc x z)) := by
  refine Rd.ofW (by decide) (Nat.le_of_ble_eq_true rfl) ?_
  intro p e s m below meth c ls hx hb hml hr hown hts hlk hP hE hl
  have hl : lv_has ls 5 [(0, .ref q0), (1, .int x), (2, .int z)] := hl
  refine lv_iload_n hx hb dX10_apart_0 rfl (lv_at hl 1 rfl) ?_
  refine lv_aload_n hx hb dX10_apart_1 rfl (lv_at hl 0 rfl) ?_
  refine va_get hx hb hts inlX10 hown hE.1 hP 0 rfl rfl 3 (by decide) (fl_X10_17 hts) (fun _ h9 => h9) rfl dX10_apart_2 ?_
  refine lv_iconst (v := 0) hx hb dX10_apart_5 (by decide) ?_
  refine va_iald hx hb hE.1 hP 3 0 rfl rfl (inB_iff.mp (by decide)) dX10_apart_6 ?_
  rw [show (0 : Int32).toNatClampNeg = 0 from rfl]
  rw [hco]
  refine lv_idiv hx hb dX10_apart_7 (nc_ne hg2) ?_
  refine lv_iload_n hx hb dX10_apart_8 rfl (lv_at hl 2 rfl) ?_
  refine lv_aload_n hx hb dX10_apart_9 rfl (lv_at hl 0 rfl) ?_
  refine va_get hx hb hts inlX10 hown hE.1 hP 0 rfl rfl 3 (by decide) (fl_X10_17 hts) (fun _ h9 => h9) rfl dX10_apart_10 ?_
  refine lv_iconst (v := 0) hx hb dX10_apart_13 (by decide) ?_
  refine va_iald hx hb hE.1 hP 3 0 rfl rfl (inB_iff.mp (by decide)) dX10_apart_14 ?_
  rw [show (0 : Int32).toNatClampNeg = 0 from rfl]
  rw [hco]
  refine lv_idiv hx hb dX10_apart_15 (nc_ne hg2) ?_
  refine lv_isub hx hb dX10_apart_16 ?_
  refine lv_istore_n (lv' := [(3, .int ((x / (nI nc)) - (z / (nI nc)))), (0, .ref q0), (1, .int x), (2, .int z)]) hx hb dX10_apart_17 rfl hl (by decide) rfl (fun ls hl => ?_)
  refine lv_iload_n hx hb dX10_apart_18 rfl (lv_at hl 2 rfl) ?_
  refine lv_aload_n hx hb dX10_apart_19 rfl (lv_at hl 1 rfl) ?_
  refine va_get hx hb hts inlX10 hown hE.1 hP 0 rfl rfl 3 (by decide) (fl_X10_17 hts) (fun _ h9 => h9) rfl dX10_apart_20 ?_
  refine lv_iconst (v := 0) hx hb dX10_apart_23 (by decide) ?_
  refine va_iald hx hb hE.1 hP 3 0 rfl rfl (inB_iff.mp (by decide)) dX10_apart_24 ?_
  rw [show (0 : Int32).toNatClampNeg = 0 from rfl]
  rw [hco]
  refine lv_irem hx hb dX10_apart_25 (nc_ne hg2) ?_
  refine lv_iload_n hx hb dX10_apart_26 rfl (lv_at hl 3 rfl) ?_
  refine lv_aload_n hx hb dX10_apart_27 rfl (lv_at hl 1 rfl) ?_
  refine va_get hx hb hts inlX10 hown hE.1 hP 0 rfl rfl 3 (by decide) (fl_X10_17 hts) (fun _ h9 => h9) rfl dX10_apart_28 ?_
  refine lv_iconst (v := 0) hx hb dX10_apart_31 (by decide) ?_
  refine va_iald hx hb hE.1 hP 3 0 rfl rfl (inB_iff.mp (by decide)) dX10_apart_32 ?_
  rw [show (0 : Int32).toNatClampNeg = 0 from rfl]
  rw [hco]
  refine lv_irem hx hb dX10_apart_33 (nc_ne hg2) ?_
  refine lv_isub hx hb dX10_apart_34 ?_
  refine lv_istore (lv' := [(4, .int ((x - x / (nI nc) * (nI nc)) - (z - z / (nI nc) * (nI nc)))), (3, .int ((x / (nI nc)) - (z / (nI nc)))), (0, .ref q0), (1, .int x), (2, .int z)]) hx hb dX10_apart_35 hl (by decide) rfl (fun ls hl => ?_)
  refine lv_iload_n hx hb dX10_apart_37 rfl (lv_at hl 1 rfl) ?_
  refine lv_if_ge (tgt := 46) hx hb dX10_apart_38 (by decide) (fun c38 => ?_) (fun c38 => ?_)
  · refine lv_iload_n hx hb dX10_apart_46 rfl (lv_at hl 1 rfl) ?_
    refine lv_iload hx hb dX10_apart_47 (lv_at hl 0 rfl) ?_
    refine lv_if_ge (tgt := 58) hx hb dX10_apart_49 (by decide) (fun c49 => ?_) (fun c49 => ?_)
    · refine lv_iload hx hb dX10_apart_58 (lv_at hl 0 rfl) ?_
      refine lv_iadd hx hb dX10_apart_60 ?_
      exact rd_iret hx hb hr hlk dX10_apart_61 (by first | rfl | (simp [zb, c38, c49, apM, abM]; done))
    · refine lv_iload hx hb dX10_apart_52 (lv_at hl 0 rfl) ?_
      refine lv_ineg hx hb dX10_apart_54 ?_
      refine lv_goto (tgt := 60) hx hb dX10_apart_55 (by decide) ?_
      refine lv_iadd hx hb dX10_apart_60 ?_
      exact rd_iret hx hb hr hlk dX10_apart_61 (by first | rfl | (simp [zb, c38, c49, apM, abM]; done))
  · refine lv_iload_n hx hb dX10_apart_41 rfl (lv_at hl 1 rfl) ?_
    refine lv_ineg hx hb dX10_apart_42 ?_
    refine lv_goto (tgt := 47) hx hb dX10_apart_43 (by decide) ?_
    refine lv_iload hx hb dX10_apart_47 (lv_at hl 0 rfl) ?_
    refine lv_if_ge (tgt := 58) hx hb dX10_apart_49 (by decide) (fun c49 => ?_) (fun c49 => ?_)
    · refine lv_iload hx hb dX10_apart_58 (lv_at hl 0 rfl) ?_
      refine lv_iadd hx hb dX10_apart_60 ?_
      exact rd_iret hx hb hr hlk dX10_apart_61 (by first | rfl | (simp [zb, c38, c49, apM, abM]; done))
    · refine lv_iload hx hb dX10_apart_52 (lv_at hl 0 rfl) ?_
      refine lv_ineg hx hb dX10_apart_54 ?_
      refine lv_goto (tgt := 60) hx hb dX10_apart_55 (by decide) ?_
      refine lv_iadd hx hb dX10_apart_60 ?_
      exact rd_iret hx hb hr hlk dX10_apart_61 (by first | rfl | (simp [zb, c38, c49, apM, abM]; done))

set_option maxHeartbeats 4000000 in
set_option maxRecDepth 100000 in
theorem c_X10_shown (l : Launch) (G : Gv) (q0 : Nat) (q1 : Nat) (q2 : Nat) (q3 : Nat) (q4 : Nat) (q5 : Nat) (q6 : Nat) (q7 : Nat) (q8 : Nat) (q9 : Nat) (q10 : Nat) (q11 : Nat) (q12 : Nat) (q13 : Nat) (q14 : Nat) (tx : Nat → Int32) (ro : Nat → Int32) (co : Nat → Int32) (mp : Nat → Int32) (my : Nat → Int32) (md : Nat → Int32) (mr : Nat → Int32) (dr : Nat → Int32) (nw : Nat → Int32) (tk : Nat → Int32) (cs : Nat → Int32) (sa : Nat → Int32) (go : Nat → Int32) (to : Nat → Int32) (ty : Nat) (dm : Nat) (at_ : Nat) (so : Bool) (de : Nat) (ke : Nat) (sm : Nat) (nr : Nat) (nc : Nat) (n : Nat) (j : Nat) (hro : ro 0 = nI nr) (hco : co 0 = nI nc) (hg1 : 2 ≤ nr ∧ nr ≤ 8) (hg2 : 2 ≤ nc ∧ nc ≤ 8) (hn1 : nw 1 = nI n) (hn : n ≤ 10) (hj : j < 10) : Rd l yX10_shown cX10_shown 2 (some .long) (rmz 2 52) G [.ref q0, .int (nI j)] [(q0, .inr (10, [.ref q1, .int (nI ty), .ref q2, .ref q3, .ref q4, .ref q5, .ref q6, .ref q7, .ref q8, .int (nI dm), .int (nI at_), .int (zb so), .ref q9, .int (nI de), .int (nI ke), .ref q10, .ref q11, .ref q12, .int (nI sm), .ref q13, .ref q14])), (q1, .inl (kB G, 200, .inl tx)), (q2, .inl (kI G, 2, .inl ro)), (q3, .inl (kI G, 2, .inl co)), (q4, .inl (kI G, 2, .inl mp)), (q5, .inl (kI G, 10, .inl my)), (q6, .inl (kI G, 10, .inl md)), (q7, .inl (kI G, 10, .inl mr)), (q8, .inl (kI G, 40, .inl dr)), (q9, .inl (kI G, 504, .inl nw)), (q10, .inl (kI G, 64, .inl tk)), (q11, .inl (kI G, 64, .inl cs)), (q12, .inl (kI G, 12, .inl sa)), (q13, .inl (kI G, 8, .inl go)), (q14, .inl (kI G, 2048, .inl to))] (.long (swM nr nc nw my md mr n j)) := by
  refine Rd.ofW (by decide) (Nat.le_of_ble_eq_true rfl) ?_
  intro p e s m below meth c ls hx hb hml hr hown hts hlk hP hE hl
  have hl : lv_has ls 2 [(0, .ref q0), (1, .int (nI j))] := hl
  refine lv_aload_n hx hb dX10_shown_0 rfl (lv_at hl 0 rfl) ?_
  refine lv_aload_n hx hb dX10_shown_1 rfl (lv_at hl 0 rfl) ?_
  refine lv_iconst (v := 0) hx hb dX10_shown_2 (by decide) ?_
  refine lv_aload_n hx hb dX10_shown_3 rfl (lv_at hl 0 rfl) ?_
  refine va_get hx hb hts inlX10 hown hE.1 hP 0 rfl rfl 5 (by decide) (fl_X10_23 hts) (fun _ h9 => h9) rfl dX10_shown_4 ?_
  refine lv_iload_n hx hb dX10_shown_7 rfl (lv_at hl 1 rfl) ?_
  refine va_iald hx hb hE.1 hP 5 0 rfl rfl (vp_in_nI (by omega) (by omega)) dX10_shown_8 ?_
  rw [nI_clamp (show j < 2 ^ 31 by omega)]
  refine rd_callV (As := [.int 0, .int (my j)]) (rest := [.ref q0]) hx hb hml hown hts hE hl.1 (c_X10_trueTo l G q0 q1 q2 q3 q4 q5 q6 q7 q8 q9 q10 q11 q12 q13 q14 tx ro co mp my md mr dr nw tk cs sa go to ty dm at_ so de ke sm 0 n nr nc (my j) (by decide) (by first | assumption | omega) (by first | assumption | omega) (by first | assumption | omega) (by first | assumption | omega) (by first | assumption | omega) (by first | assumption | omega)) (cw_X10_126 hts) ⟨(Nat.le_of_ble_eq_true rfl), (Nat.le_of_ble_eq_true rfl)⟩ ⟨Nat.zero_le _, Nat.zero_le _⟩ rfl (sub_P hP [0, 1, 2, 3, 4, 5, 6, 7, 8, 9, 10, 11, 12, 13, 14] rfl) rfl rfl rfl rfl (Nat.le_of_ble_eq_true rfl) dX10_shown_9 ?_
  refine lv_aload_n hx hb dX10_shown_12 rfl (lv_at hl 0 rfl) ?_
  refine va_get hx hb hts inlX10 hown hE.1 hP 0 rfl rfl 6 (by decide) (fl_X10_26 hts) (fun _ h9 => h9) rfl dX10_shown_13 ?_
  refine lv_iload_n hx hb dX10_shown_16 rfl (lv_at hl 1 rfl) ?_
  refine va_iald hx hb hE.1 hP 6 0 rfl rfl (vp_in_nI (by omega) (by omega)) dX10_shown_17 ?_
  rw [nI_clamp (show j < 2 ^ 31 by omega)]
  refine lv_aload_n hx hb dX10_shown_18 rfl (lv_at hl 0 rfl) ?_
  refine va_get hx hb hts inlX10 hown hE.1 hP 0 rfl rfl 7 (by decide) (fl_X10_29 hts) (fun _ h9 => h9) rfl dX10_shown_19 ?_
  refine lv_iload_n hx hb dX10_shown_22 rfl (lv_at hl 1 rfl) ?_
  refine va_iald hx hb hE.1 hP 7 0 rfl rfl (vp_in_nI (by omega) (by omega)) dX10_shown_23 ?_
  rw [nI_clamp (show j < 2 ^ 31 by omega)]
  refine rd_callV (As := [.long (drM nc (cel nw 0) (fal nw 0) (kin nw 0) (my j) n), .int (md j), .int (mr j)]) (rest := []) hx hb hml hown hts hE hl.1 (c_X10_byHand l G q0 q1 q2 q3 q4 q5 q6 q7 q8 q9 q10 q11 q12 q13 q14 tx ro co mp my md mr dr nw tk cs sa go to ty dm at_ so de ke sm nr nc (drM nc (cel nw 0) (fal nw 0) (kin nw 0) (my j) n) (md j) (mr j) (by first | assumption | omega) (by first | assumption | omega) (by first | assumption | omega) (by first | assumption | omega)) (cw_X10_129 hts) ⟨(Nat.le_of_ble_eq_true rfl), (Nat.le_of_ble_eq_true rfl)⟩ ⟨Nat.zero_le _, Nat.zero_le _⟩ rfl (sub_P hP [0, 1, 2, 3, 4, 5, 6, 7, 8, 9, 10, 11, 12, 13, 14] rfl) rfl rfl rfl rfl (Nat.le_of_ble_eq_true rfl) dX10_shown_24 ?_
  exact rd_lret hx hb hr hlk dX10_shown_27 (by first | rfl | (simp [zb]; done))

set_option maxHeartbeats 4000000 in
set_option maxRecDepth 100000 in
theorem c_X10_copy (l : Launch) (G : Gv) (q0 : Nat) (q1 : Nat) (q2 : Nat) (q3 : Nat) (q4 : Nat) (q5 : Nat) (q6 : Nat) (q7 : Nat) (q8 : Nat) (q9 : Nat) (q10 : Nat) (q11 : Nat) (q12 : Nat) (q13 : Nat) (q14 : Nat) (tx : Nat → Int32) (ro : Nat → Int32) (co : Nat → Int32) (mp : Nat → Int32) (my : Nat → Int32) (md : Nat → Int32) (mr : Nat → Int32) (dr : Nat → Int32) (nw : Nat → Int32) (tk : Nat → Int32) (cs : Nat → Int32) (sa : Nat → Int32) (go : Nat → Int32) (to : Nat → Int32) (ty : Nat) (dm : Nat) (at_ : Nat) (so : Bool) (de : Nat) (ke : Nat) (sm : Nat) (fa : Nat) (fb : Nat) (hfa : fa ≤ 462) (hfb : fb ≤ 462) : Ct l yX10_copy cX10_copy 4 none (rmz 0 0) G [.ref q0, .int (nI fa), .int (nI fb)] [(q0, .inr (10, [.ref q1, .int (nI ty), .ref q2, .ref q3, .ref q4, .ref q5, .ref q6, .ref q7, .ref q8, .int (nI dm), .int (nI at_), .int (zb so), .ref q9, .int (nI de), .int (nI ke), .ref q10, .ref q11, .ref q12, .int (nI sm), .ref q13, .ref q14])), (q1, .inl (kB G, 200, .inl tx)), (q2, .inl (kI G, 2, .inl ro)), (q3, .inl (kI G, 2, .inl co)), (q4, .inl (kI G, 2, .inl mp)), (q5, .inl (kI G, 10, .inl my)), (q6, .inl (kI G, 10, .inl md)), (q7, .inl (kI G, 10, .inl mr)), (q8, .inl (kI G, 40, .inl dr)), (q9, .inl (kI G, 504, .inl nw)), (q10, .inl (kI G, 64, .inl tk)), (q11, .inl (kI G, 64, .inl cs)), (q12, .inl (kI G, 12, .inl sa)), (q13, .inl (kI G, 8, .inl go)), (q14, .inl (kI G, 2048, .inl to))] (one none [(q0, .inr (10, [.ref q1, .int (nI ty), .ref q2, .ref q3, .ref q4, .ref q5, .ref q6, .ref q7, .ref q8, .int (nI dm), .int (nI at_), .int (zb so), .ref q9, .int (nI de), .int (nI ke), .ref q10, .ref q11, .ref q12, .int (nI sm), .ref q13, .ref q14])), (q1, .inl (kB G, 200, .inl tx)), (q2, .inl (kI G, 2, .inl ro)), (q3, .inl (kI G, 2, .inl co)), (q4, .inl (kI G, 2, .inl mp)), (q5, .inl (kI G, 10, .inl my)), (q6, .inl (kI G, 10, .inl md)), (q7, .inl (kI G, 10, .inl mr)), (q8, .inl (kI G, 40, .inl dr)), (q9, .inl (kI G, 504, .inl (cpM nw fa fb 42))), (q10, .inl (kI G, 64, .inl tk)), (q11, .inl (kI G, 64, .inl cs)), (q12, .inl (kI G, 12, .inl sa)), (q13, .inl (kI G, 8, .inl go)), (q14, .inl (kI G, 2048, .inl to))]) := by
  refine Ct.ofW (by decide) (Nat.le_of_ble_eq_true rfl) ?_
  intro p e s m below meth c ls A hx hb hml hr hown hts hlk hnm hP hD hA hE hS hl
  obtain ⟨H, eH⟩ : ∃ H : Heap, H = s.heap := ⟨_, rfl⟩
  obtain ⟨locs, eL⟩ : ∃ ll : List Loc, ll = [] := ⟨_, rfl⟩
  rw [← eH] at hP
  have hS : va_S A s.heap H locs := by rw [eH, eL]; exact hS
  show WC p l e _ s m _ below meth c G A _ s.heap [] 0 0 _
  rw [← eH, ← eL]
  clear eH eL
  have hl : lv_has ls 4 [(0, .ref q0), (1, .int (nI fa)), (2, .int (nI fb))] := hl
  have J_2 : ∀ (n_ : Nat) (k : Nat) (N1 : Nat → Int32) (hk : k ≤ 42) (ha : N1 = cpM nw fa fb k) (hm_2 : 42 - k < n_), ∀ (H : Heap) (locs : List Loc), va_P G.1 vwCl [(q0, .inr (10, [.ref q1, .int (nI ty), .ref q2, .ref q3, .ref q4, .ref q5, .ref q6, .ref q7, .ref q8, .int (nI dm), .int (nI at_), .int (zb so), .ref q9, .int (nI de), .int (nI ke), .ref q10, .ref q11, .ref q12, .int (nI sm), .ref q13, .ref q14])), (q1, .inl (kB G, 200, .inl tx)), (q2, .inl (kI G, 2, .inl ro)), (q3, .inl (kI G, 2, .inl co)), (q4, .inl (kI G, 2, .inl mp)), (q5, .inl (kI G, 10, .inl my)), (q6, .inl (kI G, 10, .inl md)), (q7, .inl (kI G, 10, .inl mr)), (q8, .inl (kI G, 40, .inl dr)), (q9, .inl (kI G, 504, .inl N1)), (q10, .inl (kI G, 64, .inl tk)), (q11, .inl (kI G, 64, .inl cs)), (q12, .inl (kI G, 12, .inl sa)), (q13, .inl (kI G, 8, .inl go)), (q14, .inl (kI G, 2048, .inl to))] H → va_D A [(q0, .inr (10, [.ref q1, .int (nI ty), .ref q2, .ref q3, .ref q4, .ref q5, .ref q6, .ref q7, .ref q8, .int (nI dm), .int (nI at_), .int (zb so), .ref q9, .int (nI de), .int (nI ke), .ref q10, .ref q11, .ref q12, .int (nI sm), .ref q13, .ref q14])), (q1, .inl (kB G, 200, .inl tx)), (q2, .inl (kI G, 2, .inl ro)), (q3, .inl (kI G, 2, .inl co)), (q4, .inl (kI G, 2, .inl mp)), (q5, .inl (kI G, 10, .inl my)), (q6, .inl (kI G, 10, .inl md)), (q7, .inl (kI G, 10, .inl mr)), (q8, .inl (kI G, 40, .inl dr)), (q9, .inl (kI G, 504, .inl N1)), (q10, .inl (kI G, 64, .inl tk)), (q11, .inl (kI G, 64, .inl cs)), (q12, .inl (kI G, 12, .inl sa)), (q13, .inl (kI G, 8, .inl go)), (q14, .inl (kI G, 2048, .inl to))] → va_S A s.heap H locs → ∀ ls : Array Slot, lv_has ls 4 [(0, .ref q0), (1, .int (nI fa)), (2, .int (nI fb)), (3, .int (nI k))] → WC p l e (rmz 0 0) s m [.ref q0, .int (nI fa), .int (nI fb)] below meth c G A (one none [(q0, .inr (10, [.ref q1, .int (nI ty), .ref q2, .ref q3, .ref q4, .ref q5, .ref q6, .ref q7, .ref q8, .int (nI dm), .int (nI at_), .int (zb so), .ref q9, .int (nI de), .int (nI ke), .ref q10, .ref q11, .ref q12, .int (nI sm), .ref q13, .ref q14])), (q1, .inl (kB G, 200, .inl tx)), (q2, .inl (kI G, 2, .inl ro)), (q3, .inl (kI G, 2, .inl co)), (q4, .inl (kI G, 2, .inl mp)), (q5, .inl (kI G, 10, .inl my)), (q6, .inl (kI G, 10, .inl md)), (q7, .inl (kI G, 10, .inl mr)), (q8, .inl (kI G, 40, .inl dr)), (q9, .inl (kI G, 504, .inl (cpM nw fa fb 42))), (q10, .inl (kI G, 64, .inl tk)), (q11, .inl (kI G, 64, .inl cs)), (q12, .inl (kI G, 12, .inl sa)), (q13, .inl (kI G, 8, .inl go)), (q14, .inl (kI G, 2048, .inl to))]) H locs 0 0 (F0 m 2 ls []) := by
    intro n_
    induction n_ with
    | zero =>
      intro k N1 hk ha hm_2
      exact absurd hm_2 (Nat.not_lt_zero _)
    | succ n_ ih_2 =>
      intro k N1 hk ha hm_2 H locs hP hD hS ls hl
      refine lv_iload_n hx hb dX10_copy_2 rfl (lv_at hl 3 rfl) ?_
      refine lv_bipush (v := 42) hx hb dX10_copy_3 (by decide) ?_
      refine lv_icmp_ge (tgt := 30) hx hb dX10_copy_5 (by decide) (fun c5 => ?_) (fun c5 => ?_)
      · have hkn : 42 ≤ k := le_of_le (n := 42) (by omega) (by omega) c5
        exact ct_vret hx hb hr hlk dX10_copy_30 hP hD hS (by exact ⟨rfl, by rw [ha, show k = 42 by omega]⟩)
      · have hkn : k < 42 := lt_of_nle (n := 42) (by omega) (by omega) c5
        refine lv_aload_n hx hb dX10_copy_8 rfl (lv_at hl 0 rfl) ?_
        refine va_get hx hb hts inlX10 hown hE.1 hP 0 rfl rfl 12 (by decide) (fl_X10_35 hts) (fun _ h9 => h9) rfl dX10_copy_9 ?_
        refine lv_iload_n hx hb dX10_copy_12 rfl (lv_at hl 2 rfl) ?_
        refine lv_iload_n hx hb dX10_copy_13 rfl (lv_at hl 3 rfl) ?_
        refine lv_iadd hx hb dX10_copy_14 ?_
        rw [show (nI fb) + (nI k) = nI (fb + k) from nI_add fb k]
        refine lv_aload_n hx hb dX10_copy_15 rfl (lv_at hl 0 rfl) ?_
        refine va_get hx hb hts inlX10 hown hE.1 hP 0 rfl rfl 12 (by decide) (fl_X10_35 hts) (fun _ h9 => h9) rfl dX10_copy_16 ?_
        refine lv_iload_n hx hb dX10_copy_19 rfl (lv_at hl 1 rfl) ?_
        refine lv_iload_n hx hb dX10_copy_20 rfl (lv_at hl 3 rfl) ?_
        refine lv_iadd hx hb dX10_copy_21 ?_
        rw [show (nI fa) + (nI k) = nI (fa + k) from nI_add fa k]
        refine va_iald hx hb hE.1 hP 9 0 rfl rfl (vp_in_nI (by omega) (by omega)) dX10_copy_22 ?_
        rw [nI_clamp (show fa + k < 2 ^ 31 by omega)]
        refine va_iast hx hb hE.1 hP hD hS 9 0 rfl rfl (vp_in_nI (by omega) (by omega)) dX10_copy_23 (fun H locs hP hD hS => ?_)
        rw [nI_clamp (show fb + k < 2 ^ 31 by omega)] at hP hD
        have hP : va_P G.1 vwCl [(q0, .inr (10, [.ref q1, .int (nI ty), .ref q2, .ref q3, .ref q4, .ref q5, .ref q6, .ref q7, .ref q8, .int (nI dm), .int (nI at_), .int (zb so), .ref q9, .int (nI de), .int (nI ke), .ref q10, .ref q11, .ref q12, .int (nI sm), .ref q13, .ref q14])), (q1, .inl (kB G, 200, .inl tx)), (q2, .inl (kI G, 2, .inl ro)), (q3, .inl (kI G, 2, .inl co)), (q4, .inl (kI G, 2, .inl mp)), (q5, .inl (kI G, 10, .inl my)), (q6, .inl (kI G, 10, .inl md)), (q7, .inl (kI G, 10, .inl mr)), (q8, .inl (kI G, 40, .inl dr)), (q9, .inl (kI G, 504, .inl (upd N1 (fb + k) (N1 (fa + k))))), (q10, .inl (kI G, 64, .inl tk)), (q11, .inl (kI G, 64, .inl cs)), (q12, .inl (kI G, 12, .inl sa)), (q13, .inl (kI G, 8, .inl go)), (q14, .inl (kI G, 2048, .inl to))] H := hP
        have hD : va_D A [(q0, .inr (10, [.ref q1, .int (nI ty), .ref q2, .ref q3, .ref q4, .ref q5, .ref q6, .ref q7, .ref q8, .int (nI dm), .int (nI at_), .int (zb so), .ref q9, .int (nI de), .int (nI ke), .ref q10, .ref q11, .ref q12, .int (nI sm), .ref q13, .ref q14])), (q1, .inl (kB G, 200, .inl tx)), (q2, .inl (kI G, 2, .inl ro)), (q3, .inl (kI G, 2, .inl co)), (q4, .inl (kI G, 2, .inl mp)), (q5, .inl (kI G, 10, .inl my)), (q6, .inl (kI G, 10, .inl md)), (q7, .inl (kI G, 10, .inl mr)), (q8, .inl (kI G, 40, .inl dr)), (q9, .inl (kI G, 504, .inl (upd N1 (fb + k) (N1 (fa + k))))), (q10, .inl (kI G, 64, .inl tk)), (q11, .inl (kI G, 64, .inl cs)), (q12, .inl (kI G, 12, .inl sa)), (q13, .inl (kI G, 8, .inl go)), (q14, .inl (kI G, 2048, .inl to))] := hD
        refine lv_iinc (v := nI (k + 1)) (lv' := [(3, .int (nI (k + 1))), (0, .ref q0), (1, .int (nI fa)), (2, .int (nI fb))]) hx hb dX10_copy_24 hl (k := 3) rfl (nI_1 k) (by decide) rfl (fun ls hl => ?_)
        refine lv_goto (tgt := 2) hx hb dX10_copy_27 (by decide) ?_
        have ha0 := ha
        rw [cpM] at ha0
        exact ih_2 (k + 1) (upd N1 (fb + k) (N1 (fa + k))) (by first | assumption | omega | rfl) (by rw [cpM, it_s]; simp only [← ha0]) (by omega) _ _ hP hD hS ls (lv_sub hl [1, 2, 3, 0] rfl)
  refine lv_iconst (v := 0) hx hb dX10_copy_0 (by decide) ?_
  refine lv_istore_n (lv' := [(3, .int 0), (0, .ref q0), (1, .int (nI fa)), (2, .int (nI fb))]) hx hb dX10_copy_1 rfl hl (by decide) rfl (fun ls hl => ?_)
  exact J_2 (42 - 0 + 1) 0 nw (by first | assumption | omega | rfl) rfl (Nat.lt_succ_self _) _ _ hP hD hS ls (lv_sub hl [1, 2, 3, 0] rfl)

set_option maxHeartbeats 4000000 in
set_option maxRecDepth 100000 in
theorem c_X10_know_y (l : Launch) (G : Gv) (q0 : Nat) (q1 : Nat) (q2 : Nat) (q3 : Nat) (q4 : Nat) (q5 : Nat) (q6 : Nat) (q7 : Nat) (q8 : Nat) (q9 : Nat) (q10 : Nat) (q11 : Nat) (q12 : Nat) (q13 : Nat) (q14 : Nat) (tx : Nat → Int32) (ro : Nat → Int32) (co : Nat → Int32) (mp : Nat → Int32) (my : Nat → Int32) (md : Nat → Int32) (mr : Nat → Int32) (dr : Nat → Int32) (nw : Nat → Int32) (tk : Nat → Int32) (cs : Nat → Int32) (sa : Nat → Int32) (go : Nat → Int32) (to : Nat → Int32) (ty : Nat) (dm : Nat) (at_ : Nat) (so : Bool) (de : Nat) (ke : Nat) (sm : Nat) (hde : de ≤ 8) (hd8 : de < 8) : Ct l yX10_know cX10_know 2 none (rmz 1 23) G [.ref q0] [(q0, .inr (10, [.ref q1, .int (nI ty), .ref q2, .ref q3, .ref q4, .ref q5, .ref q6, .ref q7, .ref q8, .int (nI dm), .int (nI at_), .int (zb so), .ref q9, .int (nI de), .int (nI ke), .ref q10, .ref q11, .ref q12, .int (nI sm), .ref q13, .ref q14])), (q1, .inl (kB G, 200, .inl tx)), (q2, .inl (kI G, 2, .inl ro)), (q3, .inl (kI G, 2, .inl co)), (q4, .inl (kI G, 2, .inl mp)), (q5, .inl (kI G, 10, .inl my)), (q6, .inl (kI G, 10, .inl md)), (q7, .inl (kI G, 10, .inl mr)), (q8, .inl (kI G, 40, .inl dr)), (q9, .inl (kI G, 504, .inl nw)), (q10, .inl (kI G, 64, .inl tk)), (q11, .inl (kI G, 64, .inl cs)), (q12, .inl (kI G, 12, .inl sa)), (q13, .inl (kI G, 8, .inl go)), (q14, .inl (kI G, 2048, .inl to))] (one none [(q0, .inr (10, [.ref q1, .int (nI ty), .ref q2, .ref q3, .ref q4, .ref q5, .ref q6, .ref q7, .ref q8, .int (nI dm), .int (nI at_), .int (zb so), .ref q9, .int (nI (de + 1)), .int (nI ke), .ref q10, .ref q11, .ref q12, .int (nI sm), .ref q13, .ref q14])), (q1, .inl (kB G, 200, .inl tx)), (q2, .inl (kI G, 2, .inl ro)), (q3, .inl (kI G, 2, .inl co)), (q4, .inl (kI G, 2, .inl mp)), (q5, .inl (kI G, 10, .inl my)), (q6, .inl (kI G, 10, .inl md)), (q7, .inl (kI G, 10, .inl mr)), (q8, .inl (kI G, 40, .inl dr)), (q9, .inl (kI G, 504, .inl (cpM nw 0 (42 + 42 * de) 42))), (q10, .inl (kI G, 64, .inl tk)), (q11, .inl (kI G, 64, .inl cs)), (q12, .inl (kI G, 12, .inl sa)), (q13, .inl (kI G, 8, .inl go)), (q14, .inl (kI G, 2048, .inl to))]) := by
  refine Ct.ofW (by decide) (Nat.le_of_ble_eq_true rfl) ?_
  intro p e s m below meth c ls A hx hb hml hr hown hts hlk hnm hP hD hA hE hS hl
  obtain ⟨H, eH⟩ : ∃ H : Heap, H = s.heap := ⟨_, rfl⟩
  obtain ⟨locs, eL⟩ : ∃ ll : List Loc, ll = [] := ⟨_, rfl⟩
  rw [← eH] at hP
  have hS : va_S A s.heap H locs := by rw [eH, eL]; exact hS
  show WC p l e _ s m _ below meth c G A _ s.heap [] 0 0 _
  rw [← eH, ← eL]
  clear eH eL
  have hl : lv_has ls 2 [(0, .ref q0)] := hl
  refine lv_aload_n hx hb dX10_know_0 rfl (lv_at hl 0 rfl) ?_
  refine va_get hx hb hts inlX10 hown hE.1 hP 0 rfl rfl 13 (by decide) (fl_X10_97 hts) (fun _ h9 => h9) rfl dX10_know_1 ?_
  refine lv_bipush (v := 8) hx hb dX10_know_4 (by decide) ?_
  refine lv_icmp_ne (tgt := 52) hx hb dX10_know_6 (by decide) (fun c6 => ?_) (fun c6 => ?_)
  · refine lv_aload_n hx hb dX10_know_52 rfl (lv_at hl 0 rfl) ?_
    refine lv_iconst (v := 0) hx hb dX10_know_53 (by decide) ?_
    refine lv_bipush (v := 42) hx hb dX10_know_54 (by decide) ?_
    refine lv_bipush (v := 42) hx hb dX10_know_56 (by decide) ?_
    refine lv_aload_n hx hb dX10_know_58 rfl (lv_at hl 0 rfl) ?_
    refine va_get hx hb hts inlX10 hown hE.1 hP 0 rfl rfl 13 (by decide) (fl_X10_97 hts) (fun _ h9 => h9) rfl dX10_know_59 ?_
    refine lv_imul hx hb dX10_know_62 ?_
    rw [show (42 : Int32) * (nI de) = nI (42 * de) from pk_mul 42 de]
    refine lv_iadd hx hb dX10_know_63 ?_
    rw [show (42 : Int32) + (nI (42 * de)) = nI (42 + (42 * de)) from nI_add 42 (42 * de)]
    refine ct_callV (w1 := [(q0, .inr (10, [.ref q1, .int (nI ty), .ref q2, .ref q3, .ref q4, .ref q5, .ref q6, .ref q7, .ref q8, .int (nI dm), .int (nI at_), .int (zb so), .ref q9, .int (nI de), .int (nI ke), .ref q10, .ref q11, .ref q12, .int (nI sm), .ref q13, .ref q14])), (q1, .inl (kB G, 200, .inl tx)), (q2, .inl (kI G, 2, .inl ro)), (q3, .inl (kI G, 2, .inl co)), (q4, .inl (kI G, 2, .inl mp)), (q5, .inl (kI G, 10, .inl my)), (q6, .inl (kI G, 10, .inl md)), (q7, .inl (kI G, 10, .inl mr)), (q8, .inl (kI G, 40, .inl dr)), (q9, .inl (kI G, 504, .inl (cpM nw 0 (42 + (42 * de)) 42))), (q10, .inl (kI G, 64, .inl tk)), (q11, .inl (kI G, 64, .inl cs)), (q12, .inl (kI G, 12, .inl sa)), (q13, .inl (kI G, 8, .inl go)), (q14, .inl (kI G, 2048, .inl to))]) (wr := []) (wn := [(q0, .inr (10, [.ref q1, .int (nI ty), .ref q2, .ref q3, .ref q4, .ref q5, .ref q6, .ref q7, .ref q8, .int (nI dm), .int (nI at_), .int (zb so), .ref q9, .int (nI de), .int (nI ke), .ref q10, .ref q11, .ref q12, .int (nI sm), .ref q13, .ref q14])), (q1, .inl (kB G, 200, .inl tx)), (q2, .inl (kI G, 2, .inl ro)), (q3, .inl (kI G, 2, .inl co)), (q4, .inl (kI G, 2, .inl mp)), (q5, .inl (kI G, 10, .inl my)), (q6, .inl (kI G, 10, .inl md)), (q7, .inl (kI G, 10, .inl mr)), (q8, .inl (kI G, 40, .inl dr)), (q9, .inl (kI G, 504, .inl (cpM nw 0 (42 + (42 * de)) 42))), (q10, .inl (kI G, 64, .inl tk)), (q11, .inl (kI G, 64, .inl cs)), (q12, .inl (kI G, 12, .inl sa)), (q13, .inl (kI G, 8, .inl go)), (q14, .inl (kI G, 2048, .inl to))]) (As := [.int 0, .int (nI (42 + (42 * de)))]) (rest := []) hx hb hml hown hts hE hA hl.1 hP hD hS (c_X10_copy l G q0 q1 q2 q3 q4 q5 q6 q7 q8 q9 q10 q11 q12 q13 q14 tx ro co mp my md mr dr nw tk cs sa go to ty dm at_ so de ke sm 0 (42 + (42 * de)) (by first | assumption | omega) (by first | assumption | omega)) (cw_X10_144 hts) ⟨(Nat.le_of_ble_eq_true rfl), (Nat.le_of_ble_eq_true rfl)⟩ ⟨(Nat.le_of_ble_eq_true rfl), (Nat.le_of_ble_eq_true rfl)⟩ rfl [0, 1, 2, 3, 4, 5, 6, 7, 8, 9, 10, 11, 12, 13, 14] [] [0, 1, 2, 3, 4, 5, 6, 7, 8, 9, 10, 11, 12, 13, 14] rfl rfl ⟨by decide, by decide, by decide, by decide⟩ rfl rfl rfl rfl rfl (Nat.le_of_ble_eq_true rfl) dX10_know_64 (fun H locs hP hD hS => ?_)
    show WC p l e _ s m _ below meth c G A _ H locs 0 0 (F0 m 67 ls [])
    refine lv_aload_n hx hb dX10_know_67 rfl (lv_at hl 0 rfl) ?_
    refine lv_dup hx hb dX10_know_68 rfl ?_
    refine va_get hx hb hts inlX10 hown hE.1 hP 0 rfl rfl 13 (by decide) (fl_X10_97 hts) (fun _ h9 => h9) rfl dX10_know_69 ?_
    refine lv_iconst (v := 1) hx hb dX10_know_72 (by decide) ?_
    refine lv_iadd hx hb dX10_know_73 ?_
    rw [show (nI de) + (1 : Int32) = nI (de + 1) from nI_add de 1]
    refine va_put (v := .int (nI (de + 1))) (ty := .int) hx hb hts inlX10 tyX10 tyX10_ok nmX10 hown hE.1 hP hD hS 0 rfl rfl 13 (by decide) (fl_X10_97 hts) (fun _ h9 => h9) rfl (by decide +kernel) rfl rfl (Nat.le_of_ble_eq_true rfl) dX10_know_74 (fun H locs hP hD hS => ?_)
    have hP : va_P G.1 vwCl [(q0, .inr (10, [.ref q1, .int (nI ty), .ref q2, .ref q3, .ref q4, .ref q5, .ref q6, .ref q7, .ref q8, .int (nI dm), .int (nI at_), .int (zb so), .ref q9, .int (nI (de + 1)), .int (nI ke), .ref q10, .ref q11, .ref q12, .int (nI sm), .ref q13, .ref q14])), (q1, .inl (kB G, 200, .inl tx)), (q2, .inl (kI G, 2, .inl ro)), (q3, .inl (kI G, 2, .inl co)), (q4, .inl (kI G, 2, .inl mp)), (q5, .inl (kI G, 10, .inl my)), (q6, .inl (kI G, 10, .inl md)), (q7, .inl (kI G, 10, .inl mr)), (q8, .inl (kI G, 40, .inl dr)), (q9, .inl (kI G, 504, .inl (cpM nw 0 (42 + (42 * de)) 42))), (q10, .inl (kI G, 64, .inl tk)), (q11, .inl (kI G, 64, .inl cs)), (q12, .inl (kI G, 12, .inl sa)), (q13, .inl (kI G, 8, .inl go)), (q14, .inl (kI G, 2048, .inl to))] H := hP
    have hD : va_D A [(q0, .inr (10, [.ref q1, .int (nI ty), .ref q2, .ref q3, .ref q4, .ref q5, .ref q6, .ref q7, .ref q8, .int (nI dm), .int (nI at_), .int (zb so), .ref q9, .int (nI (de + 1)), .int (nI ke), .ref q10, .ref q11, .ref q12, .int (nI sm), .ref q13, .ref q14])), (q1, .inl (kB G, 200, .inl tx)), (q2, .inl (kI G, 2, .inl ro)), (q3, .inl (kI G, 2, .inl co)), (q4, .inl (kI G, 2, .inl mp)), (q5, .inl (kI G, 10, .inl my)), (q6, .inl (kI G, 10, .inl md)), (q7, .inl (kI G, 10, .inl mr)), (q8, .inl (kI G, 40, .inl dr)), (q9, .inl (kI G, 504, .inl (cpM nw 0 (42 + (42 * de)) 42))), (q10, .inl (kI G, 64, .inl tk)), (q11, .inl (kI G, 64, .inl cs)), (q12, .inl (kI G, 12, .inl sa)), (q13, .inl (kI G, 8, .inl go)), (q14, .inl (kI G, 2048, .inl to))] := hD
    exact ct_vret hx hb hr hlk dX10_know_77 hP hD hS (by exact ⟨rfl, rfl⟩)
  · exact absurd ((nI_eq (a := de) (b := 8) (by omega) (by decide)).mp c6) (by omega)

set_option maxHeartbeats 4000000 in
set_option maxRecDepth 100000 in
theorem c_X10_know_n (l : Launch) (G : Gv) (q0 : Nat) (q1 : Nat) (q2 : Nat) (q3 : Nat) (q4 : Nat) (q5 : Nat) (q6 : Nat) (q7 : Nat) (q8 : Nat) (q9 : Nat) (q10 : Nat) (q11 : Nat) (q12 : Nat) (q13 : Nat) (q14 : Nat) (tx : Nat → Int32) (ro : Nat → Int32) (co : Nat → Int32) (mp : Nat → Int32) (my : Nat → Int32) (md : Nat → Int32) (mr : Nat → Int32) (dr : Nat → Int32) (nw : Nat → Int32) (tk : Nat → Int32) (cs : Nat → Int32) (sa : Nat → Int32) (go : Nat → Int32) (to : Nat → Int32) (ty : Nat) (dm : Nat) (at_ : Nat) (so : Bool) (de : Nat) (ke : Nat) (sm : Nat) (hd8 : de = 8) : Ct l yX10_know cX10_know 2 none (rmz 1 23) G [.ref q0] [(q0, .inr (10, [.ref q1, .int (nI ty), .ref q2, .ref q3, .ref q4, .ref q5, .ref q6, .ref q7, .ref q8, .int (nI dm), .int (nI at_), .int (zb so), .ref q9, .int (nI de), .int (nI ke), .ref q10, .ref q11, .ref q12, .int (nI sm), .ref q13, .ref q14])), (q1, .inl (kB G, 200, .inl tx)), (q2, .inl (kI G, 2, .inl ro)), (q3, .inl (kI G, 2, .inl co)), (q4, .inl (kI G, 2, .inl mp)), (q5, .inl (kI G, 10, .inl my)), (q6, .inl (kI G, 10, .inl md)), (q7, .inl (kI G, 10, .inl mr)), (q8, .inl (kI G, 40, .inl dr)), (q9, .inl (kI G, 504, .inl nw)), (q10, .inl (kI G, 64, .inl tk)), (q11, .inl (kI G, 64, .inl cs)), (q12, .inl (kI G, 12, .inl sa)), (q13, .inl (kI G, 8, .inl go)), (q14, .inl (kI G, 2048, .inl to))] (one none [(q0, .inr (10, [.ref q1, .int (nI ty), .ref q2, .ref q3, .ref q4, .ref q5, .ref q6, .ref q7, .ref q8, .int (nI dm), .int (nI at_), .int (zb so), .ref q9, .int (nI 8), .int (nI ke), .ref q10, .ref q11, .ref q12, .int (nI sm), .ref q13, .ref q14])), (q1, .inl (kB G, 200, .inl tx)), (q2, .inl (kI G, 2, .inl ro)), (q3, .inl (kI G, 2, .inl co)), (q4, .inl (kI G, 2, .inl mp)), (q5, .inl (kI G, 10, .inl my)), (q6, .inl (kI G, 10, .inl md)), (q7, .inl (kI G, 10, .inl mr)), (q8, .inl (kI G, 40, .inl dr)), (q9, .inl (kI G, 504, .inl (cpM (knS nw 294) 0 336 42))), (q10, .inl (kI G, 64, .inl tk)), (q11, .inl (kI G, 64, .inl cs)), (q12, .inl (kI G, 12, .inl sa)), (q13, .inl (kI G, 8, .inl go)), (q14, .inl (kI G, 2048, .inl to))]) := by
  refine Ct.ofW (by decide) (Nat.le_of_ble_eq_true rfl) ?_
  intro p e s m below meth c ls A hx hb hml hr hown hts hlk hnm hP hD hA hE hS hl
  obtain ⟨H, eH⟩ : ∃ H : Heap, H = s.heap := ⟨_, rfl⟩
  obtain ⟨locs, eL⟩ : ∃ ll : List Loc, ll = [] := ⟨_, rfl⟩
  rw [← eH] at hP
  have hS : va_S A s.heap H locs := by rw [eH, eL]; exact hS
  show WC p l e _ s m _ below meth c G A _ s.heap [] 0 0 _
  rw [← eH, ← eL]
  clear eH eL
  have hl : lv_has ls 2 [(0, .ref q0)] := hl
  have J_11 : ∀ (n_ : Nat) (k : Nat) (N1 : Nat → Int32) (hk : k ≤ 294) (ha : N1 = knS nw k) (hm_11 : 294 - k < n_), ∀ (H : Heap) (locs : List Loc), va_P G.1 vwCl [(q0, .inr (10, [.ref q1, .int (nI ty), .ref q2, .ref q3, .ref q4, .ref q5, .ref q6, .ref q7, .ref q8, .int (nI dm), .int (nI at_), .int (zb so), .ref q9, .int (nI de), .int (nI ke), .ref q10, .ref q11, .ref q12, .int (nI sm), .ref q13, .ref q14])), (q1, .inl (kB G, 200, .inl tx)), (q2, .inl (kI G, 2, .inl ro)), (q3, .inl (kI G, 2, .inl co)), (q4, .inl (kI G, 2, .inl mp)), (q5, .inl (kI G, 10, .inl my)), (q6, .inl (kI G, 10, .inl md)), (q7, .inl (kI G, 10, .inl mr)), (q8, .inl (kI G, 40, .inl dr)), (q9, .inl (kI G, 504, .inl N1)), (q10, .inl (kI G, 64, .inl tk)), (q11, .inl (kI G, 64, .inl cs)), (q12, .inl (kI G, 12, .inl sa)), (q13, .inl (kI G, 8, .inl go)), (q14, .inl (kI G, 2048, .inl to))] H → va_D A [(q0, .inr (10, [.ref q1, .int (nI ty), .ref q2, .ref q3, .ref q4, .ref q5, .ref q6, .ref q7, .ref q8, .int (nI dm), .int (nI at_), .int (zb so), .ref q9, .int (nI de), .int (nI ke), .ref q10, .ref q11, .ref q12, .int (nI sm), .ref q13, .ref q14])), (q1, .inl (kB G, 200, .inl tx)), (q2, .inl (kI G, 2, .inl ro)), (q3, .inl (kI G, 2, .inl co)), (q4, .inl (kI G, 2, .inl mp)), (q5, .inl (kI G, 10, .inl my)), (q6, .inl (kI G, 10, .inl md)), (q7, .inl (kI G, 10, .inl mr)), (q8, .inl (kI G, 40, .inl dr)), (q9, .inl (kI G, 504, .inl N1)), (q10, .inl (kI G, 64, .inl tk)), (q11, .inl (kI G, 64, .inl cs)), (q12, .inl (kI G, 12, .inl sa)), (q13, .inl (kI G, 8, .inl go)), (q14, .inl (kI G, 2048, .inl to))] → va_S A s.heap H locs → ∀ ls : Array Slot, lv_has ls 2 [(0, .ref q0), (1, .int (nI k))] → WC p l e (rmz 1 23) s m [.ref q0] below meth c G A (one none [(q0, .inr (10, [.ref q1, .int (nI ty), .ref q2, .ref q3, .ref q4, .ref q5, .ref q6, .ref q7, .ref q8, .int (nI dm), .int (nI at_), .int (zb so), .ref q9, .int (nI 8), .int (nI ke), .ref q10, .ref q11, .ref q12, .int (nI sm), .ref q13, .ref q14])), (q1, .inl (kB G, 200, .inl tx)), (q2, .inl (kI G, 2, .inl ro)), (q3, .inl (kI G, 2, .inl co)), (q4, .inl (kI G, 2, .inl mp)), (q5, .inl (kI G, 10, .inl my)), (q6, .inl (kI G, 10, .inl md)), (q7, .inl (kI G, 10, .inl mr)), (q8, .inl (kI G, 40, .inl dr)), (q9, .inl (kI G, 504, .inl (cpM (knS nw 294) 0 336 42))), (q10, .inl (kI G, 64, .inl tk)), (q11, .inl (kI G, 64, .inl cs)), (q12, .inl (kI G, 12, .inl sa)), (q13, .inl (kI G, 8, .inl go)), (q14, .inl (kI G, 2048, .inl to))]) H locs 0 0 (F0 m 11 ls []) := by
    intro n_
    induction n_ with
    | zero =>
      intro k N1 hk ha hm_11
      exact absurd hm_11 (Nat.not_lt_zero _)
    | succ n_ ih_11 =>
      intro k N1 hk ha hm_11 H locs hP hD hS ls hl
      refine lv_iload_n hx hb dX10_know_11 rfl (lv_at hl 1 rfl) ?_
      refine lv_sipush (v := 294) hx hb dX10_know_12 (by decide) ?_
      refine lv_icmp_ge (tgt := 42) hx hb dX10_know_15 (by decide) (fun c15 => ?_) (fun c15 => ?_)
      · have hkn : 294 ≤ k := le_of_le (n := 294) (by omega) (by omega) c15
        have ha2 : N1 = knS nw 294 := by rw [ha, show k = 294 by omega]
        refine lv_aload_n hx hb dX10_know_42 rfl (lv_at hl 0 rfl) ?_
        refine lv_dup hx hb dX10_know_43 rfl ?_
        refine va_get hx hb hts inlX10 hown hE.1 hP 0 rfl rfl 13 (by decide) (fl_X10_97 hts) (fun _ h9 => h9) rfl dX10_know_44 ?_
        refine lv_iconst (v := 1) hx hb dX10_know_47 (by decide) ?_
        refine lv_isub hx hb dX10_know_48 ?_
        rw [show nI de - 1 = nI 7 from by rw [hd8]; decide]
        refine va_put (v := .int (nI 7)) (ty := .int) hx hb hts inlX10 tyX10 tyX10_ok nmX10 hown hE.1 hP hD hS 0 rfl rfl 13 (by decide) (fl_X10_97 hts) (fun _ h9 => h9) rfl (by decide +kernel) rfl rfl (Nat.le_of_ble_eq_true rfl) dX10_know_49 (fun H locs hP hD hS => ?_)
        have hP : va_P G.1 vwCl [(q0, .inr (10, [.ref q1, .int (nI ty), .ref q2, .ref q3, .ref q4, .ref q5, .ref q6, .ref q7, .ref q8, .int (nI dm), .int (nI at_), .int (zb so), .ref q9, .int (nI 7), .int (nI ke), .ref q10, .ref q11, .ref q12, .int (nI sm), .ref q13, .ref q14])), (q1, .inl (kB G, 200, .inl tx)), (q2, .inl (kI G, 2, .inl ro)), (q3, .inl (kI G, 2, .inl co)), (q4, .inl (kI G, 2, .inl mp)), (q5, .inl (kI G, 10, .inl my)), (q6, .inl (kI G, 10, .inl md)), (q7, .inl (kI G, 10, .inl mr)), (q8, .inl (kI G, 40, .inl dr)), (q9, .inl (kI G, 504, .inl N1)), (q10, .inl (kI G, 64, .inl tk)), (q11, .inl (kI G, 64, .inl cs)), (q12, .inl (kI G, 12, .inl sa)), (q13, .inl (kI G, 8, .inl go)), (q14, .inl (kI G, 2048, .inl to))] H := hP
        have hD : va_D A [(q0, .inr (10, [.ref q1, .int (nI ty), .ref q2, .ref q3, .ref q4, .ref q5, .ref q6, .ref q7, .ref q8, .int (nI dm), .int (nI at_), .int (zb so), .ref q9, .int (nI 7), .int (nI ke), .ref q10, .ref q11, .ref q12, .int (nI sm), .ref q13, .ref q14])), (q1, .inl (kB G, 200, .inl tx)), (q2, .inl (kI G, 2, .inl ro)), (q3, .inl (kI G, 2, .inl co)), (q4, .inl (kI G, 2, .inl mp)), (q5, .inl (kI G, 10, .inl my)), (q6, .inl (kI G, 10, .inl md)), (q7, .inl (kI G, 10, .inl mr)), (q8, .inl (kI G, 40, .inl dr)), (q9, .inl (kI G, 504, .inl N1)), (q10, .inl (kI G, 64, .inl tk)), (q11, .inl (kI G, 64, .inl cs)), (q12, .inl (kI G, 12, .inl sa)), (q13, .inl (kI G, 8, .inl go)), (q14, .inl (kI G, 2048, .inl to))] := hD
        refine lv_aload_n hx hb dX10_know_52 rfl (lv_at hl 0 rfl) ?_
        refine lv_iconst (v := 0) hx hb dX10_know_53 (by decide) ?_
        refine lv_bipush (v := 42) hx hb dX10_know_54 (by decide) ?_
        refine lv_bipush (v := 42) hx hb dX10_know_56 (by decide) ?_
        refine lv_aload_n hx hb dX10_know_58 rfl (lv_at hl 0 rfl) ?_
        refine va_get hx hb hts inlX10 hown hE.1 hP 0 rfl rfl 13 (by decide) (fl_X10_97 hts) (fun _ h9 => h9) rfl dX10_know_59 ?_
        refine lv_imul hx hb dX10_know_62 ?_
        rw [show (42 : Int32) * (nI 7) = nI 294 from by decide]
        refine lv_iadd hx hb dX10_know_63 ?_
        rw [show (42 : Int32) + (nI 294) = nI 336 from by decide]
        refine ct_callV (w1 := [(q0, .inr (10, [.ref q1, .int (nI ty), .ref q2, .ref q3, .ref q4, .ref q5, .ref q6, .ref q7, .ref q8, .int (nI dm), .int (nI at_), .int (zb so), .ref q9, .int (nI 7), .int (nI ke), .ref q10, .ref q11, .ref q12, .int (nI sm), .ref q13, .ref q14])), (q1, .inl (kB G, 200, .inl tx)), (q2, .inl (kI G, 2, .inl ro)), (q3, .inl (kI G, 2, .inl co)), (q4, .inl (kI G, 2, .inl mp)), (q5, .inl (kI G, 10, .inl my)), (q6, .inl (kI G, 10, .inl md)), (q7, .inl (kI G, 10, .inl mr)), (q8, .inl (kI G, 40, .inl dr)), (q9, .inl (kI G, 504, .inl (cpM N1 0 336 42))), (q10, .inl (kI G, 64, .inl tk)), (q11, .inl (kI G, 64, .inl cs)), (q12, .inl (kI G, 12, .inl sa)), (q13, .inl (kI G, 8, .inl go)), (q14, .inl (kI G, 2048, .inl to))]) (wr := []) (wn := [(q0, .inr (10, [.ref q1, .int (nI ty), .ref q2, .ref q3, .ref q4, .ref q5, .ref q6, .ref q7, .ref q8, .int (nI dm), .int (nI at_), .int (zb so), .ref q9, .int (nI 7), .int (nI ke), .ref q10, .ref q11, .ref q12, .int (nI sm), .ref q13, .ref q14])), (q1, .inl (kB G, 200, .inl tx)), (q2, .inl (kI G, 2, .inl ro)), (q3, .inl (kI G, 2, .inl co)), (q4, .inl (kI G, 2, .inl mp)), (q5, .inl (kI G, 10, .inl my)), (q6, .inl (kI G, 10, .inl md)), (q7, .inl (kI G, 10, .inl mr)), (q8, .inl (kI G, 40, .inl dr)), (q9, .inl (kI G, 504, .inl (cpM N1 0 336 42))), (q10, .inl (kI G, 64, .inl tk)), (q11, .inl (kI G, 64, .inl cs)), (q12, .inl (kI G, 12, .inl sa)), (q13, .inl (kI G, 8, .inl go)), (q14, .inl (kI G, 2048, .inl to))]) (As := [.int 0, .int (nI 336)]) (rest := []) hx hb hml hown hts hE hA hl.1 hP hD hS (c_X10_copy l G q0 q1 q2 q3 q4 q5 q6 q7 q8 q9 q10 q11 q12 q13 q14 tx ro co mp my md mr dr N1 tk cs sa go to ty dm at_ so 7 ke sm 0 336 (by first | assumption | omega) (by first | assumption | omega)) (cw_X10_144 hts) ⟨(Nat.le_of_ble_eq_true rfl), (Nat.le_of_ble_eq_true rfl)⟩ ⟨(Nat.le_of_ble_eq_true rfl), (Nat.le_of_ble_eq_true rfl)⟩ rfl [0, 1, 2, 3, 4, 5, 6, 7, 8, 9, 10, 11, 12, 13, 14] [] [0, 1, 2, 3, 4, 5, 6, 7, 8, 9, 10, 11, 12, 13, 14] rfl rfl ⟨by decide, by decide, by decide, by decide⟩ rfl rfl rfl rfl rfl (Nat.le_of_ble_eq_true rfl) dX10_know_64 (fun H locs hP hD hS => ?_)
        show WC p l e _ s m _ below meth c G A _ H locs 0 0 (F0 m 67 ls [])
        refine lv_aload_n hx hb dX10_know_67 rfl (lv_at hl 0 rfl) ?_
        refine lv_dup hx hb dX10_know_68 rfl ?_
        refine va_get hx hb hts inlX10 hown hE.1 hP 0 rfl rfl 13 (by decide) (fl_X10_97 hts) (fun _ h9 => h9) rfl dX10_know_69 ?_
        refine lv_iconst (v := 1) hx hb dX10_know_72 (by decide) ?_
        refine lv_iadd hx hb dX10_know_73 ?_
        rw [show (nI 7) + (1 : Int32) = nI 8 from by decide]
        refine va_put (v := .int (nI 8)) (ty := .int) hx hb hts inlX10 tyX10 tyX10_ok nmX10 hown hE.1 hP hD hS 0 rfl rfl 13 (by decide) (fl_X10_97 hts) (fun _ h9 => h9) rfl (by decide +kernel) rfl rfl (Nat.le_of_ble_eq_true rfl) dX10_know_74 (fun H locs hP hD hS => ?_)
        have hP : va_P G.1 vwCl [(q0, .inr (10, [.ref q1, .int (nI ty), .ref q2, .ref q3, .ref q4, .ref q5, .ref q6, .ref q7, .ref q8, .int (nI dm), .int (nI at_), .int (zb so), .ref q9, .int (nI 8), .int (nI ke), .ref q10, .ref q11, .ref q12, .int (nI sm), .ref q13, .ref q14])), (q1, .inl (kB G, 200, .inl tx)), (q2, .inl (kI G, 2, .inl ro)), (q3, .inl (kI G, 2, .inl co)), (q4, .inl (kI G, 2, .inl mp)), (q5, .inl (kI G, 10, .inl my)), (q6, .inl (kI G, 10, .inl md)), (q7, .inl (kI G, 10, .inl mr)), (q8, .inl (kI G, 40, .inl dr)), (q9, .inl (kI G, 504, .inl (cpM N1 0 336 42))), (q10, .inl (kI G, 64, .inl tk)), (q11, .inl (kI G, 64, .inl cs)), (q12, .inl (kI G, 12, .inl sa)), (q13, .inl (kI G, 8, .inl go)), (q14, .inl (kI G, 2048, .inl to))] H := hP
        have hD : va_D A [(q0, .inr (10, [.ref q1, .int (nI ty), .ref q2, .ref q3, .ref q4, .ref q5, .ref q6, .ref q7, .ref q8, .int (nI dm), .int (nI at_), .int (zb so), .ref q9, .int (nI 8), .int (nI ke), .ref q10, .ref q11, .ref q12, .int (nI sm), .ref q13, .ref q14])), (q1, .inl (kB G, 200, .inl tx)), (q2, .inl (kI G, 2, .inl ro)), (q3, .inl (kI G, 2, .inl co)), (q4, .inl (kI G, 2, .inl mp)), (q5, .inl (kI G, 10, .inl my)), (q6, .inl (kI G, 10, .inl md)), (q7, .inl (kI G, 10, .inl mr)), (q8, .inl (kI G, 40, .inl dr)), (q9, .inl (kI G, 504, .inl (cpM N1 0 336 42))), (q10, .inl (kI G, 64, .inl tk)), (q11, .inl (kI G, 64, .inl cs)), (q12, .inl (kI G, 12, .inl sa)), (q13, .inl (kI G, 8, .inl go)), (q14, .inl (kI G, 2048, .inl to))] := hD
        exact ct_vret hx hb hr hlk dX10_know_77 hP hD hS (by exact ⟨rfl, by rw [ha2]⟩)
      · have hkn : k < 294 := lt_of_nle (n := 294) (by omega) (by omega) c15
        refine lv_aload_n hx hb dX10_know_18 rfl (lv_at hl 0 rfl) ?_
        refine va_get hx hb hts inlX10 hown hE.1 hP 0 rfl rfl 12 (by decide) (fl_X10_35 hts) (fun _ h9 => h9) rfl dX10_know_19 ?_
        refine lv_bipush (v := 42) hx hb dX10_know_22 (by decide) ?_
        refine lv_iload_n hx hb dX10_know_24 rfl (lv_at hl 1 rfl) ?_
        refine lv_iadd hx hb dX10_know_25 ?_
        rw [show (42 : Int32) + (nI k) = nI (42 + k) from nI_add 42 k]
        refine lv_aload_n hx hb dX10_know_26 rfl (lv_at hl 0 rfl) ?_
        refine va_get hx hb hts inlX10 hown hE.1 hP 0 rfl rfl 12 (by decide) (fl_X10_35 hts) (fun _ h9 => h9) rfl dX10_know_27 ?_
        refine lv_bipush (v := 84) hx hb dX10_know_30 (by decide) ?_
        refine lv_iload_n hx hb dX10_know_32 rfl (lv_at hl 1 rfl) ?_
        refine lv_iadd hx hb dX10_know_33 ?_
        rw [show (84 : Int32) + (nI k) = nI (84 + k) from nI_add 84 k]
        refine va_iald hx hb hE.1 hP 9 0 rfl rfl (vp_in_nI (by omega) (by omega)) dX10_know_34 ?_
        rw [nI_clamp (show 84 + k < 2 ^ 31 by omega)]
        refine va_iast hx hb hE.1 hP hD hS 9 0 rfl rfl (vp_in_nI (by omega) (by omega)) dX10_know_35 (fun H locs hP hD hS => ?_)
        rw [nI_clamp (show 42 + k < 2 ^ 31 by omega)] at hP hD
        have hP : va_P G.1 vwCl [(q0, .inr (10, [.ref q1, .int (nI ty), .ref q2, .ref q3, .ref q4, .ref q5, .ref q6, .ref q7, .ref q8, .int (nI dm), .int (nI at_), .int (zb so), .ref q9, .int (nI de), .int (nI ke), .ref q10, .ref q11, .ref q12, .int (nI sm), .ref q13, .ref q14])), (q1, .inl (kB G, 200, .inl tx)), (q2, .inl (kI G, 2, .inl ro)), (q3, .inl (kI G, 2, .inl co)), (q4, .inl (kI G, 2, .inl mp)), (q5, .inl (kI G, 10, .inl my)), (q6, .inl (kI G, 10, .inl md)), (q7, .inl (kI G, 10, .inl mr)), (q8, .inl (kI G, 40, .inl dr)), (q9, .inl (kI G, 504, .inl (upd N1 (42 + k) (N1 (84 + k))))), (q10, .inl (kI G, 64, .inl tk)), (q11, .inl (kI G, 64, .inl cs)), (q12, .inl (kI G, 12, .inl sa)), (q13, .inl (kI G, 8, .inl go)), (q14, .inl (kI G, 2048, .inl to))] H := hP
        have hD : va_D A [(q0, .inr (10, [.ref q1, .int (nI ty), .ref q2, .ref q3, .ref q4, .ref q5, .ref q6, .ref q7, .ref q8, .int (nI dm), .int (nI at_), .int (zb so), .ref q9, .int (nI de), .int (nI ke), .ref q10, .ref q11, .ref q12, .int (nI sm), .ref q13, .ref q14])), (q1, .inl (kB G, 200, .inl tx)), (q2, .inl (kI G, 2, .inl ro)), (q3, .inl (kI G, 2, .inl co)), (q4, .inl (kI G, 2, .inl mp)), (q5, .inl (kI G, 10, .inl my)), (q6, .inl (kI G, 10, .inl md)), (q7, .inl (kI G, 10, .inl mr)), (q8, .inl (kI G, 40, .inl dr)), (q9, .inl (kI G, 504, .inl (upd N1 (42 + k) (N1 (84 + k))))), (q10, .inl (kI G, 64, .inl tk)), (q11, .inl (kI G, 64, .inl cs)), (q12, .inl (kI G, 12, .inl sa)), (q13, .inl (kI G, 8, .inl go)), (q14, .inl (kI G, 2048, .inl to))] := hD
        refine lv_iinc (v := nI (k + 1)) (lv' := [(1, .int (nI (k + 1))), (0, .ref q0)]) hx hb dX10_know_36 hl (k := 1) rfl (nI_1 k) (by decide) rfl (fun ls hl => ?_)
        refine lv_goto (tgt := 11) hx hb dX10_know_39 (by decide) ?_
        have ha0 := ha
        rw [knS] at ha0
        exact ih_11 (k + 1) (upd N1 (42 + k) (N1 (84 + k))) (by first | assumption | omega | rfl) (by rw [knS, it_s]; simp only [← ha0]) (by omega) _ _ hP hD hS ls (lv_sub hl [1, 0] rfl)
  refine lv_aload_n hx hb dX10_know_0 rfl (lv_at hl 0 rfl) ?_
  refine va_get hx hb hts inlX10 hown hE.1 hP 0 rfl rfl 13 (by decide) (fl_X10_97 hts) (fun _ h9 => h9) rfl dX10_know_1 ?_
  refine lv_bipush (v := 8) hx hb dX10_know_4 (by decide) ?_
  refine lv_icmp_ne (tgt := 52) hx hb dX10_know_6 (by decide) (fun c6 => ?_) (fun c6 => ?_)
  · exact absurd (by rw [hd8]; rfl) c6
  · refine lv_iconst (v := 0) hx hb dX10_know_9 (by decide) ?_
    refine lv_istore_n (lv' := [(1, .int 0), (0, .ref q0)]) hx hb dX10_know_10 rfl hl (by decide) rfl (fun ls hl => ?_)
    exact J_11 (294 - 0 + 1) 0 nw (by first | assumption | omega | rfl) rfl (Nat.lt_succ_self _) _ _ hP hD hS ls (lv_sub hl [1, 0] rfl)

set_option maxHeartbeats 4000000 in
set_option maxRecDepth 100000 in
theorem c_X10_manyBy (l : Launch) (G : Gv) (q0 : Nat) (q1 : Nat) (q2 : Nat) (q3 : Nat) (q4 : Nat) (q5 : Nat) (q6 : Nat) (q7 : Nat) (q8 : Nat) (q9 : Nat) (q10 : Nat) (q11 : Nat) (q12 : Nat) (q13 : Nat) (q14 : Nat) (tx : Nat → Int32) (ro : Nat → Int32) (co : Nat → Int32) (mp : Nat → Int32) (my : Nat → Int32) (md : Nat → Int32) (mr : Nat → Int32) (dr : Nat → Int32) (nw : Nat → Int32) (tk : Nat → Int32) (cs : Nat → Int32) (sa : Nat → Int32) (go : Nat → Int32) (to : Nat → Int32) (ty : Nat) (dm : Nat) (at_ : Nat) (so : Bool) (de : Nat) (ke : Nat) (sm : Nat) (ba : Nat) (n : Nat) (b : Bool) (hba : ba ≤ 462) (hn1 : nw (ba + 1) = nI n) (hn : n ≤ 10) : Rd l yX10_manyBy cX10_manyBy 5 (some .int) (rmz 1 23) G [.ref q0, .int (nI ba), .int (zb b)] [(q0, .inr (10, [.ref q1, .int (nI ty), .ref q2, .ref q3, .ref q4, .ref q5, .ref q6, .ref q7, .ref q8, .int (nI dm), .int (nI at_), .int (zb so), .ref q9, .int (nI de), .int (nI ke), .ref q10, .ref q11, .ref q12, .int (nI sm), .ref q13, .ref q14])), (q1, .inl (kB G, 200, .inl tx)), (q2, .inl (kI G, 2, .inl ro)), (q3, .inl (kI G, 2, .inl co)), (q4, .inl (kI G, 2, .inl mp)), (q5, .inl (kI G, 10, .inl my)), (q6, .inl (kI G, 10, .inl md)), (q7, .inl (kI G, 10, .inl mr)), (q8, .inl (kI G, 40, .inl dr)), (q9, .inl (kI G, 504, .inl nw)), (q10, .inl (kI G, 64, .inl tk)), (q11, .inl (kI G, 64, .inl cs)), (q12, .inl (kI G, 12, .inl sa)), (q13, .inl (kI G, 8, .inl go)), (q14, .inl (kI G, 2048, .inl to))] (.int (mbM nw ba b n)) := by
  refine Rd.ofW (by decide) (Nat.le_of_ble_eq_true rfl) ?_
  intro p e s m below meth c ls hx hb hml hr hown hts hlk hP hE hl
  have hl : lv_has ls 5 [(0, .ref q0), (1, .int (nI ba)), (2, .int (zb b))] := hl
  have J_5 : ∀ (n_ : Nat) (k : Nat) (acc : Int32) (hk : k ≤ n) (ha : acc = mbM nw ba b k) (hm_5 : n - k < n_), ∀ ls : Array Slot, lv_has ls 5 [(0, .ref q0), (1, .int (nI ba)), (2, .int (zb b)), (3, .int acc), (4, .int (nI k))] → WR p l e (rmz 1 23) s m [.ref q0, .int (nI ba), .int (zb b)] below meth c (.int (mbM nw ba b n)) (F0 m 5 ls []) := by
    intro n_
    induction n_ with
    | zero =>
      intro k acc hk ha hm_5
      exact absurd hm_5 (Nat.not_lt_zero _)
    | succ n_ ih_5 =>
      intro k acc hk ha hm_5 ls hl
      refine lv_iload hx hb dX10_manyBy_5 (lv_at hl 4 rfl) ?_
      refine lv_aload_n hx hb dX10_manyBy_7 rfl (lv_at hl 0 rfl) ?_
      refine va_get hx hb hts inlX10 hown hE.1 hP 0 rfl rfl 12 (by decide) (fl_X10_35 hts) (fun _ h9 => h9) rfl dX10_manyBy_8 ?_
      refine lv_iload_n hx hb dX10_manyBy_11 rfl (lv_at hl 1 rfl) ?_
      refine lv_iconst (v := 1) hx hb dX10_manyBy_12 (by decide) ?_
      refine lv_iadd hx hb dX10_manyBy_13 ?_
      rw [show (nI ba) + (1 : Int32) = nI (ba + 1) from nI_add ba 1]
      refine va_iald hx hb hE.1 hP 9 0 rfl rfl (vp_in_nI (by omega) (by omega)) dX10_manyBy_14 ?_
      rw [nI_clamp (show ba + 1 < 2 ^ 31 by omega)]
      rw [hn1]
      refine lv_icmp_ge (tgt := 75) hx hb dX10_manyBy_15 (by decide) (fun c15 => ?_) (fun c15 => ?_)
      · have hkn : n ≤ k := le_of_le (by omega) (by omega) c15
        refine lv_iload_n hx hb dX10_manyBy_75 rfl (lv_at hl 3 rfl) ?_
        exact rd_iret hx hb hr hlk dX10_manyBy_76 (by rw [ha, show k = n by omega])
      · have hkn : k < n := lt_of_nle (by omega) (by omega) c15
        refine lv_iload_n hx hb dX10_manyBy_18 rfl (lv_at hl 3 rfl) ?_
        refine lv_iload_n hx hb dX10_manyBy_19 rfl (lv_at hl 2 rfl) ?_
        refine lv_if_eq (tgt := 44) hx hb dX10_manyBy_20 (by decide) (fun c20 => ?_) (fun c20 => ?_)
        · have c20 := zb_0.mp c20
          refine lv_aload_n hx hb dX10_manyBy_44 rfl (lv_at hl 0 rfl) ?_
          refine lv_iload_n hx hb dX10_manyBy_45 rfl (lv_at hl 1 rfl) ?_
          refine lv_iload hx hb dX10_manyBy_46 (lv_at hl 4 rfl) ?_
          refine lv_aload_n hx hb dX10_manyBy_48 rfl (lv_at hl 0 rfl) ?_
          refine va_get hx hb hts inlX10 hown hE.1 hP 0 rfl rfl 12 (by decide) (fl_X10_35 hts) (fun _ h9 => h9) rfl dX10_manyBy_49 ?_
          refine lv_iload_n hx hb dX10_manyBy_52 rfl (lv_at hl 1 rfl) ?_
          refine lv_iconst (v := 0) hx hb dX10_manyBy_53 (by decide) ?_
          refine lv_iadd hx hb dX10_manyBy_54 ?_
          rw [show nI ba + 0 = nI ba from nI_add ba 0]
          refine va_iald hx hb hE.1 hP 9 0 rfl rfl (vp_in_nI (by omega) (by omega)) dX10_manyBy_55 ?_
          rw [nI_clamp (show ba < 2 ^ 31 by omega)]
          refine rd_callV (As := [.int (nI ba), .int (nI k), .int (nw ba)]) (rest := [.int acc]) hx hb hml hown hts hE hl.1 (c_X10_isLost l G q0 q1 q2 q3 q4 q5 q6 q7 q8 q9 q10 q11 q12 q13 q14 tx ro co mp my md mr dr nw tk cs sa go to ty dm at_ so de ke sm ba k (nw ba) (by first | assumption | omega) (by first | assumption | omega)) (cw_X10_113 hts) ⟨(Nat.le_of_ble_eq_true rfl), (Nat.le_of_ble_eq_true rfl)⟩ ⟨Nat.zero_le _, Nat.zero_le _⟩ rfl (sub_P hP [0, 1, 2, 3, 4, 5, 6, 7, 8, 9, 10, 11, 12, 13, 14] rfl) rfl rfl rfl rfl (Nat.le_of_ble_eq_true rfl) dX10_manyBy_56 ?_
          refine lv_if_eq (tgt := 66) hx hb dX10_manyBy_59 (by decide) (fun c59 => ?_) (fun c59 => ?_)
          · have c59 := zb_0.mp c59
            refine lv_iconst (v := 0) hx hb dX10_manyBy_66 (by decide) ?_
            refine lv_iadd hx hb dX10_manyBy_67 ?_
            refine lv_istore_n (lv' := [(3, .int (acc + 0)), (0, .ref q0), (1, .int (nI ba)), (2, .int (zb b)), (4, .int (nI k))]) hx hb dX10_manyBy_68 rfl hl (by decide) rfl (fun ls hl => ?_)
            refine lv_iinc (v := nI (k + 1)) (lv' := [(4, .int (nI (k + 1))), (3, .int (acc + 0)), (0, .ref q0), (1, .int (nI ba)), (2, .int (zb b))]) hx hb dX10_manyBy_69 hl (k := 4) rfl (nI_1 k) (by decide) rfl (fun ls hl => ?_)
            refine lv_goto (tgt := 5) hx hb dX10_manyBy_72 (by decide) ?_
            have ha0 := ha
            rw [mbM] at ha0
            exact ih_5 (k + 1) (acc + 0) (by first | assumption | omega | rfl) (by rw [mbM, it_s]; simp only [← ha0]; simp [mbB, c15, c20, c59]) (by omega) ls (lv_sub hl [2, 3, 4, 1, 0] rfl)
          · have c59 := zb_n0.mp c59
            refine lv_iconst (v := 1) hx hb dX10_manyBy_62 (by decide) ?_
            refine lv_goto (tgt := 67) hx hb dX10_manyBy_63 (by decide) ?_
            refine lv_iadd hx hb dX10_manyBy_67 ?_
            refine lv_istore_n (lv' := [(3, .int (acc + 1)), (0, .ref q0), (1, .int (nI ba)), (2, .int (zb b)), (4, .int (nI k))]) hx hb dX10_manyBy_68 rfl hl (by decide) rfl (fun ls hl => ?_)
            refine lv_iinc (v := nI (k + 1)) (lv' := [(4, .int (nI (k + 1))), (3, .int (acc + 1)), (0, .ref q0), (1, .int (nI ba)), (2, .int (zb b))]) hx hb dX10_manyBy_69 hl (k := 4) rfl (nI_1 k) (by decide) rfl (fun ls hl => ?_)
            refine lv_goto (tgt := 5) hx hb dX10_manyBy_72 (by decide) ?_
            have ha0 := ha
            rw [mbM] at ha0
            exact ih_5 (k + 1) (acc + 1) (by first | assumption | omega | rfl) (by rw [mbM, it_s]; simp only [← ha0]; simp [mbB, c15, c20, c59]) (by omega) ls (lv_sub hl [2, 3, 4, 1, 0] rfl)
        · have c20 := zb_n0.mp c20
          refine lv_aload_n hx hb dX10_manyBy_23 rfl (lv_at hl 0 rfl) ?_
          refine lv_iload_n hx hb dX10_manyBy_24 rfl (lv_at hl 1 rfl) ?_
          refine lv_iload hx hb dX10_manyBy_25 (lv_at hl 4 rfl) ?_
          refine lv_aload_n hx hb dX10_manyBy_27 rfl (lv_at hl 0 rfl) ?_
          refine va_get hx hb hts inlX10 hown hE.1 hP 0 rfl rfl 12 (by decide) (fl_X10_35 hts) (fun _ h9 => h9) rfl dX10_manyBy_28 ?_
          refine lv_iload_n hx hb dX10_manyBy_31 rfl (lv_at hl 1 rfl) ?_
          refine lv_iconst (v := 0) hx hb dX10_manyBy_32 (by decide) ?_
          refine lv_iadd hx hb dX10_manyBy_33 ?_
          rw [show nI ba + 0 = nI ba from nI_add ba 0]
          refine va_iald hx hb hE.1 hP 9 0 rfl rfl (vp_in_nI (by omega) (by omega)) dX10_manyBy_34 ?_
          rw [nI_clamp (show ba < 2 ^ 31 by omega)]
          refine rd_callV (As := [.int (nI ba), .int (nI k), .int (nw ba)]) (rest := [.int acc]) hx hb hml hown hts hE hl.1 (c_X10_stands l G q0 q1 q2 q3 q4 q5 q6 q7 q8 q9 q10 q11 q12 q13 q14 tx ro co mp my md mr dr nw tk cs sa go to ty dm at_ so de ke sm ba k (nw ba) (by first | assumption | omega) (by first | assumption | omega)) (cw_X10_110 hts) ⟨(Nat.le_of_ble_eq_true rfl), (Nat.le_of_ble_eq_true rfl)⟩ ⟨Nat.zero_le _, Nat.zero_le _⟩ rfl (sub_P hP [0, 1, 2, 3, 4, 5, 6, 7, 8, 9, 10, 11, 12, 13, 14] rfl) rfl rfl rfl rfl (Nat.le_of_ble_eq_true rfl) dX10_manyBy_35 ?_
          refine lv_if_eq (tgt := 66) hx hb dX10_manyBy_38 (by decide) (fun c38 => ?_) (fun c38 => ?_)
          · have c38 := zb_0.mp c38
            refine lv_iconst (v := 0) hx hb dX10_manyBy_66 (by decide) ?_
            refine lv_iadd hx hb dX10_manyBy_67 ?_
            refine lv_istore_n (lv' := [(3, .int (acc + 0)), (0, .ref q0), (1, .int (nI ba)), (2, .int (zb b)), (4, .int (nI k))]) hx hb dX10_manyBy_68 rfl hl (by decide) rfl (fun ls hl => ?_)
            refine lv_iinc (v := nI (k + 1)) (lv' := [(4, .int (nI (k + 1))), (3, .int (acc + 0)), (0, .ref q0), (1, .int (nI ba)), (2, .int (zb b))]) hx hb dX10_manyBy_69 hl (k := 4) rfl (nI_1 k) (by decide) rfl (fun ls hl => ?_)
            refine lv_goto (tgt := 5) hx hb dX10_manyBy_72 (by decide) ?_
            have ha0 := ha
            rw [mbM] at ha0
            exact ih_5 (k + 1) (acc + 0) (by first | assumption | omega | rfl) (by rw [mbM, it_s]; simp only [← ha0]; simp [mbB, c15, c20, c38]) (by omega) ls (lv_sub hl [2, 3, 4, 1, 0] rfl)
          · have c38 := zb_n0.mp c38
            refine lv_goto (tgt := 62) hx hb dX10_manyBy_41 (by decide) ?_
            refine lv_iconst (v := 1) hx hb dX10_manyBy_62 (by decide) ?_
            refine lv_goto (tgt := 67) hx hb dX10_manyBy_63 (by decide) ?_
            refine lv_iadd hx hb dX10_manyBy_67 ?_
            refine lv_istore_n (lv' := [(3, .int (acc + 1)), (0, .ref q0), (1, .int (nI ba)), (2, .int (zb b)), (4, .int (nI k))]) hx hb dX10_manyBy_68 rfl hl (by decide) rfl (fun ls hl => ?_)
            refine lv_iinc (v := nI (k + 1)) (lv' := [(4, .int (nI (k + 1))), (3, .int (acc + 1)), (0, .ref q0), (1, .int (nI ba)), (2, .int (zb b))]) hx hb dX10_manyBy_69 hl (k := 4) rfl (nI_1 k) (by decide) rfl (fun ls hl => ?_)
            refine lv_goto (tgt := 5) hx hb dX10_manyBy_72 (by decide) ?_
            have ha0 := ha
            rw [mbM] at ha0
            exact ih_5 (k + 1) (acc + 1) (by first | assumption | omega | rfl) (by rw [mbM, it_s]; simp only [← ha0]; simp [mbB, c15, c20, c38]) (by omega) ls (lv_sub hl [2, 3, 4, 1, 0] rfl)
  refine lv_iconst (v := 0) hx hb dX10_manyBy_0 (by decide) ?_
  refine lv_istore_n (lv' := [(3, .int 0), (0, .ref q0), (1, .int (nI ba)), (2, .int (zb b))]) hx hb dX10_manyBy_1 rfl hl (by decide) rfl (fun ls hl => ?_)
  refine lv_iconst (v := 0) hx hb dX10_manyBy_2 (by decide) ?_
  refine lv_istore (lv' := [(4, .int 0), (3, .int 0), (0, .ref q0), (1, .int (nI ba)), (2, .int (zb b))]) hx hb dX10_manyBy_3 hl (by decide) rfl (fun ls hl => ?_)
  exact J_5 (n - 0 + 1) 0 0 (by first | assumption | omega | rfl) rfl (Nat.lt_succ_self _) ls (lv_sub hl [2, 3, 4, 1, 0] rfl)

set_option maxHeartbeats 4000000 in
set_option maxRecDepth 100000 in
theorem c_X10_at (l : Launch) (G : Gv) (q0 : Nat) (q1 : Nat) (q2 : Nat) (q3 : Nat) (q4 : Nat) (q5 : Nat) (q6 : Nat) (q7 : Nat) (q8 : Nat) (q9 : Nat) (q10 : Nat) (q11 : Nat) (q12 : Nat) (q13 : Nat) (q14 : Nat) (tx : Nat → Int32) (ro : Nat → Int32) (co : Nat → Int32) (mp : Nat → Int32) (my : Nat → Int32) (md : Nat → Int32) (mr : Nat → Int32) (dr : Nat → Int32) (nw : Nat → Int32) (tk : Nat → Int32) (cs : Nat → Int32) (sa : Nat → Int32) (go : Nat → Int32) (to : Nat → Int32) (ty : Nat) (dm : Nat) (at_ : Nat) (so : Bool) (de : Nat) (ke : Nat) (sm : Nat) (nr : Nat) (nc : Nat) (n : Nat) (q : Nat) (x : Int32) (hro : ro 0 = nI nr) (hco : co 0 = nI nc) (hg1 : 2 ≤ nr ∧ nr ≤ 8) (hg2 : 2 ≤ nc ∧ nc ≤ 8) (hn1 : nw 1 = nI n) (hn : n ≤ 10) (hmp : mp 0 = nI q) (hq : q ≤ 5) : Rd l yX10_at cX10_at 2 (some .int) (rmz 2 43) G [.ref q0, .int x] [(q0, .inr (10, [.ref q1, .int (nI ty), .ref q2, .ref q3, .ref q4, .ref q5, .ref q6, .ref q7, .ref q8, .int (nI dm), .int (nI at_), .int (zb so), .ref q9, .int (nI de), .int (nI ke), .ref q10, .ref q11, .ref q12, .int (nI sm), .ref q13, .ref q14])), (q1, .inl (kB G, 200, .inl tx)), (q2, .inl (kI G, 2, .inl ro)), (q3, .inl (kI G, 2, .inl co)), (q4, .inl (kI G, 2, .inl mp)), (q5, .inl (kI G, 10, .inl my)), (q6, .inl (kI G, 10, .inl md)), (q7, .inl (kI G, 10, .inl mr)), (q8, .inl (kI G, 40, .inl dr)), (q9, .inl (kI G, 504, .inl nw)), (q10, .inl (kI G, 64, .inl tk)), (q11, .inl (kI G, 64, .inl cs)), (q12, .inl (kI G, 12, .inl sa)), (q13, .inl (kI G, 8, .inl go)), (q14, .inl (kI G, 2048, .inl to))] (.int (if inG nr nc x then lsx (fun k => decide (cel nw 0 k = x)) n else -1)) := by
  refine Rd.ofW (by decide) (Nat.le_of_ble_eq_true rfl) ?_
  intro p e s m below meth c ls hx hb hml hr hown hts hlk hP hE hl
  have hl : lv_has ls 2 [(0, .ref q0), (1, .int x)] := hl
  refine lv_aload_n hx hb dX10_at_0 rfl (lv_at hl 0 rfl) ?_
  refine lv_iload_n hx hb dX10_at_1 rfl (lv_at hl 1 rfl) ?_
  refine rd_callV (As := [.int x]) (rest := []) hx hb hml hown hts hE hl.1 (c_X10_isCell l G q0 q1 q2 q3 q4 q5 q6 q7 q8 q9 q10 q11 q12 q13 q14 tx ro co mp my md mr dr nw tk cs sa go to ty dm at_ so de ke sm nr nc x (by first | assumption | omega) (by first | assumption | omega) (by first | assumption | omega) (by first | assumption | omega)) (cw_X10_116 hts) ⟨(Nat.le_of_ble_eq_true rfl), (Nat.le_of_ble_eq_true rfl)⟩ ⟨Nat.zero_le _, Nat.zero_le _⟩ rfl (sub_P hP [0, 1, 2, 3, 4, 5, 6, 7, 8, 9, 10, 11, 12, 13, 14] rfl) rfl rfl rfl rfl (Nat.le_of_ble_eq_true rfl) dX10_at_2 ?_
  refine lv_if_eq (tgt := 16) hx hb dX10_at_5 (by decide) (fun c5 => ?_) (fun c5 => ?_)
  · have c5 := zb_0.mp c5
    refine lv_iconst (v := -1) hx hb dX10_at_16 (by decide) ?_
    exact rd_iret hx hb hr hlk dX10_at_17 (by first | rfl | (simp [zb, c5]; done))
  · have c5 := zb_n0.mp c5
    refine lv_aload_n hx hb dX10_at_8 rfl (lv_at hl 0 rfl) ?_
    refine lv_iload_n hx hb dX10_at_9 rfl (lv_at hl 1 rfl) ?_
    refine rd_callV (As := [.int x]) (rest := []) hx hb hml hown hts hE hl.1 (c_X10_thingAt l G q0 q1 q2 q3 q4 q5 q6 q7 q8 q9 q10 q11 q12 q13 q14 tx ro co mp my md mr dr nw tk cs sa go to ty dm at_ so de ke sm n x (by first | assumption | omega) (by first | assumption | omega)) (cw_X10_119 hts) ⟨(Nat.le_of_ble_eq_true rfl), (Nat.le_of_ble_eq_true rfl)⟩ ⟨Nat.zero_le _, Nat.zero_le _⟩ rfl (sub_P hP [0, 1, 2, 3, 4, 5, 6, 7, 8, 9, 10, 11, 12, 13, 14] rfl) rfl rfl rfl rfl (Nat.le_of_ble_eq_true rfl) dX10_at_10 ?_
    refine lv_goto (tgt := 17) hx hb dX10_at_13 (by decide) ?_
    exact rd_iret hx hb hr hlk dX10_at_17 (by first | rfl | (simp [zb, c5]; done))

set_option maxHeartbeats 4000000 in
set_option maxRecDepth 100000 in
theorem c_X10_thing (l : Launch) (G : Gv) (q0 : Nat) (q1 : Nat) (q2 : Nat) (q3 : Nat) (q4 : Nat) (q5 : Nat) (q6 : Nat) (q7 : Nat) (q8 : Nat) (q9 : Nat) (q10 : Nat) (q11 : Nat) (q12 : Nat) (q13 : Nat) (q14 : Nat) (tx : Nat → Int32) (ro : Nat → Int32) (co : Nat → Int32) (mp : Nat → Int32) (my : Nat → Int32) (md : Nat → Int32) (mr : Nat → Int32) (dr : Nat → Int32) (nw : Nat → Int32) (tk : Nat → Int32) (cs : Nat → Int32) (sa : Nat → Int32) (go : Nat → Int32) (to : Nat → Int32) (ty : Nat) (dm : Nat) (at_ : Nat) (so : Bool) (de : Nat) (ke : Nat) (sm : Nat) (n : Nat) (t : Int32) (w : Int32) (hn1 : nw 1 = nI n) (hn : n ≤ 10) : Rd l yX10_thing cX10_thing 3 (some .int) (rmz 2 43) G [.ref q0, .int t, .int w] [(q0, .inr (10, [.ref q1, .int (nI ty), .ref q2, .ref q3, .ref q4, .ref q5, .ref q6, .ref q7, .ref q8, .int (nI dm), .int (nI at_), .int (zb so), .ref q9, .int (nI de), .int (nI ke), .ref q10, .ref q11, .ref q12, .int (nI sm), .ref q13, .ref q14])), (q1, .inl (kB G, 200, .inl tx)), (q2, .inl (kI G, 2, .inl ro)), (q3, .inl (kI G, 2, .inl co)), (q4, .inl (kI G, 2, .inl mp)), (q5, .inl (kI G, 10, .inl my)), (q6, .inl (kI G, 10, .inl md)), (q7, .inl (kI G, 10, .inl mr)), (q8, .inl (kI G, 40, .inl dr)), (q9, .inl (kI G, 504, .inl nw)), (q10, .inl (kI G, 64, .inl tk)), (q11, .inl (kI G, 64, .inl cs)), (q12, .inl (kI G, 12, .inl sa)), (q13, .inl (kI G, 8, .inl go)), (q14, .inl (kI G, 2048, .inl to))] (.int (thM nw n t w)) := by
  refine Rd.ofW (by decide) (Nat.le_of_ble_eq_true rfl) ?_
  intro p e s m below meth c ls hx hb hml hr hown hts hlk hP hE hl
  have hl : lv_has ls 3 [(0, .ref q0), (1, .int t), (2, .int w)] := hl
  refine lv_aload_n hx hb dX10_thing_0 rfl (lv_at hl 0 rfl) ?_
  refine lv_iload_n hx hb dX10_thing_1 rfl (lv_at hl 1 rfl) ?_
  refine rd_callV (As := [.int t]) (rest := []) hx hb hml hown hts hE hl.1 (c_X10_isThing l G q0 q1 q2 q3 q4 q5 q6 q7 q8 q9 q10 q11 q12 q13 q14 tx ro co mp my md mr dr nw tk cs sa go to ty dm at_ so de ke sm n t (by first | assumption | omega) (by first | assumption | omega)) (cw_X10_106 hts) ⟨(Nat.le_of_ble_eq_true rfl), (Nat.le_of_ble_eq_true rfl)⟩ ⟨Nat.zero_le _, Nat.zero_le _⟩ rfl (sub_P hP [0, 1, 2, 3, 4, 5, 6, 7, 8, 9, 10, 11, 12, 13, 14] rfl) rfl rfl rfl rfl (Nat.le_of_ble_eq_true rfl) dX10_thing_2 ?_
  refine lv_if_eq (tgt := 17) hx hb dX10_thing_5 (by decide) (fun c5 => ?_) (fun c5 => ?_)
  · have c5 := zb_0.mp c5
    refine lv_iconst (v := -1) hx hb dX10_thing_17 (by decide) ?_
    exact rd_iret hx hb hr hlk dX10_thing_18 (by first | (simp [thM, c5]; done) | (have g0 := h5 0 (by decide) (by decide); have g1 := h5 1 (by decide) (by decide); have g2 := h5 2 (by decide) (by decide); have g3 := h5 3 (by decide) (by decide); have g4 := h5 4 (by decide) (by decide); have g5 := h5 5 (by decide) (by decide); have g0 : ¬ w = 0 := g0; have g1 : ¬ w = 1 := g1; have g2 : ¬ w = 2 := g2; have g3 : ¬ w = 3 := g3; have g4 : ¬ w = 4 := g4; have g5 : ¬ w = 5 := g5; simp [thM, g0, g1, g2, g3, g4, g5]))
  · have c5 := zb_n0.mp c5
    obtain ⟨j, hj, rfl⟩ := inB_nat c5 (by omega)
    have c5 := c5
    refine lv_iload_n hx hb dX10_thing_8 rfl (lv_at hl 2 rfl) ?_
    refine lv_iconst (v := 0) hx hb dX10_thing_9 (by decide) ?_
    refine lv_iconst (v := 5) hx hb dX10_thing_10 (by decide) ?_
    refine rd_callS (As := [.int w, .int 0, .int 5]) (rest := []) hx hb hml hown hts hE hl.1 (c_X10_in l G w 0 5 ) (cs_X10_61 hts) ⟨(Nat.le_of_ble_eq_true rfl), (Nat.le_of_ble_eq_true rfl)⟩ ⟨Nat.zero_le _, Nat.zero_le _⟩ rfl (sub_P hP [] rfl) rfl (Nat.le_of_ble_eq_true rfl) dX10_thing_11 ?_
    refine lv_if_ne (tgt := 19) hx hb dX10_thing_14 (by decide) (fun c14 => ?_) (fun c14 => ?_)
    · have c14 := zb_n0.mp c14
      have h5 := inn_nat (n := 5) (by decide) c14
      refine lv_iload_n hx hb dX10_thing_19 rfl (lv_at hl 2 rfl) ?_
      refine lv_iconst (v := 2) hx hb dX10_thing_20 (by decide) ?_
      refine lv_icmp_ne (tgt := 41) hx hb dX10_thing_21 (by decide) (fun c21 => ?_) (fun c21 => ?_)
      · refine lv_iload_n hx hb dX10_thing_41 rfl (lv_at hl 2 rfl) ?_
        refine lv_iconst (v := 4) hx hb dX10_thing_42 (by decide) ?_
        refine lv_icmp_ge (tgt := 62) hx hb dX10_thing_43 (by decide) (fun c43 => ?_) (fun c43 => ?_)
        · refine lv_iload_n hx hb dX10_thing_62 rfl (lv_at hl 2 rfl) ?_
          refine lv_iconst (v := 4) hx hb dX10_thing_63 (by decide) ?_
          refine lv_icmp_ne (tgt := 85) hx hb dX10_thing_64 (by decide) (fun c64 => ?_) (fun c64 => ?_)
          · refine lv_aload_n hx hb dX10_thing_85 rfl (lv_at hl 0 rfl) ?_
            refine lv_iconst (v := 0) hx hb dX10_thing_86 (by decide) ?_
            refine lv_iload_n hx hb dX10_thing_87 rfl (lv_at hl 1 rfl) ?_
            refine lv_aload_n hx hb dX10_thing_88 rfl (lv_at hl 0 rfl) ?_
            refine va_get hx hb hts inlX10 hown hE.1 hP 0 rfl rfl 12 (by decide) (fl_X10_35 hts) (fun _ h9 => h9) rfl dX10_thing_89 ?_
            refine lv_iconst (v := 0) hx hb dX10_thing_92 (by decide) ?_
            refine va_iald hx hb hE.1 hP 9 0 rfl rfl (inB_iff.mp (by decide)) dX10_thing_93 ?_
            rw [show (0 : Int32).toNatClampNeg = 0 from rfl]
            refine rd_callV (As := [.int 0, .int (nI j), .int (nw 0)]) (rest := []) hx hb hml hown hts hE hl.1 (c_X10_isLost l G q0 q1 q2 q3 q4 q5 q6 q7 q8 q9 q10 q11 q12 q13 q14 tx ro co mp my md mr dr nw tk cs sa go to ty dm at_ so de ke sm 0 j (nw 0) (by decide) (by first | assumption | omega)) (cw_X10_113 hts) ⟨(Nat.le_of_ble_eq_true rfl), (Nat.le_of_ble_eq_true rfl)⟩ ⟨Nat.zero_le _, Nat.zero_le _⟩ rfl (sub_P hP [0, 1, 2, 3, 4, 5, 6, 7, 8, 9, 10, 11, 12, 13, 14] rfl) rfl rfl rfl rfl (Nat.le_of_ble_eq_true rfl) dX10_thing_94 ?_
            refine lv_if_eq (tgt := 104) hx hb dX10_thing_97 (by decide) (fun c97 => ?_) (fun c97 => ?_)
            · have c97 := zb_0.mp c97
              refine lv_iconst (v := 0) hx hb dX10_thing_104 (by decide) ?_
              exact rd_iret hx hb hr hlk dX10_thing_105 (by first | (rw [thM_5 c5 (by omega) h5 c43 c64, c97]; rfl) | (rw [c64, thM_4 c5 (by omega), c79]; rfl) | (rw [thM_v c5 (by omega) hv (fun z => by subst z; first | exact absurd rfl c21 | exact c35)]))
            · have c97 := zb_n0.mp c97
              refine lv_iconst (v := 1) hx hb dX10_thing_100 (by decide) ?_
              refine lv_goto (tgt := 105) hx hb dX10_thing_101 (by decide) ?_
              exact rd_iret hx hb hr hlk dX10_thing_105 (by first | (rw [thM_5 c5 (by omega) h5 c43 c64, c97]; rfl) | (rw [c64, thM_4 c5 (by omega), c79]; rfl) | (rw [thM_v c5 (by omega) hv (fun z => by subst z; first | exact absurd rfl c21 | exact c35)]))
          · refine lv_aload_n hx hb dX10_thing_67 rfl (lv_at hl 0 rfl) ?_
            refine lv_iconst (v := 0) hx hb dX10_thing_68 (by decide) ?_
            refine lv_iload_n hx hb dX10_thing_69 rfl (lv_at hl 1 rfl) ?_
            refine lv_aload_n hx hb dX10_thing_70 rfl (lv_at hl 0 rfl) ?_
            refine va_get hx hb hts inlX10 hown hE.1 hP 0 rfl rfl 12 (by decide) (fl_X10_35 hts) (fun _ h9 => h9) rfl dX10_thing_71 ?_
            refine lv_iconst (v := 0) hx hb dX10_thing_74 (by decide) ?_
            refine va_iald hx hb hE.1 hP 9 0 rfl rfl (inB_iff.mp (by decide)) dX10_thing_75 ?_
            rw [show (0 : Int32).toNatClampNeg = 0 from rfl]
            refine rd_callV (As := [.int 0, .int (nI j), .int (nw 0)]) (rest := []) hx hb hml hown hts hE hl.1 (c_X10_stands l G q0 q1 q2 q3 q4 q5 q6 q7 q8 q9 q10 q11 q12 q13 q14 tx ro co mp my md mr dr nw tk cs sa go to ty dm at_ so de ke sm 0 j (nw 0) (by decide) (by first | assumption | omega)) (cw_X10_110 hts) ⟨(Nat.le_of_ble_eq_true rfl), (Nat.le_of_ble_eq_true rfl)⟩ ⟨Nat.zero_le _, Nat.zero_le _⟩ rfl (sub_P hP [0, 1, 2, 3, 4, 5, 6, 7, 8, 9, 10, 11, 12, 13, 14] rfl) rfl rfl rfl rfl (Nat.le_of_ble_eq_true rfl) dX10_thing_76 ?_
            refine lv_if_eq (tgt := 104) hx hb dX10_thing_79 (by decide) (fun c79 => ?_) (fun c79 => ?_)
            · have c79 := zb_0.mp c79
              refine lv_iconst (v := 0) hx hb dX10_thing_104 (by decide) ?_
              exact rd_iret hx hb hr hlk dX10_thing_105 (by first | (rw [thM_5 c5 (by omega) h5 c43 c64, c97]; rfl) | (rw [c64, thM_4 c5 (by omega), c79]; rfl) | (rw [thM_v c5 (by omega) hv (fun z => by subst z; first | exact absurd rfl c21 | exact c35)]))
            · have c79 := zb_n0.mp c79
              refine lv_goto (tgt := 100) hx hb dX10_thing_82 (by decide) ?_
              refine lv_iconst (v := 1) hx hb dX10_thing_100 (by decide) ?_
              refine lv_goto (tgt := 105) hx hb dX10_thing_101 (by decide) ?_
              exact rd_iret hx hb hr hlk dX10_thing_105 (by first | (rw [thM_5 c5 (by omega) h5 c43 c64, c97]; rfl) | (rw [c64, thM_4 c5 (by omega), c79]; rfl) | (rw [thM_v c5 (by omega) hv (fun z => by subst z; first | exact absurd rfl c21 | exact c35)]))
        · obtain ⟨v, hv, rfl⟩ : ∃ v : Nat, v < 4 ∧ w = nI v := by obtain ⟨v, h1, rfl⟩ := h5; exact ⟨v, lt_of_nle (n := 4) (by omega) (by decide) c43, rfl⟩
          refine lv_aload_n hx hb dX10_thing_46 rfl (lv_at hl 0 rfl) ?_
          refine va_get hx hb hts inlX10 hown hE.1 hP 0 rfl rfl 12 (by decide) (fl_X10_35 hts) (fun _ h9 => h9) rfl dX10_thing_47 ?_
          refine lv_iconst (v := 2) hx hb dX10_thing_50 (by decide) ?_
          refine lv_bipush (v := 10) hx hb dX10_thing_51 (by decide) ?_
          refine lv_iload_n hx hb dX10_thing_53 rfl (lv_at hl 2 rfl) ?_
          refine lv_imul hx hb dX10_thing_54 ?_
          rw [show (10 : Int32) * (nI v) = nI (10 * v) from pk_mul 10 v]
          refine lv_iadd hx hb dX10_thing_55 ?_
          rw [show (2 : Int32) + (nI (10 * v)) = nI (2 + (10 * v)) from nI_add 2 (10 * v)]
          refine lv_iload_n hx hb dX10_thing_56 rfl (lv_at hl 1 rfl) ?_
          refine lv_iadd hx hb dX10_thing_57 ?_
          rw [show (nI (2 + (10 * v))) + (nI j) = nI (2 + (10 * v) + j) from nI_add (2 + (10 * v)) j]
          refine va_iald hx hb hE.1 hP 9 0 rfl rfl (vp_in_nI (by omega) (by omega)) dX10_thing_58 ?_
          rw [nI_clamp (show 2 + (10 * v) + j < 2 ^ 31 by omega)]
          refine lv_goto (tgt := 105) hx hb dX10_thing_59 (by decide) ?_
          exact rd_iret hx hb hr hlk dX10_thing_105 (by first | (rw [thM_5 c5 (by omega) h5 c43 c64, c97]; rfl) | (rw [c64, thM_4 c5 (by omega), c79]; rfl) | (rw [thM_v c5 (by omega) hv (fun z => by subst z; first | exact absurd rfl c21 | exact c35)]))
      · refine lv_aload_n hx hb dX10_thing_24 rfl (lv_at hl 0 rfl) ?_
        refine va_get hx hb hts inlX10 hown hE.1 hP 0 rfl rfl 12 (by decide) (fl_X10_35 hts) (fun _ h9 => h9) rfl dX10_thing_25 ?_
        refine lv_bipush (v := 22) hx hb dX10_thing_28 (by decide) ?_
        refine lv_iload_n hx hb dX10_thing_30 rfl (lv_at hl 1 rfl) ?_
        refine lv_iadd hx hb dX10_thing_31 ?_
        rw [show (22 : Int32) + (nI j) = nI (22 + j) from nI_add 22 j]
        refine va_iald hx hb hE.1 hP 9 0 rfl rfl (vp_in_nI (by omega) (by omega)) dX10_thing_32 ?_
        rw [nI_clamp (show 22 + j < 2 ^ 31 by omega)]
        refine lv_ldc hx hb hown (cn_X10_57 hts) dX10_thing_33 ?_
        refine lv_icmp_ne (tgt := 41) hx hb dX10_thing_35 (by decide) (fun c35 => ?_) (fun c35 => ?_)
        · refine lv_iload_n hx hb dX10_thing_41 rfl (lv_at hl 2 rfl) ?_
          refine lv_iconst (v := 4) hx hb dX10_thing_42 (by decide) ?_
          refine lv_icmp_ge (tgt := 62) hx hb dX10_thing_43 (by decide) (fun c43 => ?_) (fun c43 => ?_)
          · refine lv_iload_n hx hb dX10_thing_62 rfl (lv_at hl 2 rfl) ?_
            refine lv_iconst (v := 4) hx hb dX10_thing_63 (by decide) ?_
            refine lv_icmp_ne (tgt := 85) hx hb dX10_thing_64 (by decide) (fun c64 => ?_) (fun c64 => ?_)
            · refine lv_aload_n hx hb dX10_thing_85 rfl (lv_at hl 0 rfl) ?_
              refine lv_iconst (v := 0) hx hb dX10_thing_86 (by decide) ?_
              refine lv_iload_n hx hb dX10_thing_87 rfl (lv_at hl 1 rfl) ?_
              refine lv_aload_n hx hb dX10_thing_88 rfl (lv_at hl 0 rfl) ?_
              refine va_get hx hb hts inlX10 hown hE.1 hP 0 rfl rfl 12 (by decide) (fl_X10_35 hts) (fun _ h9 => h9) rfl dX10_thing_89 ?_
              refine lv_iconst (v := 0) hx hb dX10_thing_92 (by decide) ?_
              refine va_iald hx hb hE.1 hP 9 0 rfl rfl (inB_iff.mp (by decide)) dX10_thing_93 ?_
              rw [show (0 : Int32).toNatClampNeg = 0 from rfl]
              refine rd_callV (As := [.int 0, .int (nI j), .int (nw 0)]) (rest := []) hx hb hml hown hts hE hl.1 (c_X10_isLost l G q0 q1 q2 q3 q4 q5 q6 q7 q8 q9 q10 q11 q12 q13 q14 tx ro co mp my md mr dr nw tk cs sa go to ty dm at_ so de ke sm 0 j (nw 0) (by decide) (by first | assumption | omega)) (cw_X10_113 hts) ⟨(Nat.le_of_ble_eq_true rfl), (Nat.le_of_ble_eq_true rfl)⟩ ⟨Nat.zero_le _, Nat.zero_le _⟩ rfl (sub_P hP [0, 1, 2, 3, 4, 5, 6, 7, 8, 9, 10, 11, 12, 13, 14] rfl) rfl rfl rfl rfl (Nat.le_of_ble_eq_true rfl) dX10_thing_94 ?_
              refine lv_if_eq (tgt := 104) hx hb dX10_thing_97 (by decide) (fun c97 => ?_) (fun c97 => ?_)
              · have c97 := zb_0.mp c97
                refine lv_iconst (v := 0) hx hb dX10_thing_104 (by decide) ?_
                exact rd_iret hx hb hr hlk dX10_thing_105 (by first | (rw [thM_5 c5 (by omega) h5 c43 c64, c97]; rfl) | (rw [c64, thM_4 c5 (by omega), c79]; rfl) | (rw [thM_v c5 (by omega) hv (fun z => by subst z; first | exact absurd rfl c21 | exact c35)]))
              · have c97 := zb_n0.mp c97
                refine lv_iconst (v := 1) hx hb dX10_thing_100 (by decide) ?_
                refine lv_goto (tgt := 105) hx hb dX10_thing_101 (by decide) ?_
                exact rd_iret hx hb hr hlk dX10_thing_105 (by first | (rw [thM_5 c5 (by omega) h5 c43 c64, c97]; rfl) | (rw [c64, thM_4 c5 (by omega), c79]; rfl) | (rw [thM_v c5 (by omega) hv (fun z => by subst z; first | exact absurd rfl c21 | exact c35)]))
            · refine lv_aload_n hx hb dX10_thing_67 rfl (lv_at hl 0 rfl) ?_
              refine lv_iconst (v := 0) hx hb dX10_thing_68 (by decide) ?_
              refine lv_iload_n hx hb dX10_thing_69 rfl (lv_at hl 1 rfl) ?_
              refine lv_aload_n hx hb dX10_thing_70 rfl (lv_at hl 0 rfl) ?_
              refine va_get hx hb hts inlX10 hown hE.1 hP 0 rfl rfl 12 (by decide) (fl_X10_35 hts) (fun _ h9 => h9) rfl dX10_thing_71 ?_
              refine lv_iconst (v := 0) hx hb dX10_thing_74 (by decide) ?_
              refine va_iald hx hb hE.1 hP 9 0 rfl rfl (inB_iff.mp (by decide)) dX10_thing_75 ?_
              rw [show (0 : Int32).toNatClampNeg = 0 from rfl]
              refine rd_callV (As := [.int 0, .int (nI j), .int (nw 0)]) (rest := []) hx hb hml hown hts hE hl.1 (c_X10_stands l G q0 q1 q2 q3 q4 q5 q6 q7 q8 q9 q10 q11 q12 q13 q14 tx ro co mp my md mr dr nw tk cs sa go to ty dm at_ so de ke sm 0 j (nw 0) (by decide) (by first | assumption | omega)) (cw_X10_110 hts) ⟨(Nat.le_of_ble_eq_true rfl), (Nat.le_of_ble_eq_true rfl)⟩ ⟨Nat.zero_le _, Nat.zero_le _⟩ rfl (sub_P hP [0, 1, 2, 3, 4, 5, 6, 7, 8, 9, 10, 11, 12, 13, 14] rfl) rfl rfl rfl rfl (Nat.le_of_ble_eq_true rfl) dX10_thing_76 ?_
              refine lv_if_eq (tgt := 104) hx hb dX10_thing_79 (by decide) (fun c79 => ?_) (fun c79 => ?_)
              · have c79 := zb_0.mp c79
                refine lv_iconst (v := 0) hx hb dX10_thing_104 (by decide) ?_
                exact rd_iret hx hb hr hlk dX10_thing_105 (by first | (rw [thM_5 c5 (by omega) h5 c43 c64, c97]; rfl) | (rw [c64, thM_4 c5 (by omega), c79]; rfl) | (rw [thM_v c5 (by omega) hv (fun z => by subst z; first | exact absurd rfl c21 | exact c35)]))
              · have c79 := zb_n0.mp c79
                refine lv_goto (tgt := 100) hx hb dX10_thing_82 (by decide) ?_
                refine lv_iconst (v := 1) hx hb dX10_thing_100 (by decide) ?_
                refine lv_goto (tgt := 105) hx hb dX10_thing_101 (by decide) ?_
                exact rd_iret hx hb hr hlk dX10_thing_105 (by first | (rw [thM_5 c5 (by omega) h5 c43 c64, c97]; rfl) | (rw [c64, thM_4 c5 (by omega), c79]; rfl) | (rw [thM_v c5 (by omega) hv (fun z => by subst z; first | exact absurd rfl c21 | exact c35)]))
          · obtain ⟨v, hv, rfl⟩ : ∃ v : Nat, v < 4 ∧ w = nI v := by obtain ⟨v, h1, rfl⟩ := h5; exact ⟨v, lt_of_nle (n := 4) (by omega) (by decide) c43, rfl⟩
            refine lv_aload_n hx hb dX10_thing_46 rfl (lv_at hl 0 rfl) ?_
            refine va_get hx hb hts inlX10 hown hE.1 hP 0 rfl rfl 12 (by decide) (fl_X10_35 hts) (fun _ h9 => h9) rfl dX10_thing_47 ?_
            refine lv_iconst (v := 2) hx hb dX10_thing_50 (by decide) ?_
            refine lv_bipush (v := 10) hx hb dX10_thing_51 (by decide) ?_
            refine lv_iload_n hx hb dX10_thing_53 rfl (lv_at hl 2 rfl) ?_
            refine lv_imul hx hb dX10_thing_54 ?_
            rw [show (10 : Int32) * (nI v) = nI (10 * v) from pk_mul 10 v]
            refine lv_iadd hx hb dX10_thing_55 ?_
            rw [show (2 : Int32) + (nI (10 * v)) = nI (2 + (10 * v)) from nI_add 2 (10 * v)]
            refine lv_iload_n hx hb dX10_thing_56 rfl (lv_at hl 1 rfl) ?_
            refine lv_iadd hx hb dX10_thing_57 ?_
            rw [show (nI (2 + (10 * v))) + (nI j) = nI (2 + (10 * v) + j) from nI_add (2 + (10 * v)) j]
            refine va_iald hx hb hE.1 hP 9 0 rfl rfl (vp_in_nI (by omega) (by omega)) dX10_thing_58 ?_
            rw [nI_clamp (show 2 + (10 * v) + j < 2 ^ 31 by omega)]
            refine lv_goto (tgt := 105) hx hb dX10_thing_59 (by decide) ?_
            exact rd_iret hx hb hr hlk dX10_thing_105 (by first | (rw [thM_5 c5 (by omega) h5 c43 c64, c97]; rfl) | (rw [c64, thM_4 c5 (by omega), c79]; rfl) | (rw [thM_v c5 (by omega) hv (fun z => by subst z; first | exact absurd rfl c21 | exact c35)]))
        · refine lv_bipush (v := 99) hx hb dX10_thing_38 (by decide) ?_
          exact rd_iret hx hb hr hlk dX10_thing_40 (by subst c21; simp [thM, c5, fal, ixx (show j < 2 ^ 31 by omega), c35])
    · have c14 := zb_0.mp c14
      have h5 := inn_no (n := 5) c14
      refine lv_iconst (v := -1) hx hb dX10_thing_17 (by decide) ?_
      exact rd_iret hx hb hr hlk dX10_thing_18 (by first | (simp [thM, c5]; done) | (have g0 := h5 0 (by decide) (by decide); have g1 := h5 1 (by decide) (by decide); have g2 := h5 2 (by decide) (by decide); have g3 := h5 3 (by decide) (by decide); have g4 := h5 4 (by decide) (by decide); have g5 := h5 5 (by decide) (by decide); have g0 : ¬ w = 0 := g0; have g1 : ¬ w = 1 := g1; have g2 : ¬ w = 2 := g2; have g3 : ¬ w = 3 := g3; have g4 : ¬ w = 4 := g4; have g5 : ¬ w = 5 := g5; simp [thM, g0, g1, g2, g3, g4, g5]))
