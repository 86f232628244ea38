/-! what small methods answer -/
theorem lgc_eq {x y : Int64} : lg_cmp x y = 0 ↔ x = y := by
  unfold lg_cmp
  by_cases h : x > y
  · rw [if_pos h]
    refine ⟨fun z => absurd z (by decide), fun z => ?_⟩
    subst z
    exact absurd h Int64.lt_irrefl
  · rw [if_neg h]
    by_cases h2 : x = y
    · simp [h2]
    · rw [if_neg h2]
      exact ⟨fun z => absurd z (by decide), fun z => absurd z h2⟩
theorem lgc_ne {x y : Int64} : ¬ lg_cmp x y = 0 ↔ ¬ x = y := not_congr lgc_eq
def bt (x : Int32) : Int64 := 1 <<< (x.toInt64 &&& 63)
def hs (w : Int64) (x : Int32) : Bool := !decide (w &&& bt x = 0)
def zo (w : Int32) : Bool := decide (w = 0) || decide (w = 1)
def orN (x : Int32) : Int32 := if 1000000 ≤ x then -4 else x
def drw (z k : Int32) : Int32 := (((7919 * z.toInt64 + 6151 * k.toInt64 + 1) * (7919 * z.toInt64 + 6151 * k.toInt64 + 1)) - ((7919 * z.toInt64 + 6151 * k.toInt64 + 1) * (7919 * z.toInt64 + 6151 * k.toInt64 + 1)) / 65521 * 65521).toInt32
/-- the first place, from i on, of f places, where p holds; -4 -/
def fsx (p : Nat → Bool) : Nat → Nat → Int32
  | 0, _ => -4
  | f + 1, i => if p i then nI i else fsx p f (i + 1)
theorem fsx_end {p : Nat → Bool} {n k : Nat} (h : n ≤ k) : fsx p (n - k) k = -4 := by rw [show n - k = 0 by omega]; rfl
theorem fsx_hit {p : Nat → Bool} {n k : Nat} (hk : k < n) (h : p k = true) : fsx p (n - k) k = nI k := by
  rw [show n - k = (n - (k + 1)) + 1 by omega, fsx, if_pos h]
theorem fsx_step {p : Nat → Bool} {n k : Nat} (hk : k < n) (h : p k = false) : fsx p (n - k) k = fsx p (n - (k + 1)) (k + 1) := by
  rw [show n - k = (n - (k + 1)) + 1 by omega, fsx, if_neg (by rw [h]; decide)]
theorem ixx {k : Nat} (hk : k < 2 ^ 31) : ix (nI k) = k := nI_clamp hk
/-- what a row holds at an int, if it is one of its n places; BAD -/
def atI (n : Nat) (X : Nat → Int32) (t : Int32) : Int32 := if inB t n then X (ix t) else -1
theorem atI_nI {n k : Nat} {X : Nat → Int32} (hk : k < n) (hn : n ≤ 1000) : atI n X (nI k) = X k := by
  rw [atI, inB_nI (by omega), ixx (by omega)]
  simp [hk]
def stB (B F : Nat → Int32) (w : Int32) (k : Nat) : Bool := !decide (w < B k) && !decide (F k ≤ w)
def loB (F : Nat → Int32) (w : Int32) (k : Nat) : Bool := !decide (w < F k)
def stI (n : Nat) (B F : Nat → Int32) (t w : Int32) : Bool := inB t n && stB B F w (ix t)
def loI (n : Nat) (F : Nat → Int32) (t w : Int32) : Bool := inB t n && loB F w (ix t)
def faI (n : Nat) (F : Nat → Int32) (t w : Int32) : Bool := inB t n && decide (F (ix t) = w)
def cbI (n : Nat) (B F K : Nat → Int32) (y t : Int32) : Bool := stI n B F t y && !decide (atI n K t = 1)
theorem stI_nI {n k : Nat} {B F : Nat → Int32} {w : Int32} (hk : k < n) (hn : n ≤ 1000) : stI n B F (nI k) w = stB B F w k := by
  rw [stI, inB_nI (by omega), ixx (by omega)]
  simp [hk]
theorem loI_nI {n k : Nat} {F : Nat → Int32} {w : Int32} (hk : k < n) (hn : n ≤ 1000) : loI n F (nI k) w = loB F w k := by
  rw [loI, inB_nI (by omega), ixx (by omega)]
  simp [hk]
theorem faI_nI {n k : Nat} {F : Nat → Int32} {w : Int32} (hk : k < n) (hn : n ≤ 1000) : faI n F (nI k) w = decide (F k = w) := by
  rw [faI, inB_nI (by omega), ixx (by omega)]
  simp [hk]
def toldI (n : Nat) (F : Nat → Int32) (t : Int32) : Int32 := if inB t n then (if 99 < F (ix t) then 99 else F (ix t)) else -1
def sfI (n : Nat) (F : Nat → Int32) (t y : Int32) : Nat → Int32 := if inB t n then upd F (ix t) y else F
def remI (d : Int32) (n : Nat) : Int32 := d - d / nI n * nI n
def bbI (n : Nat) (B F K : Nat → Int32) (y d : Int32) : Nat → Int32 := if d / 16 - d / 16 / 3 * 3 = 0 then (if cbI n B F K y (remI d n) then sfI n F (remI d n) y else F) else F
/-- cells that stand in a year, that are lost by it, as bits -/
def stC (C B F : Nat → Int32) (w : Int32) (n : Nat) : Int64 := it (fun k a => a ||| (if stB B F w k then bt (C k) else 0)) 0 n
def loC (C F : Nat → Int32) (w : Int32) (n : Nat) : Int64 := it (fun k a => a ||| (if loB F w k then bt (C k) else 0)) 0 n
def thI (C : Nat → Int32) (n : Nat) (x : Int32) : Int32 := fsx (fun j => decide (C j = x)) n 0
def bcn (i0 : Int64) : Int32 :=
  let i1 := i0 - ((i0.toUInt64 >>> ((1 : Int32).toInt64.toUInt64 &&& Int64.toUInt64 63)).toInt64 &&& 6148914691236517205)
  let i2 := (i1 &&& 3689348814741910323) + ((i1.toUInt64 >>> ((2 : Int32).toInt64.toUInt64 &&& Int64.toUInt64 63)).toInt64 &&& 3689348814741910323)
  let i3 := (i2 + (i2.toUInt64 >>> ((4 : Int32).toInt64.toUInt64 &&& Int64.toUInt64 63)).toInt64) &&& 1085102592571150095
  let i4 := i3 + (i3.toUInt64 >>> ((8 : Int32).toInt64.toUInt64 &&& Int64.toUInt64 63)).toInt64
  let i5 := i4 + (i4.toUInt64 >>> ((16 : Int32).toInt64.toUInt64 &&& Int64.toUInt64 63)).toInt64
  let i6 := i5 + (i5.toUInt64 >>> ((32 : Int32).toInt64.toUInt64 &&& Int64.toUInt64 63)).toInt64
  i6.toInt32 &&& 127
theorem nf_char : narrow .char (.int 0) = .int 0 := rfl

set_option maxHeartbeats 4000000 in
set_option maxRecDepth 100000 in
theorem c_J13_bitCount_95d88 (l : Launch) (G : Gv) (i0 : Int64)  : Rd l yJ13_bitCount_95d88 cJ13_bitCount_95d88 2 (some .int) (rmz 0 0) G [.long i0] [] (.int (bcn i0)) := by
  refine Rd.ofW (by decide) (Nat.le_of_ble_eq_true rfl) ?_
  intro p e s m below meth c ls hx hb hml hr hown hts hlk hP hE hl
  have hl : lv_has ls 2 [(0, .long i0)] := hl
  refine lv_lload_n hx hb dJ13_bitCount_95d88_0 rfl (lv_at hl 0 rfl) ?_
  refine lv_lload_n hx hb dJ13_bitCount_95d88_1 rfl (lv_at hl 0 rfl) ?_
  refine lv_iconst (v := 1) hx hb dJ13_bitCount_95d88_2 (by decide) ?_
  refine lv_lushr hx hb dJ13_bitCount_95d88_3 rfl ?_
  refine lv_ldc2 hx hb hown (cL_J13_314 hts) dJ13_bitCount_95d88_4 ?_
  refine lv_land hx hb dJ13_bitCount_95d88_7 ?_
  refine lv_lsub hx hb dJ13_bitCount_95d88_8 ?_
  refine lv_lstore_n (lv' := [(0, .long (i0 - (((i0.toUInt64 >>> ((1 : Int32).toInt64.toUInt64 &&& Int64.toUInt64 63)).toInt64) &&& 6148914691236517205)))]) hx hb dJ13_bitCount_95d88_9 rfl hl (by decide) rfl (fun ls hl => ?_)
  refine lv_lload_n hx hb dJ13_bitCount_95d88_10 rfl (lv_at hl 0 rfl) ?_
  refine lv_ldc2 hx hb hown (cL_J13_316 hts) dJ13_bitCount_95d88_11 ?_
  refine lv_land hx hb dJ13_bitCount_95d88_14 ?_
  refine lv_lload_n hx hb dJ13_bitCount_95d88_15 rfl (lv_at hl 0 rfl) ?_
  refine lv_iconst (v := 2) hx hb dJ13_bitCount_95d88_16 (by decide) ?_
  refine lv_lushr hx hb dJ13_bitCount_95d88_17 rfl ?_
  refine lv_ldc2 hx hb hown (cL_J13_316 hts) dJ13_bitCount_95d88_18 ?_
  refine lv_land hx hb dJ13_bitCount_95d88_21 ?_
  refine lv_ladd hx hb dJ13_bitCount_95d88_22 ?_
  refine lv_lstore_n (lv' := [(0, .long (((i0 - (((i0.toUInt64 >>> ((1 : Int32).toInt64.toUInt64 &&& Int64.toUInt64 63)).toInt64) &&& 6148914691236517205)) &&& 3689348814741910323) + ((((i0 - (((i0.toUInt64 >>> ((1 : Int32).toInt64.toUInt64 &&& Int64.toUInt64 63)).toInt64) &&& 6148914691236517205)).toUInt64 >>> ((2 : Int32).toInt64.toUInt64 &&& Int64.toUInt64 63)).toInt64) &&& 3689348814741910323)))]) hx hb dJ13_bitCount_95d88_23 rfl hl (by decide) rfl (fun ls hl => ?_)
  refine lv_lload_n hx hb dJ13_bitCount_95d88_24 rfl (lv_at hl 0 rfl) ?_
  refine lv_lload_n hx hb dJ13_bitCount_95d88_25 rfl (lv_at hl 0 rfl) ?_
  refine lv_iconst (v := 4) hx hb dJ13_bitCount_95d88_26 (by decide) ?_
  refine lv_lushr hx hb dJ13_bitCount_95d88_27 rfl ?_
  refine lv_ladd hx hb dJ13_bitCount_95d88_28 ?_
  refine lv_ldc2 hx hb hown (cL_J13_318 hts) dJ13_bitCount_95d88_29 ?_
  refine lv_land hx hb dJ13_bitCount_95d88_32 ?_
  refine lv_lstore_n (lv' := [(0, .long (((((i0 - (((i0.toUInt64 >>> ((1 : Int32).toInt64.toUInt64 &&& Int64.toUInt64 63)).toInt64) &&& 6148914691236517205)) &&& 3689348814741910323) + ((((i0 - (((i0.toUInt64 >>> ((1 : Int32).toInt64.toUInt64 &&& Int64.toUInt64 63)).toInt64) &&& 6148914691236517205)).toUInt64 >>> ((2 : Int32).toInt64.toUInt64 &&& Int64.toUInt64 63)).toInt64) &&& 3689348814741910323)) + (((((i0 - (((i0.toUInt64 >>> ((1 : Int32).toInt64.toUInt64 &&& Int64.toUInt64 63)).toInt64) &&& 6148914691236517205)) &&& 3689348814741910323) + ((((i0 - (((i0.toUInt64 >>> ((1 : Int32).toInt64.toUInt64 &&& Int64.toUInt64 63)).toInt64) &&& 6148914691236517205)).toUInt64 >>> ((2 : Int32).toInt64.toUInt64 &&& Int64.toUInt64 63)).toInt64) &&& 3689348814741910323)).toUInt64 >>> ((4 : Int32).toInt64.toUInt64 &&& Int64.toUInt64 63)).toInt64)) &&& 1085102592571150095))]) hx hb dJ13_bitCount_95d88_33 rfl hl (by decide) rfl (fun ls hl => ?_)
  refine lv_lload_n hx hb dJ13_bitCount_95d88_34 rfl (lv_at hl 0 rfl) ?_
  refine lv_lload_n hx hb dJ13_bitCount_95d88_35 rfl (lv_at hl 0 rfl) ?_
  refine lv_bipush (v := 8) hx hb dJ13_bitCount_95d88_36 (by decide) ?_
  refine lv_lushr hx hb dJ13_bitCount_95d88_38 rfl ?_
  refine lv_ladd hx hb dJ13_bitCount_95d88_39 ?_
  refine lv_lstore_n (lv' := [(0, .long ((((((i0 - (((i0.toUInt64 >>> ((1 : Int32).toInt64.toUInt64 &&& Int64.toUInt64 63)).toInt64) &&& 6148914691236517205)) &&& 3689348814741910323) + ((((i0 - (((i0.toUInt64 >>> ((1 : Int32).toInt64.toUInt64 &&& Int64.toUInt64 63)).toInt64) &&& 6148914691236517205)).toUInt64 >>> ((2 : Int32).toInt64.toUInt64 &&& Int64.toUInt64 63)).toInt64) &&& 3689348814741910323)) + (((((i0 - (((i0.toUInt64 >>> ((1 : Int32).toInt64.toUInt64 &&& Int64.toUInt64 63)).toInt64) &&& 6148914691236517205)) &&& 3689348814741910323) + ((((i0 - (((i0.toUInt64 >>> ((1 : Int32).toInt64.toUInt64 &&& Int64.toUInt64 63)).toInt64) &&& 6148914691236517205)).toUInt64 >>> ((2 : Int32).toInt64.toUInt64 &&& Int64.toUInt64 63)).toInt64) &&& 3689348814741910323)).toUInt64 >>> ((4 : Int32).toInt64.toUInt64 &&& Int64.toUInt64 63)).toInt64)) &&& 1085102592571150095) + (((((((i0 - (((i0.toUInt64 >>> ((1 : Int32).toInt64.toUInt64 &&& Int64.toUInt64 63)).toInt64) &&& 6148914691236517205)) &&& 3689348814741910323) + ((((i0 - (((i0.toUInt64 >>> ((1 : Int32).toInt64.toUInt64 &&& Int64.toUInt64 63)).toInt64) &&& 6148914691236517205)).toUInt64 >>> ((2 : Int32).toInt64.toUInt64 &&& Int64.toUInt64 63)).toInt64) &&& 3689348814741910323)) + (((((i0 - (((i0.toUInt64 >>> ((1 : Int32).toInt64.toUInt64 &&& Int64.toUInt64 63)).toInt64) &&& 6148914691236517205)) &&& 3689348814741910323) + ((((i0 - (((i0.toUInt64 >>> ((1 : Int32).toInt64.toUInt64 &&& Int64.toUInt64 63)).toInt64) &&& 6148914691236517205)).toUInt64 >>> ((2 : Int32).toInt64.toUInt64 &&& Int64.toUInt64 63)).toInt64) &&& 3689348814741910323)).toUInt64 >>> ((4 : Int32).toInt64.toUInt64 &&& Int64.toUInt64 63)).toInt64)) &&& 1085102592571150095).toUInt64 >>> ((8 : Int32).toInt64.toUInt64 &&& Int64.toUInt64 63)).toInt64)))]) hx hb dJ13_bitCount_95d88_40 rfl hl (by decide) rfl (fun ls hl => ?_)
  refine lv_lload_n hx hb dJ13_bitCount_95d88_41 rfl (lv_at hl 0 rfl) ?_
  refine lv_lload_n hx hb dJ13_bitCount_95d88_42 rfl (lv_at hl 0 rfl) ?_
  refine lv_bipush (v := 16) hx hb dJ13_bitCount_95d88_43 (by decide) ?_
  refine lv_lushr hx hb dJ13_bitCount_95d88_45 rfl ?_
  refine lv_ladd hx hb dJ13_bitCount_95d88_46 ?_
  refine lv_lstore_n (lv' := [(0, .long (((((((i0 - (((i0.toUInt64 >>> ((1 : Int32).toInt64.toUInt64 &&& Int64.toUInt64 63)).toInt64) &&& 6148914691236517205)) &&& 3689348814741910323) + ((((i0 - (((i0.toUInt64 >>> ((1 : Int32).toInt64.toUInt64 &&& Int64.toUInt64 63)).toInt64) &&& 6148914691236517205)).toUInt64 >>> ((2 : Int32).toInt64.toUInt64 &&& Int64.toUInt64 63)).toInt64) &&& 3689348814741910323)) + (((((i0 - (((i0.toUInt64 >>> ((1 : Int32).toInt64.toUInt64 &&& Int64.toUInt64 63)).toInt64) &&& 6148914691236517205)) &&& 3689348814741910323) + ((((i0 - (((i0.toUInt64 >>> ((1 : Int32).toInt64.toUInt64 &&& Int64.toUInt64 63)).toInt64) &&& 6148914691236517205)).toUInt64 >>> ((2 : Int32).toInt64.toUInt64 &&& Int64.toUInt64 63)).toInt64) &&& 3689348814741910323)).toUInt64 >>> ((4 : Int32).toInt64.toUInt64 &&& Int64.toUInt64 63)).toInt64)) &&& 1085102592571150095) + (((((((i0 - (((i0.toUInt64 >>> ((1 : Int32).toInt64.toUInt64 &&& Int64.toUInt64 63)).toInt64) &&& 6148914691236517205)) &&& 3689348814741910323) + ((((i0 - (((i0.toUInt64 >>> ((1 : Int32).toInt64.toUInt64 &&& Int64.toUInt64 63)).toInt64) &&& 6148914691236517205)).toUInt64 >>> ((2 : Int32).toInt64.toUInt64 &&& Int64.toUInt64 63)).toInt64) &&& 3689348814741910323)) + (((((i0 - (((i0.toUInt64 >>> ((1 : Int32).toInt64.toUInt64 &&& Int64.toUInt64 63)).toInt64) &&& 6148914691236517205)) &&& 3689348814741910323) + ((((i0 - (((i0.toUInt64 >>> ((1 : Int32).toInt64.toUInt64 &&& Int64.toUInt64 63)).toInt64) &&& 6148914691236517205)).toUInt64 >>> ((2 : Int32).toInt64.toUInt64 &&& Int64.toUInt64 63)).toInt64) &&& 3689348814741910323)).toUInt64 >>> ((4 : Int32).toInt64.toUInt64 &&& Int64.toUInt64 63)).toInt64)) &&& 1085102592571150095).toUInt64 >>> ((8 : Int32).toInt64.toUInt64 &&& Int64.toUInt64 63)).toInt64)) + ((((((((i0 - (((i0.toUInt64 >>> ((1 : Int32).toInt64.toUInt64 &&& Int64.toUInt64 63)).toInt64) &&& 6148914691236517205)) &&& 3689348814741910323) + ((((i0 - (((i0.toUInt64 >>> ((1 : Int32).toInt64.toUInt64 &&& Int64.toUInt64 63)).toInt64) &&& 6148914691236517205)).toUInt64 >>> ((2 : Int32).toInt64.toUInt64 &&& Int64.toUInt64 63)).toInt64) &&& 3689348814741910323)) + (((((i0 - (((i0.toUInt64 >>> ((1 : Int32).toInt64.toUInt64 &&& Int64.toUInt64 63)).toInt64) &&& 6148914691236517205)) &&& 3689348814741910323) + ((((i0 - (((i0.toUInt64 >>> ((1 : Int32).toInt64.toUInt64 &&& Int64.toUInt64 63)).toInt64) &&& 6148914691236517205)).toUInt64 >>> ((2 : Int32).toInt64.toUInt64 &&& Int64.toUInt64 63)).toInt64) &&& 3689348814741910323)).toUInt64 >>> ((4 : Int32).toInt64.toUInt64 &&& Int64.toUInt64 63)).toInt64)) &&& 1085102592571150095) + (((((((i0 - (((i0.toUInt64 >>> ((1 : Int32).toInt64.toUInt64 &&& Int64.toUInt64 63)).toInt64) &&& 6148914691236517205)) &&& 3689348814741910323) + ((((i0 - (((i0.toUInt64 >>> ((1 : Int32).toInt64.toUInt64 &&& Int64.toUInt64 63)).toInt64) &&& 6148914691236517205)).toUInt64 >>> ((2 : Int32).toInt64.toUInt64 &&& Int64.toUInt64 63)).toInt64) &&& 3689348814741910323)) + (((((i0 - (((i0.toUInt64 >>> ((1 : Int32).toInt64.toUInt64 &&& Int64.toUInt64 63)).toInt64) &&& 6148914691236517205)) &&& 3689348814741910323) + ((((i0 - (((i0.toUInt64 >>> ((1 : Int32).toInt64.toUInt64 &&& Int64.toUInt64 63)).toInt64) &&& 6148914691236517205)).toUInt64 >>> ((2 : Int32).toInt64.toUInt64 &&& Int64.toUInt64 63)).toInt64) &&& 3689348814741910323)).toUInt64 >>> ((4 : Int32).toInt64.toUInt64 &&& Int64.toUInt64 63)).toInt64)) &&& 1085102592571150095).toUInt64 >>> ((8 : Int32).toInt64.toUInt64 &&& Int64.toUInt64 63)).toInt64)).toUInt64 >>> ((16 : Int32).toInt64.toUInt64 &&& Int64.toUInt64 63)).toInt64)))]) hx hb dJ13_bitCount_95d88_47 rfl hl (by decide) rfl (fun ls hl => ?_)
  refine lv_lload_n hx hb dJ13_bitCount_95d88_48 rfl (lv_at hl 0 rfl) ?_
  refine lv_lload_n hx hb dJ13_bitCount_95d88_49 rfl (lv_at hl 0 rfl) ?_
  refine lv_bipush (v := 32) hx hb dJ13_bitCount_95d88_50 (by decide) ?_
  refine lv_lushr hx hb dJ13_bitCount_95d88_52 rfl ?_
  refine lv_ladd hx hb dJ13_bitCount_95d88_53 ?_
  refine lv_lstore_n (lv' := [(0, .long ((((((((i0 - (((i0.toUInt64 >>> ((1 : Int32).toInt64.toUInt64 &&& Int64.toUInt64 63)).toInt64) &&& 6148914691236517205)) &&& 3689348814741910323) + ((((i0 - (((i0.toUInt64 >>> ((1 : Int32).toInt64.toUInt64 &&& Int64.toUInt64 63)).toInt64) &&& 6148914691236517205)).toUInt64 >>> ((2 : Int32).toInt64.toUInt64 &&& Int64.toUInt64 63)).toInt64) &&& 3689348814741910323)) + (((((i0 - (((i0.toUInt64 >>> ((1 : Int32).toInt64.toUInt64 &&& Int64.toUInt64 63)).toInt64) &&& 6148914691236517205)) &&& 3689348814741910323) + ((((i0 - (((i0.toUInt64 >>> ((1 : Int32).toInt64.toUInt64 &&& Int64.toUInt64 63)).toInt64) &&& 6148914691236517205)).toUInt64 >>> ((2 : Int32).toInt64.toUInt64 &&& Int64.toUInt64 63)).toInt64) &&& 3689348814741910323)).toUInt64 >>> ((4 : Int32).toInt64.toUInt64 &&& Int64.toUInt64 63)).toInt64)) &&& 1085102592571150095) + (((((((i0 - (((i0.toUInt64 >>> ((1 : Int32).toInt64.toUInt64 &&& Int64.toUInt64 63)).toInt64) &&& 6148914691236517205)) &&& 3689348814741910323) + ((((i0 - (((i0.toUInt64 >>> ((1 : Int32).toInt64.toUInt64 &&& Int64.toUInt64 63)).toInt64) &&& 6148914691236517205)).toUInt64 >>> ((2 : Int32).toInt64.toUInt64 &&& Int64.toUInt64 63)).toInt64) &&& 3689348814741910323)) + (((((i0 - (((i0.toUInt64 >>> ((1 : Int32).toInt64.toUInt64 &&& Int64.toUInt64 63)).toInt64) &&& 6148914691236517205)) &&& 3689348814741910323) + ((((i0 - (((i0.toUInt64 >>> ((1 : Int32).toInt64.toUInt64 &&& Int64.toUInt64 63)).toInt64) &&& 6148914691236517205)).toUInt64 >>> ((2 : Int32).toInt64.toUInt64 &&& Int64.toUInt64 63)).toInt64) &&& 3689348814741910323)).toUInt64 >>> ((4 : Int32).toInt64.toUInt64 &&& Int64.toUInt64 63)).toInt64)) &&& 1085102592571150095).toUInt64 >>> ((8 : Int32).toInt64.toUInt64 &&& Int64.toUInt64 63)).toInt64)) + ((((((((i0 - (((i0.toUInt64 >>> ((1 : Int32).toInt64.toUInt64 &&& Int64.toUInt64 63)).toInt64) &&& 6148914691236517205)) &&& 3689348814741910323) + ((((i0 - (((i0.toUInt64 >>> ((1 : Int32).toInt64.toUInt64 &&& Int64.toUInt64 63)).toInt64) &&& 6148914691236517205)).toUInt64 >>> ((2 : Int32).toInt64.toUInt64 &&& Int64.toUInt64 63)).toInt64) &&& 3689348814741910323)) + (((((i0 - (((i0.toUInt64 >>> ((1 : Int32).toInt64.toUInt64 &&& Int64.toUInt64 63)).toInt64) &&& 6148914691236517205)) &&& 3689348814741910323) + ((((i0 - (((i0.toUInt64 >>> ((1 : Int32).toInt64.toUInt64 &&& Int64.toUInt64 63)).toInt64) &&& 6148914691236517205)).toUInt64 >>> ((2 : Int32).toInt64.toUInt64 &&& Int64.toUInt64 63)).toInt64) &&& 3689348814741910323)).toUInt64 >>> ((4 : Int32).toInt64.toUInt64 &&& Int64.toUInt64 63)).toInt64)) &&& 1085102592571150095) + (((((((i0 - (((i0.toUInt64 >>> ((1 : Int32).toInt64.toUInt64 &&& Int64.toUInt64 63)).toInt64) &&& 6148914691236517205)) &&& 3689348814741910323) + ((((i0 - (((i0.toUInt64 >>> ((1 : Int32).toInt64.toUInt64 &&& Int64.toUInt64 63)).toInt64) &&& 6148914691236517205)).toUInt64 >>> ((2 : Int32).toInt64.toUInt64 &&& Int64.toUInt64 63)).toInt64) &&& 3689348814741910323)) + (((((i0 - (((i0.toUInt64 >>> ((1 : Int32).toInt64.toUInt64 &&& Int64.toUInt64 63)).toInt64) &&& 6148914691236517205)) &&& 3689348814741910323) + ((((i0 - (((i0.toUInt64 >>> ((1 : Int32).toInt64.toUInt64 &&& Int64.toUInt64 63)).toInt64) &&& 6148914691236517205)).toUInt64 >>> ((2 : Int32).toInt64.toUInt64 &&& Int64.toUInt64 63)).toInt64) &&& 3689348814741910323)).toUInt64 >>> ((4 : Int32).toInt64.toUInt64 &&& Int64.toUInt64 63)).toInt64)) &&& 1085102592571150095).toUInt64 >>> ((8 : Int32).toInt64.toUInt64 &&& Int64.toUInt64 63)).toInt64)).toUInt64 >>> ((16 : Int32).toInt64.toUInt64 &&& Int64.toUInt64 63)).toInt64)) + (((((((((i0 - (((i0.toUInt64 >>> ((1 : Int32).toInt64.toUInt64 &&& Int64.toUInt64 63)).toInt64) &&& 6148914691236517205)) &&& 3689348814741910323) + ((((i0 - (((i0.toUInt64 >>> ((1 : Int32).toInt64.toUInt64 &&& Int64.toUInt64 63)).toInt64) &&& 6148914691236517205)).toUInt64 >>> ((2 : Int32).toInt64.toUInt64 &&& Int64.toUInt64 63)).toInt64) &&& 3689348814741910323)) + (((((i0 - (((i0.toUInt64 >>> ((1 : Int32).toInt64.toUInt64 &&& Int64.toUInt64 63)).toInt64) &&& 6148914691236517205)) &&& 3689348814741910323) + ((((i0 - (((i0.toUInt64 >>> ((1 : Int32).toInt64.toUInt64 &&& Int64.toUInt64 63)).toInt64) &&& 6148914691236517205)).toUInt64 >>> ((2 : Int32).toInt64.toUInt64 &&& Int64.toUInt64 63)).toInt64) &&& 3689348814741910323)).toUInt64 >>> ((4 : Int32).toInt64.toUInt64 &&& Int64.toUInt64 63)).toInt64)) &&& 1085102592571150095) + (((((((i0 - (((i0.toUInt64 >>> ((1 : Int32).toInt64.toUInt64 &&& Int64.toUInt64 63)).toInt64) &&& 6148914691236517205)) &&& 3689348814741910323) + ((((i0 - (((i0.toUInt64 >>> ((1 : Int32).toInt64.toUInt64 &&& Int64.toUInt64 63)).toInt64) &&& 6148914691236517205)).toUInt64 >>> ((2 : Int32).toInt64.toUInt64 &&& Int64.toUInt64 63)).toInt64) &&& 3689348814741910323)) + (((((i0 - (((i0.toUInt64 >>> ((1 : Int32).toInt64.toUInt64 &&& Int64.toUInt64 63)).toInt64) &&& 6148914691236517205)) &&& 3689348814741910323) + ((((i0 - (((i0.toUInt64 >>> ((1 : Int32).toInt64.toUInt64 &&& Int64.toUInt64 63)).toInt64) &&& 6148914691236517205)).toUInt64 >>> ((2 : Int32).toInt64.toUInt64 &&& Int64.toUInt64 63)).toInt64) &&& 3689348814741910323)).toUInt64 >>> ((4 : Int32).toInt64.toUInt64 &&& Int64.toUInt64 63)).toInt64)) &&& 1085102592571150095).toUInt64 >>> ((8 : Int32).toInt64.toUInt64 &&& Int64.toUInt64 63)).toInt64)) + ((((((((i0 - (((i0.toUInt64 >>> ((1 : Int32).toInt64.toUInt64 &&& Int64.toUInt64 63)).toInt64) &&& 6148914691236517205)) &&& 3689348814741910323) + ((((i0 - (((i0.toUInt64 >>> ((1 : Int32).toInt64.toUInt64 &&& Int64.toUInt64 63)).toInt64) &&& 6148914691236517205)).toUInt64 >>> ((2 : Int32).toInt64.toUInt64 &&& Int64.toUInt64 63)).toInt64) &&& 3689348814741910323)) + (((((i0 - (((i0.toUInt64 >>> ((1 : Int32).toInt64.toUInt64 &&& Int64.toUInt64 63)).toInt64) &&& 6148914691236517205)) &&& 3689348814741910323) + ((((i0 - (((i0.toUInt64 >>> ((1 : Int32).toInt64.toUInt64 &&& Int64.toUInt64 63)).toInt64) &&& 6148914691236517205)).toUInt64 >>> ((2 : Int32).toInt64.toUInt64 &&& Int64.toUInt64 63)).toInt64) &&& 3689348814741910323)).toUInt64 >>> ((4 : Int32).toInt64.toUInt64 &&& Int64.toUInt64 63)).toInt64)) &&& 1085102592571150095) + (((((((i0 - (((i0.toUInt64 >>> ((1 : Int32).toInt64.toUInt64 &&& Int64.toUInt64 63)).toInt64) &&& 6148914691236517205)) &&& 3689348814741910323) + ((((i0 - (((i0.toUInt64 >>> ((1 : Int32).toInt64.toUInt64 &&& Int64.toUInt64 63)).toInt64) &&& 6148914691236517205)).toUInt64 >>> ((2 : Int32).toInt64.toUInt64 &&& Int64.toUInt64 63)).toInt64) &&& 3689348814741910323)) + (((((i0 - (((i0.toUInt64 >>> ((1 : Int32).toInt64.toUInt64 &&& Int64.toUInt64 63)).toInt64) &&& 6148914691236517205)) &&& 3689348814741910323) + ((((i0 - (((i0.toUInt64 >>> ((1 : Int32).toInt64.toUInt64 &&& Int64.toUInt64 63)).toInt64) &&& 6148914691236517205)).toUInt64 >>> ((2 : Int32).toInt64.toUInt64 &&& Int64.toUInt64 63)).toInt64) &&& 3689348814741910323)).toUInt64 >>> ((4 : Int32).toInt64.toUInt64 &&& Int64.toUInt64 63)).toInt64)) &&& 1085102592571150095).toUInt64 >>> ((8 : Int32).toInt64.toUInt64 &&& Int64.toUInt64 63)).toInt64)).toUInt64 >>> ((16 : Int32).toInt64.toUInt64 &&& Int64.toUInt64 63)).toInt64)).toUInt64 >>> ((32 : Int32).toInt64.toUInt64 &&& Int64.toUInt64 63)).toInt64)))]) hx hb dJ13_bitCount_95d88_54 rfl hl (by decide) rfl (fun ls hl => ?_)
  refine lv_lload_n hx hb dJ13_bitCount_95d88_55 rfl (lv_at hl 0 rfl) ?_
  refine lv_l2i hx hb dJ13_bitCount_95d88_56 rfl ?_
  refine lv_bipush (v := 127) hx hb dJ13_bitCount_95d88_57 (by decide) ?_
  refine lv_iand hx hb dJ13_bitCount_95d88_59 ?_
  exact rd_iret hx hb hr hlk dJ13_bitCount_95d88_60 (by first | rfl | (simp [zb]; done))

set_option maxHeartbeats 4000000 in
set_option maxRecDepth 100000 in
theorem c_X9_bitOf (l : Launch) (G : Gv) (x : Int32)  : Rd l yX9_bitOf cX9_bitOf 1 (some .long) (rmz 0 0) G [.int x] [] (.long (bt x)) := by
  refine Rd.ofW (by decide) (Nat.le_of_ble_eq_true rfl) ?_
  intro p e s m below meth c ls hx hb hml hr hown hts hlk hP hE hl
  have hl : lv_has ls 1 [(0, .int x)] := hl
  refine lv_lconst (v := 1) hx hb dX9_bitOf_0 (by decide) ?_
  refine lv_iload_n hx hb dX9_bitOf_1 rfl (lv_at hl 0 rfl) ?_
  refine lv_lshl hx hb dX9_bitOf_2 rfl ?_
  exact rd_lret hx hb hr hlk dX9_bitOf_3 (by first | rfl | (simp [zb]; done))

set_option maxHeartbeats 4000000 in
set_option maxRecDepth 100000 in
theorem c_X9_holds (l : Launch) (G : Gv) (w : Int64) (x : Int32)  : Rd l yX9_holds cX9_holds 3 (some .boolean) (rmz 1 20) G [.long w, .int x] [] (.int (zb (hs w x))) := by
  refine Rd.ofW (by decide) (Nat.le_of_ble_eq_true rfl) ?_
  intro p e s m below meth c ls hx hb hml hr hown hts hlk hP hE hl
  have hl : lv_has ls 3 [(0, .long w), (2, .int x)] := hl
  refine lv_lload_n hx hb dX9_holds_0 rfl (lv_at hl 0 rfl) ?_
  refine lv_iload_n hx hb dX9_holds_1 rfl (lv_at hl 1 rfl) ?_
  refine rd_callS (As := [.int x]) (rest := [.long w]) hx hb hml hown hts hE hl.1 (c_X9_bitOf l G x ) (cs_X9_256 hts) ⟨(Nat.le_of_ble_eq_true rfl), (Nat.le_of_ble_eq_true rfl)⟩ ⟨Nat.zero_le _, Nat.zero_le _⟩ rfl (sub_P hP [] rfl) rfl (Nat.le_of_ble_eq_true rfl) dX9_holds_2 ?_
  refine lv_land hx hb dX9_holds_5 ?_
  refine lv_lconst (v := 0) hx hb dX9_holds_6 (by decide) ?_
  refine W.lcmp hx hb dX9_holds_7 ?_
  refine lv_if_eq (tgt := 15) hx hb dX9_holds_8 (by decide) (fun c8 => ?_) (fun c8 => ?_)
  · have c8 := lgc_eq.mp c8
    refine lv_iconst (v := 0) hx hb dX9_holds_15 (by decide) ?_
    exact rd_zret hx hb hr hlk dX9_holds_16 rfl (by first | rfl | (simp [zb, c8, hs]; done))
  · have c8 := lgc_ne.mp c8
    refine lv_iconst (v := 1) hx hb dX9_holds_11 (by decide) ?_
    refine lv_goto (tgt := 16) hx hb dX9_holds_12 (by decide) ?_
    exact rd_zret hx hb hr hlk dX9_holds_16 rfl (by first | rfl | (simp [zb, c8, hs]; done))

set_option maxHeartbeats 4000000 in
set_option maxRecDepth 100000 in
theorem c_X9_oneIf (l : Launch) (G : Gv) (so : Bool)  : Rd l yX9_oneIf cX9_oneIf 1 (some .int) (rmz 0 0) G [.int (zb so)] [] (.int (zb so)) := by
  refine Rd.ofW (by decide) (Nat.le_of_ble_eq_true rfl) ?_
  intro p e s m below meth c ls hx hb hml hr hown hts hlk hP hE hl
  have hl : lv_has ls 1 [(0, .int (zb so))] := hl
  refine lv_iload_n hx hb dX9_oneIf_0 rfl (lv_at hl 0 rfl) ?_
  refine lv_if_eq (tgt := 8) hx hb dX9_oneIf_1 (by decide) (fun c1 => ?_) (fun c1 => ?_)
  · have c1 := zb_0.mp c1
    refine lv_iconst (v := 0) hx hb dX9_oneIf_8 (by decide) ?_
    exact rd_iret hx hb hr hlk dX9_oneIf_9 (by first | rfl | (simp [zb, c1]; done))
  · have c1 := zb_n0.mp c1
    refine lv_iconst (v := 1) hx hb dX9_oneIf_4 (by decide) ?_
    refine lv_goto (tgt := 9) hx hb dX9_oneIf_5 (by decide) ?_
    exact rd_iret hx hb hr hlk dX9_oneIf_9 (by first | rfl | (simp [zb, c1]; done))

set_option maxHeartbeats 4000000 in
set_option maxRecDepth 100000 in
theorem c_X9_isZeroOrOne (l : Launch) (G : Gv) (w : Int32)  : Rd l yX9_isZeroOrOne cX9_isZeroOrOne 1 (some .boolean) (rmz 0 0) G [.int w] [] (.int (zb (zo w))) := by
  refine Rd.ofW (by decide) (Nat.le_of_ble_eq_true rfl) ?_
  intro p e s m below meth c ls hx hb hml hr hown hts hlk hP hE hl
  have hl : lv_has ls 1 [(0, .int w)] := hl
  refine lv_iload_n hx hb dX9_isZeroOrOne_0 rfl (lv_at hl 0 rfl) ?_
  refine lv_if_eq (tgt := 9) hx hb dX9_isZeroOrOne_1 (by decide) (fun c1 => ?_) (fun c1 => ?_)
  · refine lv_iconst (v := 1) hx hb dX9_isZeroOrOne_9 (by decide) ?_
    refine lv_goto (tgt := 14) hx hb dX9_isZeroOrOne_10 (by decide) ?_
    exact rd_zret hx hb hr hlk dX9_isZeroOrOne_14 rfl (by first | rfl | (simp [zb, c1, zo]; done))
  · refine lv_iload_n hx hb dX9_isZeroOrOne_4 rfl (lv_at hl 0 rfl) ?_
    refine lv_iconst (v := 1) hx hb dX9_isZeroOrOne_5 (by decide) ?_
    refine lv_icmp_ne (tgt := 13) hx hb dX9_isZeroOrOne_6 (by decide) (fun c6 => ?_) (fun c6 => ?_)
    · refine lv_iconst (v := 0) hx hb dX9_isZeroOrOne_13 (by decide) ?_
      exact rd_zret hx hb hr hlk dX9_isZeroOrOne_14 rfl (by first | rfl | (simp [zb, c1, c6, zo]; done))
    · refine lv_iconst (v := 1) hx hb dX9_isZeroOrOne_9 (by decide) ?_
      refine lv_goto (tgt := 14) hx hb dX9_isZeroOrOne_10 (by decide) ?_
      exact rd_zret hx hb hr hlk dX9_isZeroOrOne_14 rfl (by first | rfl | (simp [zb, c1, c6, zo]; done))

set_option maxHeartbeats 4000000 in
set_option maxRecDepth 100000 in
theorem c_X9_orNone (l : Launch) (G : Gv) (x : Int32)  : Rd l yX9_orNone cX9_orNone 1 (some .int) (rmz 0 0) G [.int x] [] (.int (orN x)) := by
  refine Rd.ofW (by decide) (Nat.le_of_ble_eq_true rfl) ?_
  intro p e s m below meth c ls hx hb hml hr hown hts hlk hP hE hl
  have hl : lv_has ls 1 [(0, .int x)] := hl
  refine lv_iload_n hx hb dX9_orNone_0 rfl (lv_at hl 0 rfl) ?_
  refine lv_ldcw hx hb hown (cn_X9_327 hts) dX9_orNone_1 ?_
  refine lv_icmp_ge (tgt := 11) hx hb dX9_orNone_4 (by decide) (fun c4 => ?_) (fun c4 => ?_)
  · refine lv_bipush (v := -4) hx hb dX9_orNone_11 (by decide) ?_
    exact rd_iret hx hb hr hlk dX9_orNone_13 (by first | rfl | (simp [zb, c4, orN]; done))
  · refine lv_iload_n hx hb dX9_orNone_7 rfl (lv_at hl 0 rfl) ?_
    refine lv_goto (tgt := 13) hx hb dX9_orNone_8 (by decide) ?_
    exact rd_iret hx hb hr hlk dX9_orNone_13 (by first | rfl | (simp [zb, c4, orN]; done))

set_option maxHeartbeats 4000000 in
set_option maxRecDepth 100000 in
theorem c_X9_drawOf (l : Launch) (G : Gv) (z : Int32) (k : Int32)  : Rd l yX9_drawOf cX9_drawOf 4 (some .int) (rmz 0 0) G [.int z, .int k] [] (.int (drw z k)) := by
  refine Rd.ofW (by decide) (Nat.le_of_ble_eq_true rfl) ?_
  intro p e s m below meth c ls hx hb hml hr hown hts hlk hP hE hl
  have hl : lv_has ls 4 [(0, .int z), (1, .int k)] := hl
  refine lv_ldc2 hx hb hown (cL_X9_321 hts) dX9_drawOf_0 ?_
  refine lv_iload_n hx hb dX9_drawOf_3 rfl (lv_at hl 0 rfl) ?_
  refine lv_i2l hx hb dX9_drawOf_4 rfl ?_
  refine lv_lmul hx hb dX9_drawOf_5 ?_
  refine lv_ldc2 hx hb hown (cL_X9_323 hts) dX9_drawOf_6 ?_
  refine lv_iload_n hx hb dX9_drawOf_9 rfl (lv_at hl 1 rfl) ?_
  refine lv_i2l hx hb dX9_drawOf_10 rfl ?_
  refine lv_lmul hx hb dX9_drawOf_11 ?_
  refine lv_ladd hx hb dX9_drawOf_12 ?_
  refine lv_lconst (v := 1) hx hb dX9_drawOf_13 (by decide) ?_
  refine lv_ladd hx hb dX9_drawOf_14 ?_
  refine lv_lstore_n (lv' := [(2, .long (((7919 * z.toInt64) + (6151 * k.toInt64)) + 1)), (0, .int z), (1, .int k)]) hx hb dX9_drawOf_15 rfl hl (by decide) rfl (fun ls hl => ?_)
  refine lv_lload_n hx hb dX9_drawOf_16 rfl (lv_at hl 0 rfl) ?_
  refine lv_lload_n hx hb dX9_drawOf_17 rfl (lv_at hl 0 rfl) ?_
  refine lv_lmul hx hb dX9_drawOf_18 ?_
  refine lv_ldc2 hx hb hown (cL_X9_325 hts) dX9_drawOf_19 ?_
  refine lv_lrem hx hb dX9_drawOf_22 (by decide) ?_
  refine lv_l2i hx hb dX9_drawOf_23 rfl ?_
  exact rd_iret hx hb hr hlk dX9_drawOf_24 (by first | rfl | (simp [zb]; done))

set_option maxHeartbeats 4000000 in
set_option maxRecDepth 100000 in
theorem c_X9_lowestOf (l : Launch) (G : Gv) (w : Int64)  : Rd l yX9_lowestOf cX9_lowestOf 3 (some .int) (rmz 2 42) G [.long w] [] (.int (fsx (fun j => hs w (nI j)) 64 0)) := by
  refine Rd.ofW (by decide) (Nat.le_of_ble_eq_true rfl) ?_
  intro p e s m below meth c ls hx hb hml hr hown hts hlk hP hE hl
  have hl : lv_has ls 3 [(0, .long w)] := hl
  have J_2 : ∀ (n_ : Nat) (k : Nat) (hk : k ≤ 64) (hL : fsx (fun j => hs w (nI j)) 64 0 = fsx (fun j => hs w (nI j)) (64 - k) k) (hm_2 : 64 - k < n_), ∀ ls : Array Slot, lv_has ls 3 [(0, .long w), (2, .int (nI k))] → WR p l e (rmz 2 42) s m [.long w] below meth c (.int (fsx (fun j => hs w (nI j)) 64 0)) (F0 m 2 ls []) := by
    intro n_
    induction n_ with
    | zero =>
      intro k hk hL hm_2
      exact absurd hm_2 (Nat.not_lt_zero _)
    | succ n_ ih_2 =>
      intro k hk hL hm_2 ls hl
      refine lv_iload_n hx hb dX9_lowestOf_2 rfl (lv_at hl 1 rfl) ?_
      refine lv_bipush (v := 64) hx hb dX9_lowestOf_3 (by decide) ?_
      refine lv_icmp_ge (tgt := 24) hx hb dX9_lowestOf_5 (by decide) (fun c5 => ?_) (fun c5 => ?_)
      · have hkn : 64 ≤ k := le_of_le (n := 64) (by omega) (by omega) c5
        refine lv_bipush (v := -4) hx hb dX9_lowestOf_24 (by decide) ?_
        exact rd_iret hx hb hr hlk dX9_lowestOf_26 (by rw [hL, fsx_end hkn])
      · have hkn : k < 64 := lt_of_nle (n := 64) (by omega) (by omega) c5
        refine lv_lload_n hx hb dX9_lowestOf_8 rfl (lv_at hl 0 rfl) ?_
        refine lv_iload_n hx hb dX9_lowestOf_9 rfl (lv_at hl 1 rfl) ?_
        refine rd_callS (As := [.long w, .int (nI k)]) (rest := []) hx hb hml hown hts hE hl.1 (c_X9_holds l G w (nI k) ) (cs_X9_143 hts) ⟨(Nat.le_of_ble_eq_true rfl), (Nat.le_of_ble_eq_true rfl)⟩ ⟨Nat.zero_le _, Nat.zero_le _⟩ rfl (sub_P hP [] rfl) rfl (Nat.le_of_ble_eq_true rfl) dX9_lowestOf_10 ?_
        refine lv_if_eq (tgt := 18) hx hb dX9_lowestOf_13 (by decide) (fun c13 => ?_) (fun c13 => ?_)
        · have c13 := zb_0.mp c13
          refine lv_iinc (v := nI (k + 1)) (lv' := [(2, .int (nI (k + 1))), (0, .long w)]) hx hb dX9_lowestOf_18 hl (k := 1) rfl (nI_1 k) (by decide) rfl (fun ls hl => ?_)
          refine lv_goto (tgt := 2) hx hb dX9_lowestOf_21 (by decide) ?_
          exact ih_2 (k + 1) (by first | assumption | omega | rfl) (hL.trans (fsx_step hkn c13)) (by omega) ls (lv_sub hl [1, 0] rfl)
        · have c13 := zb_n0.mp c13
          refine lv_iload_n hx hb dX9_lowestOf_16 rfl (lv_at hl 1 rfl) ?_
          exact rd_iret hx hb hr hlk dX9_lowestOf_17 (by rw [hL, fsx_hit hkn c13])
  refine lv_iconst (v := 0) hx hb dX9_lowestOf_0 (by decide) ?_
  refine lv_istore_n (lv' := [(2, .int 0), (0, .long w)]) hx hb dX9_lowestOf_1 rfl hl (by decide) rfl (fun ls hl => ?_)
  exact J_2 (64 - 0 + 1) 0 (by first | assumption | omega | rfl) rfl (Nat.lt_succ_self _) ls (lv_sub hl [1, 0] rfl)

set_option maxHeartbeats 4000000 in
set_option maxRecDepth 100000 in
theorem c_X4_size (l : Launch) (G : Gv) (a0 : Nat) (a1 : Nat) (a2 : Nat) (a3 : Nat) (a4 : Nat) (C : Nat → Int32) (B : Nat → Int32) (F : Nat → Int32) (K : Nat → Int32) (n : Nat) (y : Int32)  : Rd l yX4_size cX4_size 1 (some .int) (rmz 0 0) G [.ref a0] [(a0, .inr (4, [.ref a1, .ref a2, .ref a3, .ref a4, .int (nI n), .int y])), (a1, .inl (kI G, 10, .inl C)), (a2, .inl (kI G, 10, .inl B)), (a3, .inl (kI G, 10, .inl F)), (a4, .inl (kI G, 10, .inl K))] (.int (nI n)) := by
  refine Rd.ofW (by decide) (Nat.le_of_ble_eq_true rfl) ?_
  intro p e s m below meth c ls hx hb hml hr hown hts hlk hP hE hl
  have hl : lv_has ls 1 [(0, .ref a0)] := hl
  refine lv_aload_n hx hb dX4_size_0 rfl (lv_at hl 0 rfl) ?_
  refine va_get hx hb hts inlX4 hown hE.1 hP 0 rfl rfl 4 (by decide) (fl_X4_24 hts) (fun _ h9 => h9) rfl dX4_size_1 ?_
  exact rd_iret hx hb hr hlk dX4_size_4 (by first | rfl | (simp [zb]; done))

set_option maxHeartbeats 4000000 in
set_option maxRecDepth 100000 in
theorem c_X4_has (l : Launch) (G : Gv) (a0 : Nat) (a1 : Nat) (a2 : Nat) (a3 : Nat) (a4 : Nat) (C : Nat → Int32) (B : Nat → Int32) (F : Nat → Int32) (K : Nat → Int32) (n : Nat) (y : Int32) (t : Int32) (hn : n ≤ 10) : Rd l yX4_has cX4_has 2 (some .boolean) (rmz 0 0) G [.ref a0, .int t] [(a0, .inr (4, [.ref a1, .ref a2, .ref a3, .ref a4, .int (nI n), .int y])), (a1, .inl (kI G, 10, .inl C)), (a2, .inl (kI G, 10, .inl B)), (a3, .inl (kI G, 10, .inl F)), (a4, .inl (kI G, 10, .inl K))] (.int (zb (inB t n))) := by
  refine Rd.ofW (by decide) (Nat.le_of_ble_eq_true rfl) ?_
  intro p e s m below meth c ls hx hb hml hr hown hts hlk hP hE hl
  have hl : lv_has ls 2 [(0, .ref a0), (1, .int t)] := hl
  refine lv_iload_n hx hb dX4_has_0 rfl (lv_at hl 1 rfl) ?_
  refine lv_if_lt (tgt := 16) hx hb dX4_has_1 (by decide) (fun c1 => ?_) (fun c1 => ?_)
  · have c1 := inB_neg (n := n) c1
    refine lv_iconst (v := 0) hx hb dX4_has_16 (by decide) ?_
    exact rd_zret hx hb hr hlk dX4_has_17 rfl (by first | rfl | (simp [zb, c1]; done))
  · refine lv_iload_n hx hb dX4_has_4 rfl (lv_at hl 1 rfl) ?_
    refine lv_aload_n hx hb dX4_has_5 rfl (lv_at hl 0 rfl) ?_
    refine va_get hx hb hts inlX4 hown hE.1 hP 0 rfl rfl 4 (by decide) (fl_X4_24 hts) (fun _ h9 => h9) rfl dX4_has_6 ?_
    refine lv_icmp_ge (tgt := 16) hx hb dX4_has_9 (by decide) (fun c9 => ?_) (fun c9 => ?_)
    · have c9 := inB_ge (n := n) (by omega) c9
      refine lv_iconst (v := 0) hx hb dX4_has_16 (by decide) ?_
      exact rd_zret hx hb hr hlk dX4_has_17 rfl (by first | rfl | (simp [zb, c1, c9]; done))
    · have c9 := inB_yes (n := n) (by omega) c1 c9
      refine lv_iconst (v := 1) hx hb dX4_has_12 (by decide) ?_
      refine lv_goto (tgt := 17) hx hb dX4_has_13 (by decide) ?_
      exact rd_zret hx hb hr hlk dX4_has_17 rfl (by first | rfl | (simp [zb, c1, c9]; done))

set_option maxHeartbeats 4000000 in
set_option maxRecDepth 100000 in
theorem c_X4_isFull (l : Launch) (G : Gv) (a0 : Nat) (a1 : Nat) (a2 : Nat) (a3 : Nat) (a4 : Nat) (C : Nat → Int32) (B : Nat → Int32) (F : Nat → Int32) (K : Nat → Int32) (n : Nat) (y : Int32)  : Rd l yX4_isFull cX4_isFull 1 (some .boolean) (rmz 0 0) G [.ref a0] [(a0, .inr (4, [.ref a1, .ref a2, .ref a3, .ref a4, .int (nI n), .int y])), (a1, .inl (kI G, 10, .inl C)), (a2, .inl (kI G, 10, .inl B)), (a3, .inl (kI G, 10, .inl F)), (a4, .inl (kI G, 10, .inl K))] (.int (zb (!decide (nI n < 10)))) := by
  refine Rd.ofW (by decide) (Nat.le_of_ble_eq_true rfl) ?_
  intro p e s m below meth c ls hx hb hml hr hown hts hlk hP hE hl
  have hl : lv_has ls 1 [(0, .ref a0)] := hl
  refine lv_aload_n hx hb dX4_isFull_0 rfl (lv_at hl 0 rfl) ?_
  refine va_get hx hb hts inlX4 hown hE.1 hP 0 rfl rfl 4 (by decide) (fl_X4_24 hts) (fun _ h9 => h9) rfl dX4_isFull_1 ?_
  refine lv_bipush (v := 10) hx hb dX4_isFull_4 (by decide) ?_
  refine lv_icmp_lt (tgt := 13) hx hb dX4_isFull_6 (by decide) (fun c6 => ?_) (fun c6 => ?_)
  · refine lv_iconst (v := 0) hx hb dX4_isFull_13 (by decide) ?_
    exact rd_zret hx hb hr hlk dX4_isFull_14 rfl (by first | rfl | (simp [zb, c6]; done))
  · refine lv_iconst (v := 1) hx hb dX4_isFull_9 (by decide) ?_
    refine lv_goto (tgt := 14) hx hb dX4_isFull_10 (by decide) ?_
    exact rd_zret hx hb hr hlk dX4_isFull_14 rfl (by first | rfl | (simp [zb, c6]; done))

set_option maxHeartbeats 4000000 in
set_option maxRecDepth 100000 in
theorem c_X4_cellOf (l : Launch) (G : Gv) (a0 : Nat) (a1 : Nat) (a2 : Nat) (a3 : Nat) (a4 : Nat) (C : Nat → Int32) (B : Nat → Int32) (F : Nat → Int32) (K : Nat → Int32) (n : Nat) (y : Int32) (t : Int32) (hn : n ≤ 10) : Rd l yX4_cellOf cX4_cellOf 2 (some .int) (rmz 1 21) G [.ref a0, .int t] [(a0, .inr (4, [.ref a1, .ref a2, .ref a3, .ref a4, .int (nI n), .int y])), (a1, .inl (kI G, 10, .inl C)), (a2, .inl (kI G, 10, .inl B)), (a3, .inl (kI G, 10, .inl F)), (a4, .inl (kI G, 10, .inl K))] (.int (atI n C t)) := by
  refine Rd.ofW (by decide) (Nat.le_of_ble_eq_true rfl) ?_
  intro p e s m below meth c ls hx hb hml hr hown hts hlk hP hE hl
  have hl : lv_has ls 2 [(0, .ref a0), (1, .int t)] := hl
  refine lv_aload_n hx hb dX4_cellOf_0 rfl (lv_at hl 0 rfl) ?_
  refine lv_iload_n hx hb dX4_cellOf_1 rfl (lv_at hl 1 rfl) ?_
  refine rd_callV (As := [.int t]) (rest := []) hx hb hml hown hts hE hl.1 (c_X4_has l G a0 a1 a2 a3 a4 C B F K n y t (by first | assumption | omega)) (cw_X4_41 hts) ⟨(Nat.le_of_ble_eq_true rfl), (Nat.le_of_ble_eq_true rfl)⟩ ⟨Nat.zero_le _, Nat.zero_le _⟩ rfl (sub_P hP [0, 1, 2, 3, 4] rfl) rfl rfl rfl rfl (Nat.le_of_ble_eq_true rfl) dX4_cellOf_2 ?_
  refine lv_if_eq (tgt := 17) hx hb dX4_cellOf_5 (by decide) (fun c5 => ?_) (fun c5 => ?_)
  · have c5 := zb_0.mp c5
    refine lv_iconst (v := -1) hx hb dX4_cellOf_17 (by decide) ?_
    exact rd_iret hx hb hr hlk dX4_cellOf_18 (by first | rfl | (simp [zb, c5, atI]; done))
  · have c5 := zb_n0.mp c5
    refine lv_aload_n hx hb dX4_cellOf_8 rfl (lv_at hl 0 rfl) ?_
    refine va_get hx hb hts inlX4 hown hE.1 hP 0 rfl rfl 0 (by decide) (fl_X4_9 hts) (fun _ h9 => h9) rfl dX4_cellOf_9 ?_
    refine lv_iload_n hx hb dX4_cellOf_12 rfl (lv_at hl 1 rfl) ?_
    refine va_iald hx hb hE.1 hP 1 0 rfl rfl (inB_in c5 (by omega)) dX4_cellOf_13 ?_
    refine lv_goto (tgt := 18) hx hb dX4_cellOf_14 (by decide) ?_
    exact rd_iret hx hb hr hlk dX4_cellOf_18 (by first | rfl | (simp [zb, c5, atI]; done))

set_option maxHeartbeats 4000000 in
set_option maxRecDepth 100000 in
theorem c_X4_startOf (l : Launch) (G : Gv) (a0 : Nat) (a1 : Nat) (a2 : Nat) (a3 : Nat) (a4 : Nat) (C : Nat → Int32) (B : Nat → Int32) (F : Nat → Int32) (K : Nat → Int32) (n : Nat) (y : Int32) (t : Int32) (hn : n ≤ 10) : Rd l yX4_startOf cX4_startOf 2 (some .int) (rmz 1 21) G [.ref a0, .int t] [(a0, .inr (4, [.ref a1, .ref a2, .ref a3, .ref a4, .int (nI n), .int y])), (a1, .inl (kI G, 10, .inl C)), (a2, .inl (kI G, 10, .inl B)), (a3, .inl (kI G, 10, .inl F)), (a4, .inl (kI G, 10, .inl K))] (.int (atI n B t)) := by
  refine Rd.ofW (by decide) (Nat.le_of_ble_eq_true rfl) ?_
  intro p e s m below meth c ls hx hb hml hr hown hts hlk hP hE hl
  have hl : lv_has ls 2 [(0, .ref a0), (1, .int t)] := hl
  refine lv_aload_n hx hb dX4_startOf_0 rfl (lv_at hl 0 rfl) ?_
  refine lv_iload_n hx hb dX4_startOf_1 rfl (lv_at hl 1 rfl) ?_
  refine rd_callV (As := [.int t]) (rest := []) hx hb hml hown hts hE hl.1 (c_X4_has l G a0 a1 a2 a3 a4 C B F K n y t (by first | assumption | omega)) (cw_X4_41 hts) ⟨(Nat.le_of_ble_eq_true rfl), (Nat.le_of_ble_eq_true rfl)⟩ ⟨Nat.zero_le _, Nat.zero_le _⟩ rfl (sub_P hP [0, 1, 2, 3, 4] rfl) rfl rfl rfl rfl (Nat.le_of_ble_eq_true rfl) dX4_startOf_2 ?_
  refine lv_if_eq (tgt := 17) hx hb dX4_startOf_5 (by decide) (fun c5 => ?_) (fun c5 => ?_)
  · have c5 := zb_0.mp c5
    refine lv_iconst (v := -1) hx hb dX4_startOf_17 (by decide) ?_
    exact rd_iret hx hb hr hlk dX4_startOf_18 (by first | rfl | (simp [zb, c5, atI]; done))
  · have c5 := zb_n0.mp c5
    refine lv_aload_n hx hb dX4_startOf_8 rfl (lv_at hl 0 rfl) ?_
    refine va_get hx hb hts inlX4 hown hE.1 hP 0 rfl rfl 1 (by decide) (fl_X4_15 hts) (fun _ h9 => h9) rfl dX4_startOf_9 ?_
    refine lv_iload_n hx hb dX4_startOf_12 rfl (lv_at hl 1 rfl) ?_
    refine va_iald hx hb hE.1 hP 2 0 rfl rfl (inB_in c5 (by omega)) dX4_startOf_13 ?_
    refine lv_goto (tgt := 18) hx hb dX4_startOf_14 (by decide) ?_
    exact rd_iret hx hb hr hlk dX4_startOf_18 (by first | rfl | (simp [zb, c5, atI]; done))

set_option maxHeartbeats 4000000 in
set_option maxRecDepth 100000 in
theorem c_X4_kindOf (l : Launch) (G : Gv) (a0 : Nat) (a1 : Nat) (a2 : Nat) (a3 : Nat) (a4 : Nat) (C : Nat → Int32) (B : Nat → Int32) (F : Nat → Int32) (K : Nat → Int32) (n : Nat) (y : Int32) (t : Int32) (hn : n ≤ 10) : Rd l yX4_kindOf cX4_kindOf 2 (some .int) (rmz 1 21) G [.ref a0, .int t] [(a0, .inr (4, [.ref a1, .ref a2, .ref a3, .ref a4, .int (nI n), .int y])), (a1, .inl (kI G, 10, .inl C)), (a2, .inl (kI G, 10, .inl B)), (a3, .inl (kI G, 10, .inl F)), (a4, .inl (kI G, 10, .inl K))] (.int (atI n K t)) := by
  refine Rd.ofW (by decide) (Nat.le_of_ble_eq_true rfl) ?_
  intro p e s m below meth c ls hx hb hml hr hown hts hlk hP hE hl
  have hl : lv_has ls 2 [(0, .ref a0), (1, .int t)] := hl
  refine lv_aload_n hx hb dX4_kindOf_0 rfl (lv_at hl 0 rfl) ?_
  refine lv_iload_n hx hb dX4_kindOf_1 rfl (lv_at hl 1 rfl) ?_
  refine rd_callV (As := [.int t]) (rest := []) hx hb hml hown hts hE hl.1 (c_X4_has l G a0 a1 a2 a3 a4 C B F K n y t (by first | assumption | omega)) (cw_X4_41 hts) ⟨(Nat.le_of_ble_eq_true rfl), (Nat.le_of_ble_eq_true rfl)⟩ ⟨Nat.zero_le _, Nat.zero_le _⟩ rfl (sub_P hP [0, 1, 2, 3, 4] rfl) rfl rfl rfl rfl (Nat.le_of_ble_eq_true rfl) dX4_kindOf_2 ?_
  refine lv_if_eq (tgt := 17) hx hb dX4_kindOf_5 (by decide) (fun c5 => ?_) (fun c5 => ?_)
  · have c5 := zb_0.mp c5
    refine lv_iconst (v := -1) hx hb dX4_kindOf_17 (by decide) ?_
    exact rd_iret hx hb hr hlk dX4_kindOf_18 (by first | rfl | (simp [zb, c5, atI]; done))
  · have c5 := zb_n0.mp c5
    refine lv_aload_n hx hb dX4_kindOf_8 rfl (lv_at hl 0 rfl) ?_
    refine va_get hx hb hts inlX4 hown hE.1 hP 0 rfl rfl 3 (by decide) (fl_X4_21 hts) (fun _ h9 => h9) rfl dX4_kindOf_9 ?_
    refine lv_iload_n hx hb dX4_kindOf_12 rfl (lv_at hl 1 rfl) ?_
    refine va_iald hx hb hE.1 hP 4 0 rfl rfl (inB_in c5 (by omega)) dX4_kindOf_13 ?_
    refine lv_goto (tgt := 18) hx hb dX4_kindOf_14 (by decide) ?_
    exact rd_iret hx hb hr hlk dX4_kindOf_18 (by first | rfl | (simp [zb, c5, atI]; done))

set_option maxHeartbeats 4000000 in
set_option maxRecDepth 100000 in
theorem c_X4_toldFallOf (l : Launch) (G : Gv) (a0 : Nat) (a1 : Nat) (a2 : Nat) (a3 : Nat) (a4 : Nat) (C : Nat → Int32) (B : Nat → Int32) (F : Nat → Int32) (K : Nat → Int32) (n : Nat) (y : Int32) (t : Int32) (hn : n ≤ 10) : Rd l yX4_toldFallOf cX4_toldFallOf 2 (some .int) (rmz 1 21) G [.ref a0, .int t] [(a0, .inr (4, [.ref a1, .ref a2, .ref a3, .ref a4, .int (nI n), .int y])), (a1, .inl (kI G, 10, .inl C)), (a2, .inl (kI G, 10, .inl B)), (a3, .inl (kI G, 10, .inl F)), (a4, .inl (kI G, 10, .inl K))] (.int (toldI n F t)) := by
  refine Rd.ofW (by decide) (Nat.le_of_ble_eq_true rfl) ?_
  intro p e s m below meth c ls hx hb hml hr hown hts hlk hP hE hl
  have hl : lv_has ls 2 [(0, .ref a0), (1, .int t)] := hl
  refine lv_aload_n hx hb dX4_toldFallOf_0 rfl (lv_at hl 0 rfl) ?_
  refine lv_iload_n hx hb dX4_toldFallOf_1 rfl (lv_at hl 1 rfl) ?_
  refine rd_callV (As := [.int t]) (rest := []) hx hb hml hown hts hE hl.1 (c_X4_has l G a0 a1 a2 a3 a4 C B F K n y t (by first | assumption | omega)) (cw_X4_41 hts) ⟨(Nat.le_of_ble_eq_true rfl), (Nat.le_of_ble_eq_true rfl)⟩ ⟨Nat.zero_le _, Nat.zero_le _⟩ rfl (sub_P hP [0, 1, 2, 3, 4] rfl) rfl rfl rfl rfl (Nat.le_of_ble_eq_true rfl) dX4_toldFallOf_2 ?_
  refine lv_if_eq (tgt := 22) hx hb dX4_toldFallOf_5 (by decide) (fun c5 => ?_) (fun c5 => ?_)
  · have c5 := zb_0.mp c5
    refine lv_iconst (v := -1) hx hb dX4_toldFallOf_22 (by decide) ?_
    exact rd_iret hx hb hr hlk dX4_toldFallOf_23 (by first | rfl | (simp [zb, c5, toldI]; done))
  · have c5 := zb_n0.mp c5
    refine lv_aload_n hx hb dX4_toldFallOf_8 rfl (lv_at hl 0 rfl) ?_
    refine va_get hx hb hts inlX4 hown hE.1 hP 0 rfl rfl 2 (by decide) (fl_X4_18 hts) (fun _ h9 => h9) rfl dX4_toldFallOf_9 ?_
    refine lv_iload_n hx hb dX4_toldFallOf_12 rfl (lv_at hl 1 rfl) ?_
    refine va_iald hx hb hE.1 hP 3 0 rfl rfl (inB_in c5 (by omega)) dX4_toldFallOf_13 ?_
    refine lv_bipush (v := 99) hx hb dX4_toldFallOf_14 (by decide) ?_
    refine va_mmin hx hb (hml.trans hl.1.symm) hown (ml_X4_45 hts) (st_Lib_Math_min_name hts) (in__java_lang_Math_ hts) (cd_Lib_min_name hts) (Nat.le_of_ble_eq_true rfl) (Nat.le_of_ble_eq_true rfl) (Nat.zero_le _) (Nat.zero_le _) dX4_toldFallOf_16 ?_
    refine lv_goto (tgt := 23) hx hb dX4_toldFallOf_19 (by decide) ?_
    exact rd_iret hx hb hr hlk dX4_toldFallOf_23 (by first | rfl | (simp [zb, c5, toldI]; done))

set_option maxHeartbeats 4000000 in
set_option maxRecDepth 100000 in
theorem c_X4_standsIn (l : Launch) (G : Gv) (a0 : Nat) (a1 : Nat) (a2 : Nat) (a3 : Nat) (a4 : Nat) (C : Nat → Int32) (B : Nat → Int32) (F : Nat → Int32) (K : Nat → Int32) (n : Nat) (y : Int32) (t : Int32) (w : Int32) (hn : n ≤ 10) : Rd l yX4_standsIn cX4_standsIn 3 (some .boolean) (rmz 1 21) G [.ref a0, .int t, .int w] [(a0, .inr (4, [.ref a1, .ref a2, .ref a3, .ref a4, .int (nI n), .int y])), (a1, .inl (kI G, 10, .inl C)), (a2, .inl (kI G, 10, .inl B)), (a3, .inl (kI G, 10, .inl F)), (a4, .inl (kI G, 10, .inl K))] (.int (zb (stI n B F t w))) := by
  refine Rd.ofW (by decide) (Nat.le_of_ble_eq_true rfl) ?_
  intro p e s m below meth c ls hx hb hml hr hown hts hlk hP hE hl
  have hl : lv_has ls 3 [(0, .ref a0), (1, .int t), (2, .int w)] := hl
  refine lv_aload_n hx hb dX4_standsIn_0 rfl (lv_at hl 0 rfl) ?_
  refine lv_iload_n hx hb dX4_standsIn_1 rfl (lv_at hl 1 rfl) ?_
  refine rd_callV (As := [.int t]) (rest := []) hx hb hml hown hts hE hl.1 (c_X4_has l G a0 a1 a2 a3 a4 C B F K n y t (by first | assumption | omega)) (cw_X4_41 hts) ⟨(Nat.le_of_ble_eq_true rfl), (Nat.le_of_ble_eq_true rfl)⟩ ⟨Nat.zero_le _, Nat.zero_le _⟩ rfl (sub_P hP [0, 1, 2, 3, 4] rfl) rfl rfl rfl rfl (Nat.le_of_ble_eq_true rfl) dX4_standsIn_2 ?_
  refine lv_if_eq (tgt := 32) hx hb dX4_standsIn_5 (by decide) (fun c5 => ?_) (fun c5 => ?_)
  · have c5 := zb_0.mp c5
    refine lv_iconst (v := 0) hx hb dX4_standsIn_32 (by decide) ?_
    exact rd_zret hx hb hr hlk dX4_standsIn_33 rfl (by first | rfl | (simp [zb, c5, stI, stB]; done))
  · have c5 := zb_n0.mp c5
    refine lv_aload_n hx hb dX4_standsIn_8 rfl (lv_at hl 0 rfl) ?_
    refine va_get hx hb hts inlX4 hown hE.1 hP 0 rfl rfl 1 (by decide) (fl_X4_15 hts) (fun _ h9 => h9) rfl dX4_standsIn_9 ?_
    refine lv_iload_n hx hb dX4_standsIn_12 rfl (lv_at hl 1 rfl) ?_
    refine va_iald hx hb hE.1 hP 2 0 rfl rfl (inB_in c5 (by omega)) dX4_standsIn_13 ?_
    refine lv_iload_n hx hb dX4_standsIn_14 rfl (lv_at hl 2 rfl) ?_
    refine lv_icmp_gt (tgt := 32) hx hb dX4_standsIn_15 (by decide) (fun c15 => ?_) (fun c15 => ?_)
    · refine lv_iconst (v := 0) hx hb dX4_standsIn_32 (by decide) ?_
      exact rd_zret hx hb hr hlk dX4_standsIn_33 rfl (by first | rfl | (simp [zb, c5, c15, stI, stB]; done))
    · refine lv_iload_n hx hb dX4_standsIn_18 rfl (lv_at hl 2 rfl) ?_
      refine lv_aload_n hx hb dX4_standsIn_19 rfl (lv_at hl 0 rfl) ?_
      refine va_get hx hb hts inlX4 hown hE.1 hP 0 rfl rfl 2 (by decide) (fl_X4_18 hts) (fun _ h9 => h9) rfl dX4_standsIn_20 ?_
      refine lv_iload_n hx hb dX4_standsIn_23 rfl (lv_at hl 1 rfl) ?_
      refine va_iald hx hb hE.1 hP 3 0 rfl rfl (inB_in c5 (by omega)) dX4_standsIn_24 ?_
      refine lv_icmp_ge (tgt := 32) hx hb dX4_standsIn_25 (by decide) (fun c25 => ?_) (fun c25 => ?_)
      · refine lv_iconst (v := 0) hx hb dX4_standsIn_32 (by decide) ?_
        exact rd_zret hx hb hr hlk dX4_standsIn_33 rfl (by first | rfl | (simp [zb, c5, c15, c25, stI, stB]; done))
      · refine lv_iconst (v := 1) hx hb dX4_standsIn_28 (by decide) ?_
        refine lv_goto (tgt := 33) hx hb dX4_standsIn_29 (by decide) ?_
        exact rd_zret hx hb hr hlk dX4_standsIn_33 rfl (by first | rfl | (simp [zb, c5, c15, c25, stI, stB]; done))

set_option maxHeartbeats 4000000 in
set_option maxRecDepth 100000 in
theorem c_X4_isLostBy (l : Launch) (G : Gv) (a0 : Nat) (a1 : Nat) (a2 : Nat) (a3 : Nat) (a4 : Nat) (C : Nat → Int32) (B : Nat → Int32) (F : Nat → Int32) (K : Nat → Int32) (n : Nat) (y : Int32) (t : Int32) (w : Int32) (hn : n ≤ 10) : Rd l yX4_isLostBy cX4_isLostBy 3 (some .boolean) (rmz 1 21) G [.ref a0, .int t, .int w] [(a0, .inr (4, [.ref a1, .ref a2, .ref a3, .ref a4, .int (nI n), .int y])), (a1, .inl (kI G, 10, .inl C)), (a2, .inl (kI G, 10, .inl B)), (a3, .inl (kI G, 10, .inl F)), (a4, .inl (kI G, 10, .inl K))] (.int (zb (loI n F t w))) := by
  refine Rd.ofW (by decide) (Nat.le_of_ble_eq_true rfl) ?_
  intro p e s m below meth c ls hx hb hml hr hown hts hlk hP hE hl
  have hl : lv_has ls 3 [(0, .ref a0), (1, .int t), (2, .int w)] := hl
  refine lv_aload_n hx hb dX4_isLostBy_0 rfl (lv_at hl 0 rfl) ?_
  refine lv_iload_n hx hb dX4_isLostBy_1 rfl (lv_at hl 1 rfl) ?_
  refine rd_callV (As := [.int t]) (rest := []) hx hb hml hown hts hE hl.1 (c_X4_has l G a0 a1 a2 a3 a4 C B F K n y t (by first | assumption | omega)) (cw_X4_41 hts) ⟨(Nat.le_of_ble_eq_true rfl), (Nat.le_of_ble_eq_true rfl)⟩ ⟨Nat.zero_le _, Nat.zero_le _⟩ rfl (sub_P hP [0, 1, 2, 3, 4] rfl) rfl rfl rfl rfl (Nat.le_of_ble_eq_true rfl) dX4_isLostBy_2 ?_
  refine lv_if_eq (tgt := 22) hx hb dX4_isLostBy_5 (by decide) (fun c5 => ?_) (fun c5 => ?_)
  · have c5 := zb_0.mp c5
    refine lv_iconst (v := 0) hx hb dX4_isLostBy_22 (by decide) ?_
    exact rd_zret hx hb hr hlk dX4_isLostBy_23 rfl (by first | rfl | (simp [zb, c5, loI, loB]; done))
  · have c5 := zb_n0.mp c5
    refine lv_aload_n hx hb dX4_isLostBy_8 rfl (lv_at hl 0 rfl) ?_
    refine va_get hx hb hts inlX4 hown hE.1 hP 0 rfl rfl 2 (by decide) (fl_X4_18 hts) (fun _ h9 => h9) rfl dX4_isLostBy_9 ?_
    refine lv_iload_n hx hb dX4_isLostBy_12 rfl (lv_at hl 1 rfl) ?_
    refine va_iald hx hb hE.1 hP 3 0 rfl rfl (inB_in c5 (by omega)) dX4_isLostBy_13 ?_
    refine lv_iload_n hx hb dX4_isLostBy_14 rfl (lv_at hl 2 rfl) ?_
    refine lv_icmp_gt (tgt := 22) hx hb dX4_isLostBy_15 (by decide) (fun c15 => ?_) (fun c15 => ?_)
    · refine lv_iconst (v := 0) hx hb dX4_isLostBy_22 (by decide) ?_
      exact rd_zret hx hb hr hlk dX4_isLostBy_23 rfl (by first | rfl | (simp [zb, c5, c15, loI, loB]; done))
    · refine lv_iconst (v := 1) hx hb dX4_isLostBy_18 (by decide) ?_
      refine lv_goto (tgt := 23) hx hb dX4_isLostBy_19 (by decide) ?_
      exact rd_zret hx hb hr hlk dX4_isLostBy_23 rfl (by first | rfl | (simp [zb, c5, c15, loI, loB]; done))

set_option maxHeartbeats 4000000 in
set_option maxRecDepth 100000 in
theorem c_X4_fallsIn (l : Launch) (G : Gv) (a0 : Nat) (a1 : Nat) (a2 : Nat) (a3 : Nat) (a4 : Nat) (C : Nat → Int32) (B : Nat → Int32) (F : Nat → Int32) (K : Nat → Int32) (n : Nat) (y : Int32) (t : Int32) (w : Int32) (hn : n ≤ 10) : Rd l yX4_fallsIn cX4_fallsIn 3 (some .boolean) (rmz 1 21) G [.ref a0, .int t, .int w] [(a0, .inr (4, [.ref a1, .ref a2, .ref a3, .ref a4, .int (nI n), .int y])), (a1, .inl (kI G, 10, .inl C)), (a2, .inl (kI G, 10, .inl B)), (a3, .inl (kI G, 10, .inl F)), (a4, .inl (kI G, 10, .inl K))] (.int (zb (faI n F t w))) := by
  refine Rd.ofW (by decide) (Nat.le_of_ble_eq_true rfl) ?_
  intro p e s m below meth c ls hx hb hml hr hown hts hlk hP hE hl
  have hl : lv_has ls 3 [(0, .ref a0), (1, .int t), (2, .int w)] := hl
  refine lv_aload_n hx hb dX4_fallsIn_0 rfl (lv_at hl 0 rfl) ?_
  refine lv_iload_n hx hb dX4_fallsIn_1 rfl (lv_at hl 1 rfl) ?_
  refine rd_callV (As := [.int t]) (rest := []) hx hb hml hown hts hE hl.1 (c_X4_has l G a0 a1 a2 a3 a4 C B F K n y t (by first | assumption | omega)) (cw_X4_41 hts) ⟨(Nat.le_of_ble_eq_true rfl), (Nat.le_of_ble_eq_true rfl)⟩ ⟨Nat.zero_le _, Nat.zero_le _⟩ rfl (sub_P hP [0, 1, 2, 3, 4] rfl) rfl rfl rfl rfl (Nat.le_of_ble_eq_true rfl) dX4_fallsIn_2 ?_
  refine lv_if_eq (tgt := 22) hx hb dX4_fallsIn_5 (by decide) (fun c5 => ?_) (fun c5 => ?_)
  · have c5 := zb_0.mp c5
    refine lv_iconst (v := 0) hx hb dX4_fallsIn_22 (by decide) ?_
    exact rd_zret hx hb hr hlk dX4_fallsIn_23 rfl (by first | rfl | (simp [zb, c5, faI]; done))
  · have c5 := zb_n0.mp c5
    refine lv_aload_n hx hb dX4_fallsIn_8 rfl (lv_at hl 0 rfl) ?_
    refine va_get hx hb hts inlX4 hown hE.1 hP 0 rfl rfl 2 (by decide) (fl_X4_18 hts) (fun _ h9 => h9) rfl dX4_fallsIn_9 ?_
    refine lv_iload_n hx hb dX4_fallsIn_12 rfl (lv_at hl 1 rfl) ?_
    refine va_iald hx hb hE.1 hP 3 0 rfl rfl (inB_in c5 (by omega)) dX4_fallsIn_13 ?_
    refine lv_iload_n hx hb dX4_fallsIn_14 rfl (lv_at hl 2 rfl) ?_
    refine lv_icmp_ne (tgt := 22) hx hb dX4_fallsIn_15 (by decide) (fun c15 => ?_) (fun c15 => ?_)
    · refine lv_iconst (v := 0) hx hb dX4_fallsIn_22 (by decide) ?_
      exact rd_zret hx hb hr hlk dX4_fallsIn_23 rfl (by first | rfl | (simp [zb, c5, c15, faI]; done))
    · refine lv_iconst (v := 1) hx hb dX4_fallsIn_18 (by decide) ?_
      refine lv_goto (tgt := 23) hx hb dX4_fallsIn_19 (by decide) ?_
      exact rd_zret hx hb hr hlk dX4_fallsIn_23 rfl (by first | rfl | (simp [zb, c5, c15, faI]; done))

set_option maxHeartbeats 4000000 in
set_option maxRecDepth 100000 in
theorem c_X4_canBurn (l : Launch) (G : Gv) (a0 : Nat) (a1 : Nat) (a2 : Nat) (a3 : Nat) (a4 : Nat) (C : Nat → Int32) (B : Nat → Int32) (F : Nat → Int32) (K : Nat → Int32) (n : Nat) (y : Int32) (t : Int32) (hn : n ≤ 10) : Rd l yX4_canBurn cX4_canBurn 2 (some .boolean) (rmz 2 43) G [.ref a0, .int t] [(a0, .inr (4, [.ref a1, .ref a2, .ref a3, .ref a4, .int (nI n), .int y])), (a1, .inl (kI G, 10, .inl C)), (a2, .inl (kI G, 10, .inl B)), (a3, .inl (kI G, 10, .inl F)), (a4, .inl (kI G, 10, .inl K))] (.int (zb (cbI n B F K y t))) := by
  refine Rd.ofW (by decide) (Nat.le_of_ble_eq_true rfl) ?_
  intro p e s m below meth c ls hx hb hml hr hown hts hlk hP hE hl
  have hl : lv_has ls 2 [(0, .ref a0), (1, .int t)] := hl
  refine lv_aload_n hx hb dX4_canBurn_0 rfl (lv_at hl 0 rfl) ?_
  refine lv_iload_n hx hb dX4_canBurn_1 rfl (lv_at hl 1 rfl) ?_
  refine lv_aload_n hx hb dX4_canBurn_2 rfl (lv_at hl 0 rfl) ?_
  refine va_get hx hb hts inlX4 hown hE.1 hP 0 rfl rfl 5 (by decide) (fl_X4_28 hts) (fun _ h9 => h9) rfl dX4_canBurn_3 ?_
  refine rd_callV (As := [.int t, .int y]) (rest := []) hx hb hml hown hts hE hl.1 (c_X4_standsIn l G a0 a1 a2 a3 a4 C B F K n y t y (by first | assumption | omega)) (cw_X4_51 hts) ⟨(Nat.le_of_ble_eq_true rfl), (Nat.le_of_ble_eq_true rfl)⟩ ⟨Nat.zero_le _, Nat.zero_le _⟩ rfl (sub_P hP [0, 1, 2, 3, 4] rfl) rfl rfl rfl rfl (Nat.le_of_ble_eq_true rfl) dX4_canBurn_6 ?_
  refine lv_if_eq (tgt := 25) hx hb dX4_canBurn_9 (by decide) (fun c9 => ?_) (fun c9 => ?_)
  · have c9 := zb_0.mp c9
    refine lv_iconst (v := 0) hx hb dX4_canBurn_25 (by decide) ?_
    exact rd_zret hx hb hr hlk dX4_canBurn_26 rfl (by first | rfl | (simp [zb, c9, cbI]; done))
  · have c9 := zb_n0.mp c9
    refine lv_aload_n hx hb dX4_canBurn_12 rfl (lv_at hl 0 rfl) ?_
    refine lv_iload_n hx hb dX4_canBurn_13 rfl (lv_at hl 1 rfl) ?_
    refine rd_callV (As := [.int t]) (rest := []) hx hb hml hown hts hE hl.1 (c_X4_kindOf l G a0 a1 a2 a3 a4 C B F K n y t (by first | assumption | omega)) (cw_X4_55 hts) ⟨(Nat.le_of_ble_eq_true rfl), (Nat.le_of_ble_eq_true rfl)⟩ ⟨Nat.zero_le _, Nat.zero_le _⟩ rfl (sub_P hP [0, 1, 2, 3, 4] rfl) rfl rfl rfl rfl (Nat.le_of_ble_eq_true rfl) dX4_canBurn_14 ?_
    refine lv_iconst (v := 1) hx hb dX4_canBurn_17 (by decide) ?_
    refine lv_icmp_eq (tgt := 25) hx hb dX4_canBurn_18 (by decide) (fun c18 => ?_) (fun c18 => ?_)
    · refine lv_iconst (v := 0) hx hb dX4_canBurn_25 (by decide) ?_
      exact rd_zret hx hb hr hlk dX4_canBurn_26 rfl (by first | rfl | (simp [zb, c9, c18, cbI]; done))
    · refine lv_iconst (v := 1) hx hb dX4_canBurn_21 (by decide) ?_
      refine lv_goto (tgt := 26) hx hb dX4_canBurn_22 (by decide) ?_
      exact rd_zret hx hb hr hlk dX4_canBurn_26 rfl (by first | rfl | (simp [zb, c9, c18, cbI]; done))

set_option maxHeartbeats 4000000 in
set_option maxRecDepth 100000 in
theorem c_X4_thingOf (l : Launch) (G : Gv) (a0 : Nat) (a1 : Nat) (a2 : Nat) (a3 : Nat) (a4 : Nat) (C : Nat → Int32) (B : Nat → Int32) (F : Nat → Int32) (K : Nat → Int32) (n : Nat) (y : Int32) (x : Int32) (hn : n ≤ 10) : Rd l yX4_thingOf cX4_thingOf 3 (some .int) (rmz 0 0) G [.ref a0, .int x] [(a0, .inr (4, [.ref a1, .ref a2, .ref a3, .ref a4, .int (nI n), .int y])), (a1, .inl (kI G, 10, .inl C)), (a2, .inl (kI G, 10, .inl B)), (a3, .inl (kI G, 10, .inl F)), (a4, .inl (kI G, 10, .inl K))] (.int (thI C n x)) := by
  refine Rd.ofW (by decide) (Nat.le_of_ble_eq_true rfl) ?_
  intro p e s m below meth c ls hx hb hml hr hown hts hlk hP hE hl
  have hl : lv_has ls 3 [(0, .ref a0), (1, .int x)] := hl
  have J_2 : ∀ (n_ : Nat) (k : Nat) (hk : k ≤ n) (hL : thI C n x = fsx (fun j => decide (C j = x)) (n - k) k) (hm_2 : n - k < n_), ∀ ls : Array Slot, lv_has ls 3 [(0, .ref a0), (1, .int x), (2, .int (nI k))] → WR p l e (rmz 0 0) s m [.ref a0, .int x] below meth c (.int (thI C n x)) (F0 m 2 ls []) := by
    intro n_
    induction n_ with
    | zero =>
      intro k hk hL hm_2
      exact absurd hm_2 (Nat.not_lt_zero _)
    | succ n_ ih_2 =>
      intro k hk hL hm_2 ls hl
      refine lv_iload_n hx hb dX4_thingOf_2 rfl (lv_at hl 2 rfl) ?_
      refine lv_aload_n hx hb dX4_thingOf_3 rfl (lv_at hl 0 rfl) ?_
      refine va_get hx hb hts inlX4 hown hE.1 hP 0 rfl rfl 4 (by decide) (fl_X4_24 hts) (fun _ h9 => h9) rfl dX4_thingOf_4 ?_
      refine lv_icmp_ge (tgt := 28) hx hb dX4_thingOf_7 (by decide) (fun c7 => ?_) (fun c7 => ?_)
      · have hkn : n ≤ k := le_of_le (by omega) (by omega) c7
        refine lv_bipush (v := -4) hx hb dX4_thingOf_28 (by decide) ?_
        exact rd_iret hx hb hr hlk dX4_thingOf_30 (by rw [hL, fsx_end hkn])
      · have hkn : k < n := lt_of_nle (by omega) (by omega) c7
        refine lv_aload_n hx hb dX4_thingOf_10 rfl (lv_at hl 0 rfl) ?_
        refine va_get hx hb hts inlX4 hown hE.1 hP 0 rfl rfl 0 (by decide) (fl_X4_9 hts) (fun _ h9 => h9) rfl dX4_thingOf_11 ?_
        refine lv_iload_n hx hb dX4_thingOf_14 rfl (lv_at hl 2 rfl) ?_
        refine va_iald hx hb hE.1 hP 1 0 rfl rfl (vp_in_nI (by omega) (by omega)) dX4_thingOf_15 ?_
        refine lv_iload_n hx hb dX4_thingOf_16 rfl (lv_at hl 1 rfl) ?_
        refine lv_icmp_ne (tgt := 22) hx hb dX4_thingOf_17 (by decide) (fun c17 => ?_) (fun c17 => ?_)
        · rw [ix_nI (by omega)] at c17
          refine lv_iinc (v := nI (k + 1)) (lv' := [(2, .int (nI (k + 1))), (0, .ref a0), (1, .int x)]) hx hb dX4_thingOf_22 hl (k := 2) rfl (nI_1 k) (by decide) rfl (fun ls hl => ?_)
          refine lv_goto (tgt := 2) hx hb dX4_thingOf_25 (by decide) ?_
          exact ih_2 (k + 1) (by first | assumption | omega | rfl) (hL.trans (fsx_step hkn (by simp [c17]))) (by omega) ls (lv_sub hl [1, 2, 0] rfl)
        · rw [ix_nI (by omega)] at c17
          refine lv_iload_n hx hb dX4_thingOf_20 rfl (lv_at hl 2 rfl) ?_
          exact rd_iret hx hb hr hlk dX4_thingOf_21 (by rw [hL, fsx_hit hkn (by simp [c17])])
  refine lv_iconst (v := 0) hx hb dX4_thingOf_0 (by decide) ?_
  refine lv_istore_n (lv' := [(2, .int 0), (0, .ref a0), (1, .int x)]) hx hb dX4_thingOf_1 rfl hl (by decide) rfl (fun ls hl => ?_)
  exact J_2 (n - 0 + 1) 0 (by first | assumption | omega | rfl) rfl (Nat.lt_succ_self _) ls (lv_sub hl [1, 2, 0] rfl)

set_option maxHeartbeats 4000000 in
set_option maxRecDepth 100000 in
theorem c_X4_standingCells (l : Launch) (G : Gv) (a0 : Nat) (a1 : Nat) (a2 : Nat) (a3 : Nat) (a4 : Nat) (C : Nat → Int32) (B : Nat → Int32) (F : Nat → Int32) (K : Nat → Int32) (n : Nat) (y : Int32) (w : Int32) (hn : n ≤ 10) : Rd l yX4_standingCells cX4_standingCells 5 (some .long) (rmz 2 43) G [.ref a0, .int w] [(a0, .inr (4, [.ref a1, .ref a2, .ref a3, .ref a4, .int (nI n), .int y])), (a1, .inl (kI G, 10, .inl C)), (a2, .inl (kI G, 10, .inl B)), (a3, .inl (kI G, 10, .inl F)), (a4, .inl (kI G, 10, .inl K))] (.long (stC C B F w n)) := by
  refine Rd.ofW (by decide) (Nat.le_of_ble_eq_true rfl) ?_
  intro p e s m below meth c ls hx hb hml hr hown hts hlk hP hE hl
  have hl : lv_has ls 5 [(0, .ref a0), (1, .int w)] := hl
  have J_5 : ∀ (n_ : Nat) (k : Nat) (acc : Int64) (hk : k ≤ n) (ha : acc = stC C B F w k) (hm_5 : n - k < n_), ∀ ls : Array Slot, lv_has ls 5 [(0, .ref a0), (1, .int w), (2, .long acc), (4, .int (nI k))] → WR p l e (rmz 2 43) s m [.ref a0, .int w] below meth c (.long (stC C B F w n)) (F0 m 5 ls []) := by
    intro n_
    induction n_ with
    | zero =>
      intro k acc hk ha hm_5
      exact absurd hm_5 (Nat.not_lt_zero _)
    | succ n_ ih_5 =>
      intro k acc hk ha hm_5 ls hl
      refine lv_iload hx hb dX4_standingCells_5 (lv_at hl 3 rfl) ?_
      refine lv_aload_n hx hb dX4_standingCells_7 rfl (lv_at hl 0 rfl) ?_
      refine va_get hx hb hts inlX4 hown hE.1 hP 0 rfl rfl 4 (by decide) (fl_X4_24 hts) (fun _ h9 => h9) rfl dX4_standingCells_8 ?_
      refine lv_icmp_ge (tgt := 46) hx hb dX4_standingCells_11 (by decide) (fun c11 => ?_) (fun c11 => ?_)
      · have hkn : n ≤ k := le_of_le (by omega) (by omega) c11
        refine lv_lload_n hx hb dX4_standingCells_46 rfl (lv_at hl 2 rfl) ?_
        exact rd_lret hx hb hr hlk dX4_standingCells_47 (by rw [ha, show k = n by omega])
      · have hkn : k < n := lt_of_nle (by omega) (by omega) c11
        refine lv_lload_n hx hb dX4_standingCells_14 rfl (lv_at hl 2 rfl) ?_
        refine lv_aload_n hx hb dX4_standingCells_15 rfl (lv_at hl 0 rfl) ?_
        refine lv_iload hx hb dX4_standingCells_16 (lv_at hl 3 rfl) ?_
        refine lv_iload_n hx hb dX4_standingCells_18 rfl (lv_at hl 1 rfl) ?_
        refine rd_callV (As := [.int (nI k), .int w]) (rest := [.long acc]) hx hb hml hown hts hE hl.1 (c_X4_standsIn l G a0 a1 a2 a3 a4 C B F K n y (nI k) w (by first | assumption | omega)) (cw_X4_51 hts) ⟨(Nat.le_of_ble_eq_true rfl), (Nat.le_of_ble_eq_true rfl)⟩ ⟨Nat.zero_le _, Nat.zero_le _⟩ rfl (sub_P hP [0, 1, 2, 3, 4] rfl) rfl rfl rfl rfl (Nat.le_of_ble_eq_true rfl) dX4_standingCells_19 ?_
        rw [stI_nI hkn (by omega)]
        refine lv_if_eq (tgt := 37) hx hb dX4_standingCells_22 (by decide) (fun c22 => ?_) (fun c22 => ?_)
        · have c22 := zb_0.mp c22
          refine lv_lconst (v := 0) hx hb dX4_standingCells_37 (by decide) ?_
          refine lv_lor hx hb dX4_standingCells_38 ?_
          refine lv_lstore_n (lv' := [(2, .long (acc ||| 0)), (0, .ref a0), (1, .int w), (4, .int (nI k))]) hx hb dX4_standingCells_39 rfl hl (by decide) rfl (fun ls hl => ?_)
          refine lv_iinc (v := nI (k + 1)) (lv' := [(4, .int (nI (k + 1))), (2, .long (acc ||| 0)), (0, .ref a0), (1, .int w)]) hx hb dX4_standingCells_40 hl (k := 3) rfl (nI_1 k) (by decide) rfl (fun ls hl => ?_)
          refine lv_goto (tgt := 5) hx hb dX4_standingCells_43 (by decide) ?_
          have ha0 := ha
          rw [stC] at ha0
          exact ih_5 (k + 1) (acc ||| 0) (by first | assumption | omega | rfl) (by rw [stC, it_s]; simp only [← ha0, c22]; rfl) (by omega) ls (lv_sub hl [2, 3, 1, 0] rfl)
        · have c22 := zb_n0.mp c22
          refine lv_aload_n hx hb dX4_standingCells_25 rfl (lv_at hl 0 rfl) ?_
          refine lv_iload hx hb dX4_standingCells_26 (lv_at hl 3 rfl) ?_
          refine rd_callV (As := [.int (nI k)]) (rest := [.long acc]) hx hb hml hown hts hE hl.1 (c_X4_cellOf l G a0 a1 a2 a3 a4 C B F K n y (nI k) (by first | assumption | omega)) (cw_X4_66 hts) ⟨(Nat.le_of_ble_eq_true rfl), (Nat.le_of_ble_eq_true rfl)⟩ ⟨Nat.zero_le _, Nat.zero_le _⟩ rfl (sub_P hP [0, 1, 2, 3, 4] rfl) rfl rfl rfl rfl (Nat.le_of_ble_eq_true rfl) dX4_standingCells_28 ?_
          rw [atI_nI hkn (by omega)]
          refine rd_callN (As := [.int (C k)]) (rest := [.long acc]) hx hb hml hown hts hE hl.1 (c_X9_bitOf l G (C k) ) (cz_X4_69 hts) ⟨(Nat.le_of_ble_eq_true rfl), (Nat.le_of_ble_eq_true rfl)⟩ ⟨Nat.zero_le _, Nat.zero_le _⟩ rfl (sub_P hP [] rfl) rfl (Nat.le_of_ble_eq_true rfl) dX4_standingCells_31 ?_
          refine lv_goto (tgt := 38) hx hb dX4_standingCells_34 (by decide) ?_
          refine lv_lor hx hb dX4_standingCells_38 ?_
          refine lv_lstore_n (lv' := [(2, .long (acc ||| (bt (C k)))), (0, .ref a0), (1, .int w), (4, .int (nI k))]) hx hb dX4_standingCells_39 rfl hl (by decide) rfl (fun ls hl => ?_)
          refine lv_iinc (v := nI (k + 1)) (lv' := [(4, .int (nI (k + 1))), (2, .long (acc ||| (bt (C k)))), (0, .ref a0), (1, .int w)]) hx hb dX4_standingCells_40 hl (k := 3) rfl (nI_1 k) (by decide) rfl (fun ls hl => ?_)
          refine lv_goto (tgt := 5) hx hb dX4_standingCells_43 (by decide) ?_
          have ha0 := ha
          rw [stC] at ha0
          exact ih_5 (k + 1) (acc ||| (bt (C k))) (by first | assumption | omega | rfl) (by rw [stC, it_s]; simp only [← ha0, c22]; rfl) (by omega) ls (lv_sub hl [2, 3, 1, 0] rfl)
  refine lv_lconst (v := 0) hx hb dX4_standingCells_0 (by decide) ?_
  refine lv_lstore_n (lv' := [(2, .long 0), (0, .ref a0), (1, .int w)]) hx hb dX4_standingCells_1 rfl hl (by decide) rfl (fun ls hl => ?_)
  refine lv_iconst (v := 0) hx hb dX4_standingCells_2 (by decide) ?_
  refine lv_istore (lv' := [(4, .int 0), (2, .long 0), (0, .ref a0), (1, .int w)]) hx hb dX4_standingCells_3 hl (by decide) rfl (fun ls hl => ?_)
  exact J_5 (n - 0 + 1) 0 0 (by first | assumption | omega | rfl) rfl (Nat.lt_succ_self _) ls (lv_sub hl [2, 3, 1, 0] rfl)

set_option maxHeartbeats 4000000 in
set_option maxRecDepth 100000 in
theorem c_X4_lostCells (l : Launch) (G : Gv) (a0 : Nat) (a1 : Nat) (a2 : Nat) (a3 : Nat) (a4 : Nat) (C : Nat → Int32) (B : Nat → Int32) (F : Nat → Int32) (K : Nat → Int32) (n : Nat) (y : Int32) (w : Int32) (hn : n ≤ 10) : Rd l yX4_lostCells cX4_lostCells 5 (some .long) (rmz 2 43) G [.ref a0, .int w] [(a0, .inr (4, [.ref a1, .ref a2, .ref a3, .ref a4, .int (nI n), .int y])), (a1, .inl (kI G, 10, .inl C)), (a2, .inl (kI G, 10, .inl B)), (a3, .inl (kI G, 10, .inl F)), (a4, .inl (kI G, 10, .inl K))] (.long (loC C F w n)) := by
  refine Rd.ofW (by decide) (Nat.le_of_ble_eq_true rfl) ?_
  intro p e s m below meth c ls hx hb hml hr hown hts hlk hP hE hl
  have hl : lv_has ls 5 [(0, .ref a0), (1, .int w)] := hl
  have J_5 : ∀ (n_ : Nat) (k : Nat) (acc : Int64) (hk : k ≤ n) (ha : acc = loC C F w k) (hm_5 : n - k < n_), ∀ ls : Array Slot, lv_has ls 5 [(0, .ref a0), (1, .int w), (2, .long acc), (4, .int (nI k))] → WR p l e (rmz 2 43) s m [.ref a0, .int w] below meth c (.long (loC C F w n)) (F0 m 5 ls []) := by
    intro n_
    induction n_ with
    | zero =>
      intro k acc hk ha hm_5
      exact absurd hm_5 (Nat.not_lt_zero _)
    | succ n_ ih_5 =>
      intro k acc hk ha hm_5 ls hl
      refine lv_iload hx hb dX4_lostCells_5 (lv_at hl 3 rfl) ?_
      refine lv_aload_n hx hb dX4_lostCells_7 rfl (lv_at hl 0 rfl) ?_
      refine va_get hx hb hts inlX4 hown hE.1 hP 0 rfl rfl 4 (by decide) (fl_X4_24 hts) (fun _ h9 => h9) rfl dX4_lostCells_8 ?_
      refine lv_icmp_ge (tgt := 46) hx hb dX4_lostCells_11 (by decide) (fun c11 => ?_) (fun c11 => ?_)
      · have hkn : n ≤ k := le_of_le (by omega) (by omega) c11
        refine lv_lload_n hx hb dX4_lostCells_46 rfl (lv_at hl 2 rfl) ?_
        exact rd_lret hx hb hr hlk dX4_lostCells_47 (by rw [ha, show k = n by omega])
      · have hkn : k < n := lt_of_nle (by omega) (by omega) c11
        refine lv_lload_n hx hb dX4_lostCells_14 rfl (lv_at hl 2 rfl) ?_
        refine lv_aload_n hx hb dX4_lostCells_15 rfl (lv_at hl 0 rfl) ?_
        refine lv_iload hx hb dX4_lostCells_16 (lv_at hl 3 rfl) ?_
        refine lv_iload_n hx hb dX4_lostCells_18 rfl (lv_at hl 1 rfl) ?_
        refine rd_callV (As := [.int (nI k), .int w]) (rest := [.long acc]) hx hb hml hown hts hE hl.1 (c_X4_isLostBy l G a0 a1 a2 a3 a4 C B F K n y (nI k) w (by first | assumption | omega)) (cw_X4_73 hts) ⟨(Nat.le_of_ble_eq_true rfl), (Nat.le_of_ble_eq_true rfl)⟩ ⟨Nat.zero_le _, Nat.zero_le _⟩ rfl (sub_P hP [0, 1, 2, 3, 4] rfl) rfl rfl rfl rfl (Nat.le_of_ble_eq_true rfl) dX4_lostCells_19 ?_
        rw [loI_nI hkn (by omega)]
        refine lv_if_eq (tgt := 37) hx hb dX4_lostCells_22 (by decide) (fun c22 => ?_) (fun c22 => ?_)
        · have c22 := zb_0.mp c22
          refine lv_lconst (v := 0) hx hb dX4_lostCells_37 (by decide) ?_
          refine lv_lor hx hb dX4_lostCells_38 ?_
          refine lv_lstore_n (lv' := [(2, .long (acc ||| 0)), (0, .ref a0), (1, .int w), (4, .int (nI k))]) hx hb dX4_lostCells_39 rfl hl (by decide) rfl (fun ls hl => ?_)
          refine lv_iinc (v := nI (k + 1)) (lv' := [(4, .int (nI (k + 1))), (2, .long (acc ||| 0)), (0, .ref a0), (1, .int w)]) hx hb dX4_lostCells_40 hl (k := 3) rfl (nI_1 k) (by decide) rfl (fun ls hl => ?_)
          refine lv_goto (tgt := 5) hx hb dX4_lostCells_43 (by decide) ?_
          have ha0 := ha
          rw [loC] at ha0
          exact ih_5 (k + 1) (acc ||| 0) (by first | assumption | omega | rfl) (by rw [loC, it_s]; simp only [← ha0, c22]; rfl) (by omega) ls (lv_sub hl [2, 3, 1, 0] rfl)
        · have c22 := zb_n0.mp c22
          refine lv_aload_n hx hb dX4_lostCells_25 rfl (lv_at hl 0 rfl) ?_
          refine lv_iload hx hb dX4_lostCells_26 (lv_at hl 3 rfl) ?_
          refine rd_callV (As := [.int (nI k)]) (rest := [.long acc]) hx hb hml hown hts hE hl.1 (c_X4_cellOf l G a0 a1 a2 a3 a4 C B F K n y (nI k) (by first | assumption | omega)) (cw_X4_66 hts) ⟨(Nat.le_of_ble_eq_true rfl), (Nat.le_of_ble_eq_true rfl)⟩ ⟨Nat.zero_le _, Nat.zero_le _⟩ rfl (sub_P hP [0, 1, 2, 3, 4] rfl) rfl rfl rfl rfl (Nat.le_of_ble_eq_true rfl) dX4_lostCells_28 ?_
          rw [atI_nI hkn (by omega)]
          refine rd_callN (As := [.int (C k)]) (rest := [.long acc]) hx hb hml hown hts hE hl.1 (c_X9_bitOf l G (C k) ) (cz_X4_69 hts) ⟨(Nat.le_of_ble_eq_true rfl), (Nat.le_of_ble_eq_true rfl)⟩ ⟨Nat.zero_le _, Nat.zero_le _⟩ rfl (sub_P hP [] rfl) rfl (Nat.le_of_ble_eq_true rfl) dX4_lostCells_31 ?_
          refine lv_goto (tgt := 38) hx hb dX4_lostCells_34 (by decide) ?_
          refine lv_lor hx hb dX4_lostCells_38 ?_
          refine lv_lstore_n (lv' := [(2, .long (acc ||| (bt (C k)))), (0, .ref a0), (1, .int w), (4, .int (nI k))]) hx hb dX4_lostCells_39 rfl hl (by decide) rfl (fun ls hl => ?_)
          refine lv_iinc (v := nI (k + 1)) (lv' := [(4, .int (nI (k + 1))), (2, .long (acc ||| (bt (C k)))), (0, .ref a0), (1, .int w)]) hx hb dX4_lostCells_40 hl (k := 3) rfl (nI_1 k) (by decide) rfl (fun ls hl => ?_)
          refine lv_goto (tgt := 5) hx hb dX4_lostCells_43 (by decide) ?_
          have ha0 := ha
          rw [loC] at ha0
          exact ih_5 (k + 1) (acc ||| (bt (C k))) (by first | assumption | omega | rfl) (by rw [loC, it_s]; simp only [← ha0, c22]; rfl) (by omega) ls (lv_sub hl [2, 3, 1, 0] rfl)
  refine lv_lconst (v := 0) hx hb dX4_lostCells_0 (by decide) ?_
  refine lv_lstore_n (lv' := [(2, .long 0), (0, .ref a0), (1, .int w)]) hx hb dX4_lostCells_1 rfl hl (by decide) rfl (fun ls hl => ?_)
  refine lv_iconst (v := 0) hx hb dX4_lostCells_2 (by decide) ?_
  refine lv_istore (lv' := [(4, .int 0), (2, .long 0), (0, .ref a0), (1, .int w)]) hx hb dX4_lostCells_3 hl (by decide) rfl (fun ls hl => ?_)
  exact J_5 (n - 0 + 1) 0 0 (by first | assumption | omega | rfl) rfl (Nat.lt_succ_self _) ls (lv_sub hl [2, 3, 1, 0] rfl)

set_option maxHeartbeats 4000000 in
set_option maxRecDepth 100000 in
theorem c_X4_countStanding (l : Launch) (G : Gv) (a0 : Nat) (a1 : Nat) (a2 : Nat) (a3 : Nat) (a4 : Nat) (C : Nat → Int32) (B : Nat → Int32) (F : Nat → Int32) (K : Nat → Int32) (n : Nat) (y : Int32) (hn : n ≤ 10) : Rd l yX4_countStanding cX4_countStanding 1 (some .int) (rmz 3 67) G [.ref a0] [(a0, .inr (4, [.ref a1, .ref a2, .ref a3, .ref a4, .int (nI n), .int y])), (a1, .inl (kI G, 10, .inl C)), (a2, .inl (kI G, 10, .inl B)), (a3, .inl (kI G, 10, .inl F)), (a4, .inl (kI G, 10, .inl K))] (.int (bcn (stC C B F y n))) := by
  refine Rd.ofW (by decide) (Nat.le_of_ble_eq_true rfl) ?_
  intro p e s m below meth c ls hx hb hml hr hown hts hlk hP hE hl
  have hl : lv_has ls 1 [(0, .ref a0)] := hl
  refine lv_aload_n hx hb dX4_countStanding_0 rfl (lv_at hl 0 rfl) ?_
  refine lv_aload_n hx hb dX4_countStanding_1 rfl (lv_at hl 0 rfl) ?_
  refine va_get hx hb hts inlX4 hown hE.1 hP 0 rfl rfl 5 (by decide) (fl_X4_28 hts) (fun _ h9 => h9) rfl dX4_countStanding_2 ?_
  refine rd_callV (As := [.int y]) (rest := []) hx hb hml hown hts hE hl.1 (c_X4_standingCells l G a0 a1 a2 a3 a4 C B F K n y y (by first | assumption | omega)) (cw_X4_76 hts) ⟨(Nat.le_of_ble_eq_true rfl), (Nat.le_of_ble_eq_true rfl)⟩ ⟨Nat.zero_le _, Nat.zero_le _⟩ rfl (sub_P hP [0, 1, 2, 3, 4] rfl) rfl rfl rfl rfl (Nat.le_of_ble_eq_true rfl) dX4_countStanding_5 ?_
  refine rd_callS (As := [.long (stC C B F y n)]) (rest := []) hx hb hml hown hts hE hl.1 (c_J13_bitCount_95d88 l G (stC C B F y n) ) (cs_X4_79 hts) ⟨(Nat.le_of_ble_eq_true rfl), (Nat.le_of_ble_eq_true rfl)⟩ ⟨Nat.zero_le _, Nat.zero_le _⟩ rfl (sub_P hP [] rfl) rfl (Nat.le_of_ble_eq_true rfl) dX4_countStanding_8 ?_
  exact rd_iret hx hb hr hlk dX4_countStanding_11 (by first | rfl | (simp [zb]; done))

set_option maxHeartbeats 4000000 in
set_option maxRecDepth 100000 in
theorem c_X4_countLost (l : Launch) (G : Gv) (a0 : Nat) (a1 : Nat) (a2 : Nat) (a3 : Nat) (a4 : Nat) (C : Nat → Int32) (B : Nat → Int32) (F : Nat → Int32) (K : Nat → Int32) (n : Nat) (y : Int32) (hn : n ≤ 10) : Rd l yX4_countLost cX4_countLost 1 (some .int) (rmz 3 67) G [.ref a0] [(a0, .inr (4, [.ref a1, .ref a2, .ref a3, .ref a4, .int (nI n), .int y])), (a1, .inl (kI G, 10, .inl C)), (a2, .inl (kI G, 10, .inl B)), (a3, .inl (kI G, 10, .inl F)), (a4, .inl (kI G, 10, .inl K))] (.int (bcn (loC C F y n))) := by
  refine Rd.ofW (by decide) (Nat.le_of_ble_eq_true rfl) ?_
  intro p e s m below meth c ls hx hb hml hr hown hts hlk hP hE hl
  have hl : lv_has ls 1 [(0, .ref a0)] := hl
  refine lv_aload_n hx hb dX4_countLost_0 rfl (lv_at hl 0 rfl) ?_
  refine lv_aload_n hx hb dX4_countLost_1 rfl (lv_at hl 0 rfl) ?_
  refine va_get hx hb hts inlX4 hown hE.1 hP 0 rfl rfl 5 (by decide) (fl_X4_28 hts) (fun _ h9 => h9) rfl dX4_countLost_2 ?_
  refine rd_callV (As := [.int y]) (rest := []) hx hb hml hown hts hE hl.1 (c_X4_lostCells l G a0 a1 a2 a3 a4 C B F K n y y (by first | assumption | omega)) (cw_X4_85 hts) ⟨(Nat.le_of_ble_eq_true rfl), (Nat.le_of_ble_eq_true rfl)⟩ ⟨Nat.zero_le _, Nat.zero_le _⟩ rfl (sub_P hP [0, 1, 2, 3, 4] rfl) rfl rfl rfl rfl (Nat.le_of_ble_eq_true rfl) dX4_countLost_5 ?_
  refine rd_callS (As := [.long (loC C F y n)]) (rest := []) hx hb hml hown hts hE hl.1 (c_J13_bitCount_95d88 l G (loC C F y n) ) (cs_X4_79 hts) ⟨(Nat.le_of_ble_eq_true rfl), (Nat.le_of_ble_eq_true rfl)⟩ ⟨Nat.zero_le _, Nat.zero_le _⟩ rfl (sub_P hP [] rfl) rfl (Nat.le_of_ble_eq_true rfl) dX4_countLost_8 ?_
  exact rd_iret hx hb hr hlk dX4_countLost_11 (by first | rfl | (simp [zb]; done))
