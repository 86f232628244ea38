/-! Long.bitCount: the end -/
def sx4 (x : Nat) : Nat := x + x / 2 ^ 8
def sx5 (x : Nat) : Nat := sx4 x + sx4 x / 2 ^ 16
def sx6 (x : Nat) : Nat := sx5 x + sx5 x / 2 ^ 32
def by8 (a b c d e f g h : Nat) : Nat := a + 256 * (b + 256 * (c + 256 * (d + 256 * (e + 256 * (f + 256 * (g + 256 * h))))))
theorem by8_lt {a b c d e f g h : Nat} (ha : a < 256) (hb : b < 256) (hc : c < 256) (hd : d < 256) (he : e < 256) (hf : f < 256) (hg : g < 256) (hh : h < 256) : by8 a b c d e f g h < 2 ^ 64 := by
  unfold by8
  omega
theorem sx4_8 {a b c d e f g h : Nat} (hb : a < 256) : sx4 (by8 a b c d e f g h) = by8 (a + b) (b + c) (c + d) (d + e) (e + f) (f + g) (g + h) h := by
  have : by8 a b c d e f g h / 2 ^ 8 = b + 256 * (c + 256 * (d + 256 * (e + 256 * (f + 256 * (g + 256 * h))))) := by
    unfold by8
    omega
  rw [sx4, this]
  unfold by8
  omega
theorem by8_16 {a b c d e f g h : Nat} (ha : a < 256) (hb : b < 256) : by8 a b c d e f g h + by8 a b c d e f g h / 2 ^ 16 = by8 (a + c) (b + d) (c + e) (d + f) (e + g) (f + h) g h := by
  have : by8 a b c d e f g h / 2 ^ 16 = c + 256 * (d + 256 * (e + 256 * (f + 256 * (g + 256 * h)))) := by
    unfold by8
    omega
  rw [this]
  unfold by8
  omega
theorem by8_32 {a b c d e f g h : Nat} (ha : a < 256) (hb : b < 256) (hc : c < 256) (hd : d < 256) : by8 a b c d e f g h + by8 a b c d e f g h / 2 ^ 32 = by8 (a + e) (b + f) (c + g) (d + h) e f g h := by
  have : by8 a b c d e f g h / 2 ^ 32 = e + 256 * (f + 256 * (g + 256 * h)) := by
    unfold by8
    omega
  rw [this]
  unfold by8
  omega
theorem by8_128 {a b c d e f g h : Nat} (ha : a < 128) : by8 a b c d e f g h % 128 = a := by
  unfold by8
  omega
theorem bf_by8 (f : Nat → Nat) (n : Nat) : bf f n 8 = by8 (f (n % 256)) (f (n / 256 % 256)) (f (n / 256 / 256 % 256)) (f (n / 256 / 256 / 256 % 256)) (f (n / 256 / 256 / 256 / 256 % 256)) (f (n / 256 / 256 / 256 / 256 / 256 % 256)) (f (n / 256 / 256 / 256 / 256 / 256 / 256 % 256)) (f (n / 256 / 256 / 256 / 256 / 256 / 256 / 256 % 256)) := by
  simp only [bf, by8, Nat.mul_zero, Nat.add_zero]
theorem smb_by8 (n : Nat) : smb n 8 = pc (n % 256) + (pc (n / 256 % 256) + (pc (n / 256 / 256 % 256) + (pc (n / 256 / 256 / 256 % 256) + (pc (n / 256 / 256 / 256 / 256 % 256) + (pc (n / 256 / 256 / 256 / 256 / 256 % 256) + (pc (n / 256 / 256 / 256 / 256 / 256 / 256 % 256) + pc (n / 256 / 256 / 256 / 256 / 256 / 256 / 256 % 256))))))) := by
  simp only [smb, Nat.add_zero]
theorem sx6_8 (n : Nat) : sx4 (bf pc n 8) < 2 ^ 64 ∧ sx5 (bf pc n 8) < 2 ^ 64 ∧ sx6 (bf pc n 8) % 128 = smb n 8 := by
  have hp : ∀ k, pc (k % 256) ≤ 8 := fun k => pc_8 _ (Nat.mod_lt _ (by decide))
  rw [bf_by8, smb_by8]
  have h0 := hp n
  have h1 := hp (n / 256)
  have h2 := hp (n / 256 / 256)
  have h3 := hp (n / 256 / 256 / 256)
  have h4 := hp (n / 256 / 256 / 256 / 256)
  have h5 := hp (n / 256 / 256 / 256 / 256 / 256)
  have h6 := hp (n / 256 / 256 / 256 / 256 / 256 / 256)
  have h7 := hp (n / 256 / 256 / 256 / 256 / 256 / 256 / 256)
  generalize pc (n % 256) = a at *
  generalize pc (n / 256 % 256) = b at *
  generalize pc (n / 256 / 256 % 256) = c at *
  generalize pc (n / 256 / 256 / 256 % 256) = d at *
  generalize pc (n / 256 / 256 / 256 / 256 % 256) = e at *
  generalize pc (n / 256 / 256 / 256 / 256 / 256 % 256) = f at *
  generalize pc (n / 256 / 256 / 256 / 256 / 256 / 256 % 256) = g at *
  generalize pc (n / 256 / 256 / 256 / 256 / 256 / 256 / 256 % 256) = h at *
  have e4 : sx4 (by8 a b c d e f g h) = by8 (a + b) (b + c) (c + d) (d + e) (e + f) (f + g) (g + h) h := sx4_8 (by omega)
  have e5 : sx5 (by8 a b c d e f g h) = by8 (a + b + (c + d)) (b + c + (d + e)) (c + d + (e + f)) (d + e + (f + g)) (e + f + (g + h)) (f + g + h) (g + h) h := by
    rw [sx5, e4]
    exact by8_16 (by omega) (by omega)
  have e6 : sx6 (by8 a b c d e f g h) = by8 (a + b + (c + d) + (e + f + (g + h))) (b + c + (d + e) + (f + g + h)) (c + d + (e + f) + (g + h)) (d + e + (f + g) + h) (e + f + (g + h)) (f + g + h) (g + h) h := by
    rw [sx6, e5]
    exact by8_32 (by omega) (by omega) (by omega) (by omega)
  refine ⟨?_, ?_, ?_⟩
  · rw [e4]
    exact by8_lt (by omega) (by omega) (by omega) (by omega) (by omega) (by omega) (by omega) (by omega)
  · rw [e5]
    exact by8_lt (by omega) (by omega) (by omega) (by omega) (by omega) (by omega) (by omega) (by omega)
  · rw [e6, by8_128 (by omega)]
    omega
theorem gb_lN {n : Nat} (h : n < 2 ^ 64) (i : Nat) : gb (lN n) i = n.testBit i := by
  unfold gb
  show (lN n).toBitVec.toNat.testBit i = _
  rw [wb_tn h]
theorem pf1 : ∀ d, d < 256 → p1 d < 256 := by decide +kernel
theorem pf2 : ∀ d, d < 256 → p2 (p1 d) < 256 := by decide +kernel
theorem pf3 : ∀ d, d < 256 → pc d < 256 := by decide +kernel
theorem bcn_c (w : Int64) : bcn w = nI (cnt (gb w) 64) := by
  obtain ⟨n, hn, rfl⟩ := wb_of w
  have hp : (256 : Nat) ^ 8 = 2 ^ 64 := by decide
  have m1 : mk 85 8 < 2 ^ 64 := by decide
  have m2 : mk 51 8 < 2 ^ 64 := by decide
  have m3 : mk 15 8 < 2 ^ 64 := by decide
  have l1 : bf p1 n 8 < 2 ^ 64 := hp ▸ bf_lt pf1 8 n
  have l2 : bf (fun d => p2 (p1 d)) n 8 < 2 ^ 64 := hp ▸ bf_lt pf2 8 n
  have l3 : bf pc n 8 < 2 ^ 64 := hp ▸ bf_lt pf3 8 n
  have e1 : lN n - (((lN n).toUInt64 >>> ((1 : Int32).toInt64.toUInt64 &&& Int64.toUInt64 63)).toInt64 &&& 6148914691236517205) = lN (bf p1 n 8) := by
    have h := wb_shr (k := 1) hn (by decide)
    rw [show (nI 1) = (1 : Int32) from rfl] at h
    rw [h, show (6148914691236517205 : Int64) = lN (mk 85 8) by decide +kernel, wb_and (by omega) m1, lN_sub half_and, show n / 2 ^ 1 = n / 2 from rfl, s1 8 n (by omega)]
  have e2 : (lN (bf p1 n 8) &&& 3689348814741910323) + (((lN (bf p1 n 8)).toUInt64 >>> ((2 : Int32).toInt64.toUInt64 &&& Int64.toUInt64 63)).toInt64 &&& 3689348814741910323) = lN (bf (fun d => p2 (p1 d)) n 8) := by
    have h := wb_shr (k := 2) l1 (by decide)
    rw [show (nI 2) = (2 : Int32) from rfl] at h
    rw [h, show (3689348814741910323 : Int64) = lN (mk 51 8) by decide +kernel, wb_and (by omega) m2, wb_and (by omega) m2, lN_add, show bf p1 n 8 / 2 ^ 2 = bf p1 n 8 / 4 from rfl, s2 8 _ (by omega), bf_bf pf1]
  have l4 : bf (fun d => p2 (p1 d)) n 8 + bf (fun d => p2 (p1 d)) n 8 / 16 < 2 ^ 64 := by
    have h7 := nib_bf 8 n
    have h8 : ∀ x : Nat, x < 2 ^ 64 → nib x 8 → x + x / 16 < 2 ^ 64 := by
      intro x hx hq
      obtain ⟨_, _, _, _, _, _, _, _, _, _, _, _, _, _, _, _, q8, _⟩ : _ := hq
      omega
    exact h8 _ l2 h7
  have e3 : (lN (bf (fun d => p2 (p1 d)) n 8) + ((lN (bf (fun d => p2 (p1 d)) n 8)).toUInt64 >>> ((4 : Int32).toInt64.toUInt64 &&& Int64.toUInt64 63)).toInt64) &&& 1085102592571150095 = lN (bf pc n 8) := by
    have h := wb_shr (k := 4) l2 (by decide)
    rw [show (nI 4) = (4 : Int32) from rfl] at h
    rw [h, show (1085102592571150095 : Int64) = lN (mk 15 8) by decide +kernel, lN_add, show (2 : Nat) ^ 4 = 16 from rfl, wb_and l4 m3, s3 8 _ (by omega) (nib_bf 8 n), bf_bf pf2]
    rfl
  obtain ⟨k4, k5, k6⟩ := sx6_8 n
  have e4 : lN (bf pc n 8) + ((lN (bf pc n 8)).toUInt64 >>> ((8 : Int32).toInt64.toUInt64 &&& Int64.toUInt64 63)).toInt64 = lN (sx4 (bf pc n 8)) := by
    have h := wb_shr (k := 8) l3 (by decide)
    rw [show (nI 8) = (8 : Int32) from rfl] at h
    rw [h, lN_add]
    rfl
  have e5 : lN (sx4 (bf pc n 8)) + ((lN (sx4 (bf pc n 8))).toUInt64 >>> ((16 : Int32).toInt64.toUInt64 &&& Int64.toUInt64 63)).toInt64 = lN (sx5 (bf pc n 8)) := by
    have h := wb_shr (k := 16) k4 (by decide)
    rw [show (nI 16) = (16 : Int32) from rfl] at h
    rw [h, lN_add]
    rfl
  have e6 : lN (sx5 (bf pc n 8)) + ((lN (sx5 (bf pc n 8))).toUInt64 >>> ((32 : Int32).toInt64.toUInt64 &&& Int64.toUInt64 63)).toInt64 = lN (sx6 (bf pc n 8)) := by
    have h := wb_shr (k := 32) k5 (by decide)
    rw [show (nI 32) = (32 : Int32) from rfl] at h
    rw [h, lN_add]
    rfl
  unfold bcn
  simp only
  rw [e1, e2, e3, e4, e5, e6, lN_i, pk_and (m := 127) _ 7 (by decide)]
  congr 1
  have ec : cnt (gb (lN n)) 64 = smb n 8 := by
    rw [smb_c]
    exact cnt_cong (fun i _ => gb_lN hn i)
  rw [ec, ← k6]
  show BitVec.toNat (BitVec.ofNat 32 (sx6 (bf pc n 8))) % 2 ^ 7 = _
  rw [BitVec.toNat_ofNat]
  omega
