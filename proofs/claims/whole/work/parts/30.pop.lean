/-! Long.bitCount counts the bits: rows on lN pasted from kit/laws, then by bytes -/
theorem wb_tb (n : Nat) : (lN n).toBitVec = BitVec.ofNat 64 n := rfl
theorem wb_inj {a b : Int64} (h : a.toBitVec = b.toBitVec) : a = b := Int64.toBitVec_inj.mp h
theorem wb_tn {n : Nat} (h : n < 2 ^ 64) : (lN n).toBitVec.toNat = n := by rw [wb_tb, BitVec.toNat_ofNat, Nat.mod_eq_of_lt h]
theorem wb_of (x : Int64) : ∃ n, n < 2 ^ 64 ∧ x = lN n := ⟨x.toBitVec.toNat, x.toBitVec.isLt, wb_inj (by rw [wb_tb]; simp)⟩
theorem wb_cu : ∀ k, k < 64 → ((nI k).toInt64.toUInt64 &&& Int64.toUInt64 63) = UInt64.ofNat k := by decide +kernel
theorem wb_shr {n k : Nat} (hn : n < 2 ^ 64) (hk : k < 64) : ((lN n).toUInt64 >>> ((nI k).toInt64.toUInt64 &&& Int64.toUInt64 63)).toInt64 = lN (n / 2 ^ k) := by
  rw [wb_cu k hk]
  apply wb_inj
  apply BitVec.eq_of_toNat_eq
  show ((lN n).toUInt64 >>> UInt64.ofNat k).toNat = (BitVec.ofNat 64 _).toNat
  have h1 : (UInt64.ofNat k).toNat = k := by
    show (BitVec.ofNat 64 k).toNat = k
    rw [BitVec.toNat_ofNat, Nat.mod_eq_of_lt (by omega)]
  have h2 : (lN n).toUInt64.toNat = n := wb_tn hn
  rw [UInt64.toNat_shiftRight, h1, h2, Nat.mod_eq_of_lt hk, Nat.shiftRight_eq_div_pow, BitVec.toNat_ofNat, Nat.mod_eq_of_lt (Nat.lt_of_le_of_lt (Nat.div_le_self _ _) hn)]
theorem wb_and {a b : Nat} (ha : a < 2 ^ 64) (hb : b < 2 ^ 64) : lN a &&& lN b = lN (a &&& b) := by
  apply wb_inj
  rw [Int64.toBitVec_and, wb_tb, wb_tb, wb_tb]
  apply BitVec.eq_of_toNat_eq
  rw [BitVec.toNat_and, BitVec.toNat_ofNat, BitVec.toNat_ofNat, BitVec.toNat_ofNat, Nat.mod_eq_of_lt ha, Nat.mod_eq_of_lt hb, Nat.mod_eq_of_lt (Nat.and_lt_two_pow _ hb)]
theorem and_byte {d m : Nat} (hd : d < 256) (hm : m < 256) (a b : Nat) : (d + 256 * a) &&& (m + 256 * b) = (d &&& m) + 256 * (a &&& b) := by
  apply Nat.eq_of_testBit_eq
  intro i
  have hdm : d &&& m < 2 ^ 8 := Nat.and_lt_two_pow _ hm
  rw [Nat.testBit_and, Nat.add_comm d, Nat.add_comm m, Nat.add_comm (d &&& m), show (256 : Nat) = 2 ^ 8 from rfl, Nat.testBit_two_pow_mul_add a hd, Nat.testBit_two_pow_mul_add b hm, Nat.testBit_two_pow_mul_add _ hdm]
  split <;> rw [Nat.testBit_and]
def mk (m : Nat) : Nat → Nat
  | 0 => 0
  | k + 1 => m + 256 * mk m k
def bf (f : Nat → Nat) : Nat → Nat → Nat
  | _, 0 => 0
  | n, k + 1 => f (n % 256) + 256 * bf f (n / 256) k
def p1 (d : Nat) : Nat := d - ((d / 2) &&& 85)
def p2 (d : Nat) : Nat := (d &&& 51) + ((d / 4) &&& 51)
def p3 (d : Nat) : Nat := (d + d / 16) &&& 15
theorem bf_mod {f : Nat → Nat} (hf : ∀ d, d < 256 → f d < 256) (n k : Nat) : bf f n (k + 1) % 256 = f (n % 256) ∧ bf f n (k + 1) / 256 = bf f (n / 256) k := by
  have h := hf (n % 256) (Nat.mod_lt _ (by decide))
  rw [bf]
  omega
theorem pw8 (k : Nat) : 256 ^ (k + 1) = 256 * 256 ^ k := by rw [Nat.pow_succ, Nat.mul_comm]
theorem p1_and : ∀ d, d < 256 → ((d / 2 + 128) &&& 85 = (d / 2) &&& 85) ∧ ((d / 2) &&& 85) ≤ d := by decide +kernel
theorem half_and {n k : Nat} : ((n / 2) &&& mk 85 k) ≤ n := Nat.le_trans Nat.and_le_left (Nat.div_le_self _ _)
theorem s1 : ∀ (k n : Nat), n < 256 ^ k → n - ((n / 2) &&& mk 85 k) = bf p1 n k
  | 0, n, h => by
    have : n = 0 := by simpa using h
    subst this; rfl
  | k + 1, n, h => by
    rw [pw8] at h
    have ih := s1 k (n / 256) (Nat.div_lt_of_lt_mul h)
    have e1 : n / 2 = (n % 256 / 2 + 128 * (n / 256 % 2)) + 256 * (n / 256 / 2) := by omega
    have hd : n % 256 < 256 := Nat.mod_lt _ (by decide)
    have e2 : (n % 256 / 2 + 128 * (n / 256 % 2)) &&& 85 = (n % 256 / 2) &&& 85 := by
      rcases Nat.mod_two_eq_zero_or_one (n / 256) with z | z <;> rw [z]
      · rfl
      · exact (p1_and _ hd).1
    rw [mk, e1, and_byte (by omega) (by decide), e2, bf, ← ih, p1]
    have h1 := (p1_and _ hd).2
    have h2 : ((n / 256 / 2) &&& mk 85 k) ≤ n / 256 := half_and
    omega
theorem p2_and : ∀ d, d < 256 → ∀ b, b < 4 → (d / 4 + 64 * b) &&& 51 = (d / 4) &&& 51 := by decide +kernel
theorem s2 : ∀ (k n : Nat), n < 256 ^ k → (n &&& mk 51 k) + ((n / 4) &&& mk 51 k) = bf p2 n k
  | 0, n, h => by
    have : n = 0 := by simpa using h
    subst this; rfl
  | k + 1, n, h => by
    rw [pw8] at h
    have ih := s2 k (n / 256) (Nat.div_lt_of_lt_mul h)
    have hd : n % 256 < 256 := Nat.mod_lt _ (by decide)
    have e0 : n &&& (51 + 256 * mk 51 k) = ((n % 256) &&& 51) + 256 * ((n / 256) &&& mk 51 k) := by
      have h := and_byte hd (show 51 < 256 by decide) (n / 256) (mk 51 k)
      rwa [show n % 256 + 256 * (n / 256) = n by omega] at h
    have e1 : n / 4 = (n % 256 / 4 + 64 * (n / 256 % 4)) + 256 * (n / 256 / 4) := by omega
    have e2 : (n / 4) &&& (51 + 256 * mk 51 k) = ((n % 256 / 4) &&& 51) + 256 * ((n / 256 / 4) &&& mk 51 k) := by
      rw [e1, and_byte (by omega) (by decide), p2_and _ hd _ (Nat.mod_lt _ (by decide))]
    rw [mk, e0, e2, bf, ← ih, p2]
    omega
/-- both halves of every byte are at most 4 -/
def nib (n : Nat) : Nat → Prop
  | 0 => True
  | k + 1 => n % 256 % 16 ≤ 4 ∧ n % 256 / 16 ≤ 4 ∧ nib (n / 256) k
theorem p3_and : ∀ d, d < 256 → d % 16 ≤ 4 → d / 16 ≤ 4 → ∀ b, b < 5 → (d + d / 16 + 16 * b) &&& 15 = (d + d / 16) &&& 15 := by decide +kernel
theorem s3 : ∀ (k n : Nat), n < 256 ^ k → nib n k → (n + n / 16) &&& mk 15 k = bf p3 n k
  | 0, n, h, _ => by
    have : n = 0 := by simpa using h
    subst this; rfl
  | k + 1, n, h, hn => by
    rw [pw8] at h
    obtain ⟨a1, a2, a3⟩ := hn
    have ih := s3 k (n / 256) (Nat.div_lt_of_lt_mul h) a3
    have hd : n % 256 < 256 := Nat.mod_lt _ (by decide)
    have hb : n / 256 % 16 < 5 := by
      cases k with
      | zero =>
        have : n / 256 = 0 := by
          have := Nat.div_lt_of_lt_mul h
          simpa using this
        omega
      | succ k =>
        have := a3.1
        omega
    have e1 : n + n / 16 = (n % 256 + n % 256 / 16 + 16 * (n / 256 % 16)) + 256 * (n / 256 + n / 256 / 16) := by omega
    rw [mk, e1, and_byte (by omega) (by decide), p3_and _ hd a1 a2 _ hb, bf, ← ih, p3]
theorem nib_bf : ∀ (k n : Nat), nib (bf (fun d => p2 (p1 d)) n k) k
  | 0, _ => trivial
  | k + 1, n => by
    have hf : ∀ d, d < 256 → p2 (p1 d) < 256 := by decide +kernel
    have hq : ∀ d, d < 256 → p2 (p1 d) % 16 ≤ 4 ∧ p2 (p1 d) / 16 ≤ 4 := by decide +kernel
    have h := bf_mod hf n k
    have h2 := hq (n % 256) (Nat.mod_lt _ (by decide))
    refine ⟨?_, ?_, ?_⟩
    · rw [h.1]; exact h2.1
    · rw [h.1]; exact h2.2
    · rw [h.2]; exact nib_bf k (n / 256)
theorem bf_lt {f : Nat → Nat} (hf : ∀ d, d < 256 → f d < 256) : ∀ (k n : Nat), bf f n k < 256 ^ k
  | 0, _ => by rw [bf]; decide
  | k + 1, n => by
    have h := bf_lt hf k (n / 256)
    have h2 := hf (n % 256) (Nat.mod_lt _ (by decide))
    rw [bf, pw8]
    omega
theorem bf_bf {f g : Nat → Nat} (hf : ∀ d, d < 256 → f d < 256) : ∀ (k n : Nat), bf g (bf f n k) k = bf (fun d => g (f d)) n k
  | 0, _ => rfl
  | k + 1, n => by
    have h := bf_mod hf n k
    rw [bf, h.1, h.2, bf_bf hf k (n / 256)]
    rfl
def pc (d : Nat) : Nat := p3 (p2 (p1 d))
theorem pc_c : ∀ d, d < 256 → pc d = cnt d.testBit 8 := by decide +kernel
theorem pc_8 : ∀ d, d < 256 → pc d ≤ 8 := by decide +kernel
theorem cnt_add (p : Nat → Bool) (a : Nat) : ∀ b, cnt p (a + b) = cnt p a + cnt (fun i => p (a + i)) b
  | 0 => rfl
  | b + 1 => by
    rw [← Nat.add_assoc, cnt_s, cnt_s, cnt_add p a b]
    omega
def smb (n : Nat) : Nat → Nat
  | 0 => 0
  | k + 1 => pc (n % 256) + smb (n / 256) k
theorem smb_c : ∀ (k n : Nat), smb n k = cnt n.testBit (8 * k)
  | 0, _ => rfl
  | k + 1, n => by
    rw [smb, smb_c k (n / 256), pc_c _ (Nat.mod_lt _ (by decide)), show 8 * (k + 1) = 8 + 8 * k by omega, cnt_add]
    congr 1
    · exact cnt_cong (fun i hi => by rw [show (256 : Nat) = 2 ^ 8 from rfl, Nat.testBit_mod_two_pow]; simp [hi])
    · exact cnt_cong (fun i _ => by rw [show (256 : Nat) = 2 ^ 8 from rfl, Nat.testBit_div_two_pow, Nat.add_comm])
