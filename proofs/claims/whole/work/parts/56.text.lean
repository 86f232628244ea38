/-! the text, sign by sign -/
/-- the same signs on both sides -/
def TxR (Sg tx : Nat → Int32) (tn : Nat) : Prop := ∀ p, p < tn → ∃ c : Nat, 32 ≤ c ∧ c ≤ 126 ∧ Sg p = nI c ∧ tx p = nI c
section
variable {Sg tx : Nat → Int32} {tn : Nat}
theorem sg_hre (h : TxR Sg tx tn) {p : Nat} (hp : p < 2 ^ 30) : (p < tn ∧ ∃ c : Nat, 32 ≤ c ∧ c ≤ 126 ∧ sgI Sg tn (nI p) = nI c ∧ hre tx tn p = nI c) ∨ (tn ≤ p ∧ sgI Sg tn (nI p) = 0 ∧ hre tx tn p = -1) := by
  have hb : inB (nI p) tn = decide (p < tn) := inB_nI (by omega)
  rcases Nat.lt_or_ge p tn with q | q
  · obtain ⟨c, h1, h2, h3, h4⟩ := h p q
    left
    refine ⟨q, c, h1, h2, ?_, ?_⟩
    · rw [sgI, hb, if_pos (by simp [q]), ixx (by omega), h3]
    · rw [hre, if_pos q, h4]
  · right
    refine ⟨q, ?_, ?_⟩
    · rw [sgI, hb, if_neg (by simp; omega)]
    · rw [hre, if_neg (by omega)]
theorem fg_same (h : TxR Sg tx tn) {p : Nat} (hp : p < 2 ^ 30) : fgI Sg tn (nI p) = dgM tx tn p := by
  unfold fgI dgM inn
  rcases sg_hre h hp with ⟨_, c, _, _, e1, e2⟩ | ⟨_, e1, e2⟩
  · rw [e1, e2]
  · rw [e1, e2]; decide
theorem eq_same (h : TxR Sg tx tn) {p K : Nat} (hp : p < 2 ^ 30) (hK : 0 < K ∧ K < 1000) : sgI Sg tn (nI p) = nI K ↔ hre tx tn p = nI K := by
  rcases sg_hre h hp with ⟨_, c, _, _, e1, e2⟩ | ⟨_, e1, e2⟩
  · rw [e1, e2]
  · rw [e1, e2]
    constructor
    · intro z
      have := (nI_eq (a := 0) (b := K) (by omega) (by omega)).mp z
      omega
    · intro z
      exact absurd z.symm (nI_nm1 (by omega))
theorem dg_hre (h : TxR Sg tx tn) {p : Nat} (hp : p < 2 ^ 30) (hd : dgM tx tn p = true) : hre tx tn p = sgI Sg tn (nI p) := by
  rcases sg_hre h hp with ⟨_, c, _, _, e1, e2⟩ | ⟨_, e1, e2⟩
  · rw [e1, e2]
  · unfold dgM inn at hd
    rw [e2] at hd
    exact absurd hd (by decide)
theorem nu_same (h : TxR Sg tx tn) {p : Nat} (hp : p < 2 ^ 29) (hd : dgM tx tn p = true) : nuV tx tn p = nI (nmN Sg tn p) ∧ nmN Sg tn p ≤ 99 ∧ p + nuL tx tn p = nmE Sg tn p ∧ nuE tx tn p = nmE Sg tn p + 1 := by
  have e3 : ∀ a b c : Int32, a + b - c = a + (b - c) := fun a b c => by rw [Int32.sub_eq_add_neg, Int32.sub_eq_add_neg, Int32.add_assoc]
  have f1 := fg_same h (p := p) (by omega)
  have f2 := fg_same h (p := p + 1) (by omega)
  have d1 := dg_eq (Sg := Sg) (tn := tn) (pl := p) (by rw [f1]; exact hd)
  unfold nuV nmN nuE nuL nmE
  rw [f2, hd, if_pos rfl, if_pos rfl, dg_hre h (by omega) hd, d1.1]
  cases hd2 : dgM tx tn (p + 1) with
  | true =>
    have d2 := dg_eq (Sg := Sg) (tn := tn) (pl := p + 1) (by rw [f2]; exact hd2)
    rw [if_pos rfl, if_pos rfl, if_pos rfl, if_pos rfl, dg_hre h (by omega) hd2, e3, d2.1, show (10 : Int32) = nI 10 from rfl, pk_mul, nI_add]
    exact ⟨rfl, by omega, by omega, by omega⟩
  | false =>
    rw [if_neg (by decide), if_neg (by decide), if_neg (by decide), if_neg (by decide)]
    exact ⟨rfl, by omega, by omega, by omega⟩
/-- a number with what must stand behind it -/
def sy (tx : Nat → Int32) (tn p : Nat) (be : Int32) : Bool := dgM tx tn p && decide (hre tx tn (p + nuL tx tn p) = be)
theorem nuS_sy (lo hi be : Int32) (p : Nat) (so : Bool) : nuS tx tn lo hi be p so = (so && (sy tx tn p be && inn (nuV tx tn p) lo hi)) := by
  unfold nuS sy
  cases so <;> cases dgM tx tn p <;> cases inn (nuV tx tn p) lo hi <;> simp
theorem nuE_b (p : Nat) : p < nuE tx tn p ∧ nuE tx tn p ≤ p + 3 := by
  unfold nuE nuL
  repeat' split
  all_goals omega
theorem rnL_step (h : TxR Sg tx tn) {wn f k p K : Nat} (hp : p < 2 ^ 28) (hK : 0 < K ∧ K < 1000) (hbe : (if k + 1 < wn then 44 else 59 : Int32) = nI K) (nb : Nat → Int32) : (sy tx tn p (nI K) = true → rnL Sg tn wn (f + 1) k p nb = rnL Sg tn wn f (k + 1) (nuE tx tn p) (upd nb k (nuV tx tn p)) ∧ ∃ v, v ≤ 99 ∧ nuV tx tn p = nI v) ∧ (sy tx tn p (nI K) = false → (rnL Sg tn wn (f + 1) k p nb).1 = -4) := by
  have f1 := fg_same h (p := p) (by omega)
  rw [rnL, hbe, f1]
  unfold sy
  cases hd : dgM tx tn p with
  | false => exact ⟨fun z => absurd z (by simp), fun _ => rfl⟩
  | true =>
    obtain ⟨n1, n2, n3, n4⟩ := nu_same h (p := p) (by omega) hd
    have hE := nmE_le Sg tn p
    have hq := eq_same h (p := nmE Sg tn p) (K := K) (by omega) hK
    rw [if_pos rfl, n3, Bool.true_and]
    by_cases z : hre tx tn (nmE Sg tn p) = nI K
    · rw [if_pos (hq.mpr z)]
      exact ⟨fun _ => ⟨by rw [n4, n1], _, n2, n1⟩, fun w => absurd z (of_decide_eq_false w)⟩
    · rw [if_neg (fun w => z (hq.mp w))]
      exact ⟨fun w => absurd (of_decide_eq_true w) z, fun _ => rfl⟩
end
/-! what is drafted -/
/-- drafts on both sides, and what they hold -/
def DfR (δ : Dr) (s : Ms) : Prop :=
  (2 ≤ δ.1 ∧ δ.1 ≤ 8) ∧ (2 ≤ δ.2.1 ∧ δ.2.1 ≤ 8) ∧ s.1 = δ.1 ∧ s.2.1 = δ.2.1 ∧ s.2.2.2.1 = δ.2.2.2.2.2.2.1 ∧ s.2.2.2.2.2.2.2 = δ.2.2.2.2.2.2.2.2.2.2.1 ∧ δ.2.2.2.2.2.2.1 ≤ 10 ∧ δ.2.2.2.2.2.2.2.2.2.2.1 ≤ 5 ∧
  VaM δ.1 δ.2.1 δ.2.2.1 δ.2.2.2.1 δ.2.2.2.2.1 δ.2.2.2.2.2.1 δ.2.2.2.2.2.2.1 ∧ VaF δ.2.2.2.2.1 δ.2.2.2.2.2.2.1 ∧
  SaM δ.2.2.1 δ.2.2.2.1 δ.2.2.2.2.1 δ.2.2.2.2.2.1 δ.2.2.2.2.2.2.1 (fun k => s.2.2.1 k) (fun k => s.2.2.1 (10 + k)) (fun k => s.2.2.1 (20 + k)) (fun k => s.2.2.1 (30 + k)) ∧
  VaC δ.2.2.2.2.2.2.2.1 δ.2.2.2.2.2.2.2.2.1 δ.2.2.2.2.2.2.2.2.2.1 δ.2.2.2.2.2.2.2.2.2.2.1 ∧
  SaC δ.2.2.2.2.2.2.2.1 δ.2.2.2.2.2.2.2.2.1 δ.2.2.2.2.2.2.2.2.2.1 δ.2.2.2.2.2.2.2.2.2.2.1 (fun k => s.2.2.2.2.1 (5 + k)) (fun k => s.2.2.2.2.2.1 (5 + k)) (fun k => s.2.2.2.2.2.2.1 (5 + k))
theorem dnM_gg (dr : Nat → Int32) (x : Int32) (g : Bool) : ∀ n, dnM dr x g n = (g && dnM dr x true n)
  | 0 => by
    show g = (g && true)
    rw [Bool.and_true]
  | n + 1 => by
    have e : ∀ g, dnM dr x g (n + 1) = (dnM dr x g n && !decide (dr n = x)) := fun g => by
      unfold dnM
      exact it_s _ _ _
    rw [e, e, dnM_gg dr x g n, Bool.and_assoc]
theorem dnM_iff (dr : Nat → Int32) (x : Int32) : ∀ n, dnM dr x true n = true ↔ ∀ k, k < n → ¬ dr k = x
  | 0 => ⟨fun _ k hk => absurd hk (Nat.not_lt_zero _), fun _ => rfl⟩
  | n + 1 => by
    have e : dnM dr x true (n + 1) = (dnM dr x true n && !decide (dr n = x)) := by
      unfold dnM
      exact it_s _ _ _
    rw [e, Bool.and_eq_true, dnM_iff dr x n, Bool.not_eq_true', decide_eq_false_iff_not]
    constructor
    · rintro ⟨h1, h2⟩ k hk
      by_cases q : k = n
      · subst q; exact h2
      · exact h1 k (by omega)
    · intro h
      exact ⟨fun k hk => h k (by omega), h n (by omega)⟩
theorem thI_iff (C : Nat → Int32) {n : Nat} (hn : n ≤ 10) (x : Int32) : thI C n x = -4 ↔ ∀ k, k < n → ¬ C k = x := by
  constructor
  · intro h
    refine Classical.byContradiction (fun hn2 => ?_)
    have hex : ∃ k, k < n ∧ C k = x := Classical.byContradiction (fun q => hn2 (fun k hk e => q ⟨k, hk, e⟩))
    obtain ⟨k, ⟨hk, ek⟩, hl⟩ := pk_least _ hex
    have := fsx_at (p := fun j => decide (C j = x)) (f := n) (i := 0) (k := k) (Nat.zero_le _) (by omega) (by simp [ek]) (fun j _ hj => by
      have := hl j hj
      simp only [decide_eq_false_iff_not]
      exact fun e => this ⟨by omega, e⟩)
    unfold thI at h
    rw [this] at h
    exact nI_ne4 (by omega) h
  · intro h
    exact fsx_no (fun j _ hj => by simp [h j (by omega)])
