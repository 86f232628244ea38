/-! what the class holds and what the reference holds -/
def MoR (nr nc : Nat) (C B F K : Nat → Int32) (n : Nat) (y : Int32) (nw : Nat → Int32) (ba : Nat) : Prop :=
  (1 ≤ n ∧ n ≤ 10) ∧ nw (ba + 1) = nI n ∧ nw ba = y ∧ (∃ yv : Nat, yv ≤ 98 ∧ y = nI yv) ∧ VaM nr nc C B F K n ∧ VaF F n ∧ SaM C B F K n (cel nw ba) (sta nw ba) (fal nw ba) (kin nw ba)
def ShR (nr nc : Nat) (CC BB FF KK : Nat → Nat → Int32) (NN : Nat → Nat) (YY : Nat → Int32) (m : Nat) (nw : Nat → Int32) (ba : Nat) : Prop := ∀ k, k < m → MoR nr nc (CC k) (BB k) (FF k) (KK k) (NN k) (YY k) nw (ba + 42 * k)
def TeR (Sg : Nat → Int32) (tn : Nat) (tx : Nat → Int32) (ty : Nat) : Prop := tn ≤ 200 ∧ ty = tn ∧ TxR Sg tx tn ∧ ∀ j, narrow .char (.int (Sg j)) = .int (Sg j)
def GrR (nr nc : Nat) (Yr Dn Rt : Nat → Int32) (q : Nat) (ro co mp my md mr : Nat → Int32) : Prop := (2 ≤ nr ∧ nr ≤ 8) ∧ (2 ≤ nc ∧ nc ≤ 8) ∧ ro 0 = nI nr ∧ co 0 = nI nc ∧ mp 0 = nI q ∧ q ≤ 5 ∧ VaC Yr Dn Rt q ∧ SaC Yr Dn Rt q my md mr
def SeR (sc : Int64) (sv : Nat) (sa : Nat → Int32) (sm : Nat) : Prop := sv ≤ 12 ∧ sm = sv ∧ sc = snM sa sv
section
variable {nr nc n m ba bb : Nat} {C B F K C' B' F' K' nw nw' : Nat → Int32} {y : Int32}
theorem MoR_nw (h : MoR nr nc C B F K n y nw ba) (e : ∀ i, i < 42 → nw' (bb + i) = nw (ba + i)) : MoR nr nc C B F K n y nw' bb := by
  obtain ⟨h1, h2, h3, h4, h5, h6, h7⟩ := h
  refine ⟨h1, by rw [e 1 (by decide), h2], by have := e 0 (by decide); rw [Nat.add_zero, Nat.add_zero] at this; rw [this, h3], h4, h5, h6, fun k hk => ?_⟩
  obtain ⟨a1, a2, a3, a4⟩ := h7 k hk
  refine ⟨?_, ?_, ?_, ?_⟩
  · rw [← a1]; show nw' (bb + 2 + k) = nw (ba + 2 + k); rw [Nat.add_assoc, Nat.add_assoc, e _ (by omega)]
  · rw [← a2]; show nw' (bb + 12 + k) = nw (ba + 12 + k); rw [Nat.add_assoc, Nat.add_assoc, e _ (by omega)]
  · rw [← a3]; show nw' (bb + 22 + k) = nw (ba + 22 + k); rw [Nat.add_assoc, Nat.add_assoc, e _ (by omega)]
  · rw [← a4]; show nw' (bb + 32 + k) = nw (ba + 32 + k); rw [Nat.add_assoc, Nat.add_assoc, e _ (by omega)]
theorem MoR_cl (h : MoR nr nc C B F K n y nw ba) (e : ∀ k, k < 10 → C' k = C k ∧ B' k = B k ∧ F' k = F k ∧ K' k = K k) : MoR nr nc C' B' F' K' n y nw ba := by
  obtain ⟨h1, h2, h3, h4, ⟨v1, v2, v3, v4, v5⟩, h6, h7⟩ := h
  refine ⟨h1, h2, h3, h4, ⟨fun k hk => by rw [(e k (by omega)).1]; exact v1 k hk, fun k j hk hj q => v2 k j hk hj (by rw [← (e k (by omega)).1, ← (e j (by omega)).1]; exact q), fun k hk => by rw [(e k (by omega)).2.1]; exact v3 k hk, fun k hk => by rw [(e k (by omega)).2.2.1]; exact v4 k hk, fun k hk => by rw [(e k (by omega)).2.2.2]; exact v5 k hk⟩, fun k hk => by rw [(e k (by omega)).2.2.1]; exact h6 k hk, fun k hk => ?_⟩
  obtain ⟨a1, a2, a3, a4⟩ := h7 k hk
  obtain ⟨e1, e2, e3, e4⟩ := e k (by omega)
  exact ⟨by rw [e1]; exact a1, by rw [e2]; exact a2, by rw [e3]; exact a3, by rw [e4]; exact a4⟩
theorem cpy10 (f g : Nat → Int32) {k : Nat} (hk : k < 10) : va_cpy f g 0 0 10 k = f k := by
  unfold va_cpy
  rw [if_pos (by omega), Nat.zero_add, Nat.sub_zero]
theorem cpy5 (f g : Nat → Int32) {k : Nat} (hk : k < 5) : va_cpy f g 0 0 5 k = f k := by
  unfold va_cpy
  rw [if_pos (by omega), Nat.zero_add, Nat.sub_zero]
theorem MoR_cpy {X Y Z W : Nat → Int32} (h : MoR nr nc C B F K n y nw ba) : MoR nr nc (va_cpy C X 0 0 10) (va_cpy B Y 0 0 10) (va_cpy F Z 0 0 10) (va_cpy K W 0 0 10) n y nw ba := MoR_cl h (fun _ hk => ⟨cpy10 _ _ hk, cpy10 _ _ hk, cpy10 _ _ hk, cpy10 _ _ hk⟩)
/-! the reference's shelf -/
theorem knS_at (nw : Nat → Int32) : ∀ n i, knS nw n i = if 42 ≤ i ∧ i < 42 + n then nw (i + 42) else nw i
  | 0, i => by rw [if_neg (by omega)]; rfl
  | n + 1, i => by
    have e : knS nw (n + 1) = upd (knS nw n) (42 + n) (knS nw n (84 + n)) := by
      unfold knS
      exact it_s _ _ _
    rw [e]
    by_cases q : i = 42 + n
    · subst q
      rw [pk_us, knS_at nw n, if_neg (by omega), if_pos (by omega)]
      congr 1
      omega
    · rw [pk_un q, knS_at nw n]
      by_cases w : 42 ≤ i ∧ i < 42 + n
      · rw [if_pos w, if_pos (by omega)]
      · rw [if_neg w, if_neg (by omega)]
theorem kn_low (nw : Nat → Int32) {de i : Nat} (hd : de ≤ 8) (hi : i < 42 ∨ 378 ≤ i) : knM nw de i = nw i := by
  unfold knM
  by_cases q : de = 8
  · rw [if_pos q, cpM_out _ (by omega), knS_at, if_neg (by omega)]
  · rw [if_neg q, cpM_out _ (by omega)]
theorem kn_put (nw : Nat → Int32) {de i : Nat} (hd : de ≤ 8) (hi : i < 42) : knM nw de (42 + 42 * ps8 de + i) = nw (0 + i) := by
  unfold knM ps8
  by_cases q : de = 8
  · rw [if_pos q, if_neg (by omega), show 42 + 42 * 7 + i = 336 + i by omega, cpM_in _ hi (Or.inl (by omega)), knS_at, if_neg (by omega)]
  · rw [if_neg q, if_pos (by omega), cpM_in _ hi (Or.inl (by omega))]
theorem kn_old (nw : Nat → Int32) {de k i : Nat} (hd : de ≤ 8) (hk : k < ps8 de) (hi : i < 42) : knM nw de (42 + 42 * k + i) = nw (42 + 42 * (if de < 8 then k else k + 1) + i) := by
  unfold knM
  unfold ps8 at hk
  by_cases q : de = 8
  · rw [if_neg (show ¬ de < 8 by omega)] at hk ⊢
    rw [if_pos q, cpM_out _ (Or.inl (by omega)), knS_at, if_pos (by omega)]
    congr 1
    omega
  · rw [if_pos (show de < 8 by omega)] at hk ⊢
    rw [if_neg q, cpM_out _ (Or.inl (by omega))]
theorem rt8_at {α : Type} (f : Nat → α) {sn k : Nat} (hk : k < ps8 sn) : rt8 sn f k = f (if sn < 8 then k else k + 1) := by
  unfold ps8 at hk
  unfold rt8 rot
  by_cases q : sn < 8
  · rw [if_pos q, if_pos q]
  · rw [if_neg q] at hk
    rw [if_neg q, if_neg q]
    rw [if_pos hk]
theorem upB_s (f : Nat → Nat → Int32) (p : Nat) (X : Nat → Int32) : upB f p X p = va_cpy X (f p) 0 0 10 := by
  unfold upB
  rw [if_pos rfl]
theorem upB_n (f : Nat → Nat → Int32) {p k : Nat} (X : Nat → Int32) (h : ¬ k = p) : upB f p X k = f k := by
  unfold upB
  rw [if_neg h]
/-- a moment put on the shelf, on both sides -/
theorem put_R {CC BB FF KK : Nat → Nat → Int32} {NN : Nat → Nat} {YY : Nat → Int32} {sn : Nat} (hsn : sn ≤ 8) (h : MoR nr nc C B F K n y nw 0) (hs : ShR nr nc CC BB FF KK NN YY sn nw 42) : ShR nr nc (upB (rt8 sn CC) (ps8 sn) C) (upB (rt8 sn BB) (ps8 sn) B) (upB (rt8 sn FF) (ps8 sn) F) (upB (rt8 sn KK) (ps8 sn) K) (va_up (rt8 sn NN) (ps8 sn) n) (va_up (rt8 sn YY) (ps8 sn) y) (if sn < 8 then sn + 1 else 8) (knM nw sn) 42 := by
  intro k hk
  have hk' : k ≤ ps8 sn := by
    unfold ps8
    by_cases q : sn < 8
    · rw [if_pos q] at hk ⊢; omega
    · rw [if_neg q] at hk ⊢; omega
  by_cases e : k = ps8 sn
  · subst e
    rw [upB_s, upB_s, upB_s, upB_s, va_up_self, va_up_self]
    exact MoR_cpy (MoR_nw h (fun i hi => kn_put nw hsn hi))
  · have hlt : k < ps8 sn := by omega
    rw [upB_n _ _ e, upB_n _ _ e, upB_n _ _ e, upB_n _ _ e, va_up_ne _ _ e, va_up_ne _ _ e, rt8_at _ hlt, rt8_at _ hlt, rt8_at _ hlt, rt8_at _ hlt, rt8_at _ hlt, rt8_at _ hlt]
    refine MoR_nw (hs (if sn < 8 then k else k + 1) ?_) (fun i hi => kn_old nw hsn hlt hi)
    unfold ps8 at hlt
    by_cases q : sn < 8
    · rw [if_pos q] at hlt ⊢; exact hlt
    · rw [if_neg q] at hlt ⊢; omega
theorem ShR_nw {CC BB FF KK : Nat → Nat → Int32} {NN : Nat → Nat} {YY : Nat → Int32} (h : ShR nr nc CC BB FF KK NN YY m nw ba) (e : ∀ i, ba ≤ i → i < ba + 42 * m → nw' i = nw i) : ShR nr nc CC BB FF KK NN YY m nw' ba := fun k hk => MoR_nw (h k hk) (fun i hi => e _ (by omega) (by
    have : 42 * (k + 1) ≤ 42 * m := Nat.mul_le_mul_left _ hk
    omega))
theorem ShR_0 {CC BB FF KK : Nat → Nat → Int32} {NN : Nat → Nat} {YY : Nat → Int32} : ShR nr nc CC BB FF KK NN YY 0 nw ba := fun k hk => absurd hk (Nat.not_lt_zero _)
theorem ShR_le {CC BB FF KK : Nat → Nat → Int32} {NN : Nat → Nat} {YY : Nat → Int32} {m' : Nat} (h : ShR nr nc CC BB FF KK NN YY m nw ba) (hm : m' ≤ m) : ShR nr nc CC BB FF KK NN YY m' nw ba := fun k hk => h k (by omega)
/-- the year goes on -/
theorem pass_M (h : MoR nr nc C B F K n y nw 0) {d : Int32} (hd1 : ¬ d < 1) (hd2 : d ≤ 30) (hd3 : y + d ≤ 98) (e : ∀ i, i < 42 → ¬ i = 0 → nw' i = nw i) (e0 : nw' 0 = y + d) : MoR nr nc C B F K n (y + d) nw' 0 := by
  obtain ⟨h1, h2, h3, ⟨yv, hyv, ey⟩, h5, h6, h7⟩ := h
  have hd0 : ¬ d < 0 := fun z => hd1 (Int32.lt_trans z (by decide))
  obtain ⟨dv, hdv, rfl⟩ := nI_of hd0
  have hd30 : dv ≤ 30 := (nI_leI (b := 30) hdv (by decide)).mp hd2
  have e98 : yv + dv ≤ 98 := by
    rw [ey, nI_add] at hd3
    exact (nI_leI (b := 98) (by omega) (by decide)).mp hd3
  refine ⟨h1, by rw [e 1 (by decide) (by decide)]; exact h2, e0, ⟨yv + dv, e98, by rw [ey, nI_add]⟩, h5, h6, fun k hk => ?_⟩
  obtain ⟨a1, a2, a3, a4⟩ := h7 k hk
  refine ⟨?_, ?_, ?_, ?_⟩
  · rw [← a1]; exact e (0 + 2 + k) (by omega) (by omega)
  · rw [← a2]; exact e (0 + 12 + k) (by omega) (by omega)
  · rw [← a3]; exact e (0 + 22 + k) (by omega) (by omega)
  · rw [← a4]; exact e (0 + 32 + k) (by omega) (by omega)
/-- a thing burns -/
theorem burn_M (h : MoR nr nc C B F K n y nw 0) {j : Nat} (hj : j < n) (e : ∀ i, i < 42 → ¬ i = 22 + j → nw' i = nw i) (e0 : nw' (22 + j) = y) : MoR nr nc C B (upd F j y) K n y nw' 0 := by
  obtain ⟨h1, h2, h3, ⟨yv, hyv, ey⟩, ⟨v1, v2, v3, v4, v5⟩, h6, h7⟩ := h
  refine ⟨h1, by rw [e 1 (by decide) (by omega)]; exact h2, by rw [e 0 (by decide) (by omega)]; exact h3, ⟨yv, hyv, ey⟩, ⟨v1, v2, v3, fun k hk => ?_, v5⟩, fun k hk => ?_, fun k hk => ?_⟩
  · by_cases q : k = j
    · subst q; rw [pk_us]; exact ⟨yv, by omega, ey⟩
    · rw [pk_un q]; exact v4 k hk
  · by_cases q : k = j
    · subst q; rw [pk_us]; exact ⟨yv, by omega, ey⟩
    · rw [pk_un q]; exact h6 k hk
  · obtain ⟨a1, a2, a3, a4⟩ := h7 k hk
    refine ⟨?_, ?_, ?_, ?_⟩
    · rw [← a1]; exact e (0 + 2 + k) (by omega) (by omega)
    · rw [← a2]; exact e (0 + 12 + k) (by omega) (by omega)
    · by_cases q : k = j
      · subst q
        rw [pk_us, ey, fM_id (by omega), ← ey]
        show nw' (0 + 22 + k) = y
        rw [Nat.zero_add]; exact e0
      · rw [pk_un q, ← a3]; exact e (0 + 22 + k) (by omega) (by omega)
    · rw [← a4]; exact e (0 + 32 + k) (by omega) (by omega)
/-- a house is built -/
theorem build_M (h : MoR nr nc C B F K n y nw 0) (hg1 : 2 ≤ nr ∧ nr ≤ 8) (hg2 : 2 ≤ nc ∧ nc ≤ 8) {x : Int32} (hx : inG nr nc x = true) (hx2 : thI C n x = -4) (hn : n < 10) (e : ∀ i, i < 42 → ¬ i = 1 → ¬ i = 2 + n → ¬ i = 12 + n → ¬ i = 22 + n → ¬ i = 32 + n → nw' i = nw i) (e1 : nw' 1 = nI (n + 1)) (e2 : nw' (2 + n) = x) (e3 : nw' (12 + n) = y) (e4 : nw' (22 + n) = 100000) (e5 : nw' (32 + n) = 0) : MoR nr nc (upd C n x) (upd B n y) (upd F n 1000) (upd K n 0) (n + 1) y nw' 0 := by
  have hcl := cells_le hg1 hg2
  obtain ⟨h1, h2, h3, ⟨yv, hyv, ey⟩, ⟨v1, v2, v3, v4, v5⟩, h6, h7⟩ := h
  obtain ⟨c, hc, rfl⟩ := inB_nat hx (by omega)
  have hnx := (thI_iff C h1.2 (nI c)).mp hx2
  refine ⟨⟨by omega, by omega⟩, e1, by rw [e 0 (by decide) (by omega) (by omega) (by omega) (by omega) (by omega)]; exact h3, ⟨yv, hyv, ey⟩, ⟨fun k hk => ?_, fun k j hk hj q => ?_, fun k hk => ?_, fun k hk => ?_, fun k hk => ?_⟩, fun k hk => ?_, fun k hk => ?_⟩
  · by_cases q : k = n
    · subst q; rw [pk_us]; exact ⟨c, hc, rfl⟩
    · rw [pk_un q]; exact v1 k (by omega)
  · by_cases q1 : k = n
    · by_cases q2 : j = n
      · rw [q1, q2]
      · rw [q1, pk_us, pk_un q2] at q
        exact absurd q.symm (hnx j (by omega))
    · by_cases q2 : j = n
      · rw [q2, pk_us, pk_un q1] at q
        exact absurd q (hnx k (by omega))
      · rw [pk_un q1, pk_un q2] at q
        exact v2 k j (by omega) (by omega) q
  · by_cases q : k = n
    · subst q; rw [pk_us]; exact ⟨yv, by omega, ey⟩
    · rw [pk_un q]; exact v3 k (by omega)
  · by_cases q : k = n
    · subst q; rw [pk_us]; exact ⟨1000, by decide, rfl⟩
    · rw [pk_un q]; exact v4 k (by omega)
  · by_cases q : k = n
    · subst q; rw [pk_us]; exact ⟨0, by decide, rfl⟩
    · rw [pk_un q]; exact v5 k (by omega)
  · by_cases q : k = n
    · subst q; rw [pk_us]; exact ⟨1000, Or.inr rfl, rfl⟩
    · rw [pk_un q]; exact h6 k (by omega)
  · by_cases q : k = n
    · subst q
      rw [pk_us, pk_us, pk_us, pk_us]
      refine ⟨?_, ?_, ?_, ?_⟩
      · show nw' (0 + 2 + k) = _; rw [Nat.zero_add]; exact e2
      · show nw' (0 + 12 + k) = _; rw [Nat.zero_add]; exact e3
      · show nw' (0 + 22 + k) = _; rw [Nat.zero_add]; exact e4
      · show nw' (0 + 32 + k) = _; rw [Nat.zero_add]; exact e5
    · rw [pk_un q, pk_un q, pk_un q, pk_un q]
      obtain ⟨a1, a2, a3, a4⟩ := h7 k (by omega)
      refine ⟨?_, ?_, ?_, ?_⟩
      · rw [← a1]; exact e (0 + 2 + k) (by omega) (by omega) (by omega) (by omega) (by omega) (by omega)
      · rw [← a2]; exact e (0 + 12 + k) (by omega) (by omega) (by omega) (by omega) (by omega) (by omega)
      · rw [← a3]; exact e (0 + 22 + k) (by omega) (by omega) (by omega) (by omega) (by omega) (by omega)
      · rw [← a4]; exact e (0 + 32 + k) (by omega) (by omega) (by omega) (by omega) (by omega) (by omega)
end
