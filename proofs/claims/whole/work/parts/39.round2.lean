/-! round: the whole table -/
theorem shI_s (nc : Nat) (Sp : Nat → Int32) (sa : Int32) (un gp : Nat) (Be : Nat → Int32) (n : Nat) : shI nc Sp sa un gp Be (n + 1) = if gbt (nI gp) n then upd (shI nc Sp sa un gp Be n) (gp * 8 + n) (stA nc Sp (shI nc Sp sa un gp Be n) sa un gp n) else shI nc Sp sa un gp Be n := by
  unfold shI
  exact it_s _ _ _
theorem shO_s (nc : Nat) (Sp : Nat → Int32) (sa : Int32) (un : Nat) (Be : Nat → Int32) (n : Nat) : shO nc Sp sa un Be (n + 1) = shI nc Sp sa un (n + 1) (shO nc Sp sa un Be n) un := by
  unfold shO
  exact it_s _ _ _
theorem roI_s (nc : Nat) (go : Nat → Int32) (x : Int32) (u st : Nat) (to : Nat → Int32) (n : Nat) : roI nc go x u st to (n + 1) = upd (roI nc go x u st to n) (8 * st + n) (if gbt (nI st) n then rbM nc go (roI nc go x u st to n) x (oth st n) n u else 100000) := by
  unfold roI
  exact it_s _ _ _
/-- the entries of the sets before st, and of st before k, are the same -/
def TbR (u st k : Nat) (Be To : Nat → Int32) : Prop := ∀ o, 1 ≤ o → ∀ j, j < u → gbt (nI o) j = true → (o < st ∨ (o = st ∧ j < k)) → ∃ v : Nat, v ≤ 14 * o ∧ Be (o * 8 + j) = nI v ∧ To (8 * o + j) = nI v
section
variable {nr nc u : Nat} {Sp Go : Nat → Int32} {xc : Nat}
theorem tb_in (h1 : 2 ≤ nr ∧ nr ≤ 8) (h2 : 2 ≤ nc ∧ nc ≤ 8) (hu : u ≤ 8) (hx : xc < nr * nc) (hsp : ∀ j, j < u → ∃ c : Nat, c < nr * nc ∧ Sp j = nI c ∧ Go j = nI c) {st : Nat} (hst : st < 2 ^ u) (h1s : 1 ≤ st) {Be To : Nat → Int32} (h : TbR u st 0 Be To) : ∀ k, k ≤ u → TbR u st k (shI nc Sp (nI xc) u st Be k) (roI nc Go (nI xc) u st To k) := by
  intro k hk
  induction k with
  | zero => exact h
  | succ k ih =>
    have ih := ih (by omega)
    rw [shI_s, roI_s]
    generalize shI nc Sp (nI xc) u st Be k = b at *
    generalize roI nc Go (nI xc) u st To k = t at *
    cases hg : gbt (nI st) k with
    | false =>
      simp only [Bool.false_eq_true, if_false]
      intro o ho j hj hgj hc
      have hne : ¬ (o = st ∧ j = k) := fun ⟨e1, e2⟩ => by rw [e1, e2, hg] at hgj; exact absurd hgj (by decide)
      obtain ⟨v, hv, e1, e2⟩ := ih o ho j hj hgj (by omega)
      refine ⟨v, hv, e1, ?_⟩
      rw [pk_un (by omega)]
      exact e2
    | true =>
      simp only [if_true]
      obtain ⟨v, hv, e1, e2⟩ := st_same (Be := b) (To := t) h1 h2 hu hx hsp hst (by omega) hg (fun o ho j hj hgj => by
        rcases Nat.eq_zero_or_pos o with z | z
        · rw [z, gbt_0 j (by omega)] at hgj; exact absurd hgj (by decide)
        · exact ih o z j hj hgj (Or.inl ho))
      intro o ho j hj hgj hc
      by_cases e : o = st ∧ j = k
      · obtain ⟨rfl, rfl⟩ := e
        refine ⟨v, hv, ?_, ?_⟩
        · rw [pk_us]; exact e1
        · rw [pk_us]; exact e2
      · obtain ⟨v2, hv2, g1, g2⟩ := ih o ho j hj hgj (by omega)
        refine ⟨v2, hv2, ?_, ?_⟩
        · rw [pk_un (by omega)]; exact g1
        · rw [pk_un (by omega)]; exact g2
theorem tb_out (h1 : 2 ≤ nr ∧ nr ≤ 8) (h2 : 2 ≤ nc ∧ nc ≤ 8) (hu : u ≤ 8) (hx : xc < nr * nc) (hsp : ∀ j, j < u → ∃ c : Nat, c < nr * nc ∧ Sp j = nI c ∧ Go j = nI c) (Be To : Nat → Int32) : ∀ m, m < 2 ^ u → TbR u (m + 1) 0 (shO nc Sp (nI xc) u Be m) (roO nc Go (nI xc) u To m) := by
  intro m hm
  induction m with
  | zero => intro o ho j hj hgj hc; omega
  | succ m ih =>
    have ih := ih (by omega)
    rw [shO_s, roO_s]
    have h := tb_in h1 h2 hu hx hsp hm (by omega) ih u (Nat.le_refl _)
    intro o ho j hj hgj hc
    exact h o ho j hj hgj (by omega)
theorem ro_same (h1 : 2 ≤ nr ∧ nr ≤ 8) (h2 : 2 ≤ nc ∧ nc ≤ 8) (hu : u ≤ 8) (hu0 : ¬ u = 0) (hx : xc < nr * nc) (hsp : ∀ j, j < u → ∃ c : Nat, c < nr * nc ∧ Sp j = nI c ∧ Go j = nI c) (Be To : Nat → Int32) : roL nc Go (roO nc Go (nI xc) u To (2 ^ u - 1)) (nI xc) (2 ^ u - 1) u = soA nc Sp (shO nc Sp (nI xc) u Be (2 ^ u - 1)) (2 ^ u - 1) (nI xc) u := by
  have hp := p2_le hu
  have hp1 : 2 ≤ 2 ^ u := Nat.pow_le_pow_right (n := 2) (i := 1) (j := u) (by decide) (by omega)
  have hT := tb_out h1 h2 hu hx hsp Be To (2 ^ u - 1) (by omega)
  rcases so_same (Be := shO nc Sp (nI xc) u Be (2 ^ u - 1)) (To := roO nc Go (nI xc) u To (2 ^ u - 1)) (o := 2 ^ u - 1) h1 h2 hx hsp (M := 14 * (2 ^ u - 1)) (by omega) (fun j hj hgj => hT (2 ^ u - 1) (by omega) j hj hgj (Or.inl (by omega))) (R := roL nc Go (roO nc Go (nI xc) u To (2 ^ u - 1)) (nI xc) (2 ^ u - 1)) rfl (fun j hj => by rw [roL_s, gbt_al u (by omega) j hj, if_pos rfl]) u (Nat.le_refl _) with ⟨_, _, e3⟩ | ⟨w, _, e1, e2⟩
  · have := e3 0 (by omega)
    rw [gbt_al u (by omega) 0 (by omega)] at this
    exact absurd this (by decide)
  · rw [e1, e2]
end
/-- the stops, on both sides -/
theorem rdA_s' (C F : Nat → Int32) (y : Int32) (Sp : Nat → Int32) (k : Nat) : rdA C F y Sp (k + 1) = if F k = y then (upd (rdA C F y Sp k).1 (rdA C F y Sp k).2 (C k), (rdA C F y Sp k).2 + 1) else rdA C F y Sp k := by
  unfold rdA
  exact it_s _ _ _
section
variable {nr nc n : Nat} {C B F K C' B' F' K' : Nat → Int32} {y : Int32}
theorem rd_same (hv : VaM nr nc C B F K n) (hs : SaM C B F K n C' B' F' K') (hw : y.toInt < 1000) (Sp Go : Nat → Int32) : ∀ m, m ≤ n → (rdA C' F' y Go m).2 = (rdA C F y Sp m).2 ∧ ∀ j, j < (rdA C F y Sp m).2 → ∃ c : Nat, c < nr * nc ∧ (rdA C F y Sp m).1 j = nI c ∧ (rdA C' F' y Go m).1 j = nI c := by
  intro m hm
  induction m with
  | zero => exact ⟨rfl, fun j hj => absurd hj (Nat.not_lt_zero _)⟩
  | succ m ih =>
    obtain ⟨i1, i2⟩ := ih (by omega)
    obtain ⟨e1, e2, e3, e4⟩ := hs m (by omega)
    obtain ⟨f, hf, ef⟩ := hv.2.2.2.1 m (by omega)
    obtain ⟨c, hc, ec⟩ := hv.1 m (by omega)
    rw [rdA_s', rdA_s', e3, e1, ef, ec]
    by_cases z : nI f = y
    · rw [if_pos z, if_pos ((fM_eq hf hw).mpr z), i1]
      refine ⟨rfl, fun j hj => ?_⟩
      have hj : j < (rdA C F y Sp m).2 + 1 := hj
      by_cases e : j = (rdA C F y Sp m).2
      · refine ⟨c, hc, ?_, ?_⟩
        · show upd _ _ _ j = _
          rw [e, pk_us]
        · show upd _ _ _ j = _
          rw [e, pk_us]
      · obtain ⟨c2, hc2, g1, g2⟩ := i2 j (by omega)
        refine ⟨c2, hc2, ?_, ?_⟩
        · show upd _ _ _ j = _
          rw [pk_un e]; exact g1
        · show upd _ _ _ j = _
          rw [pk_un e]; exact g2
    · rw [if_neg z, if_neg (fun w => z ((fM_eq hf hw).mp w))]
      exact ⟨i1, i2⟩
theorem round_same (h1 : 2 ≤ nr ∧ nr ≤ 8) (h2 : 2 ≤ nc ∧ nc ≤ 8) (hv : VaM nr nc C B F K n) (hs : SaM C B F K n C' B' F' K') (hw : y.toInt < 1000) (Sp Go Be To : Nat → Int32) {xc : Nat} (hx : xc < nr * nc) : roR nc C' F' n y Go To (nI xc) = rdR nc C F n y Sp Be (nI xc) := by
  obtain ⟨e1, e2⟩ := rd_same hv hs hw Sp Go n (Nat.le_refl _)
  unfold roR rdR
  rw [e1]
  by_cases z : 8 < (rdA C F y Sp n).2
  · rw [if_pos z, if_pos z]
  · rw [if_neg z, if_neg z]
    by_cases z2 : (rdA C F y Sp n).2 = 0
    · rw [if_pos z2, if_pos z2]
    · rw [if_neg z2, if_neg z2]
      exact ro_same h1 h2 (by omega) z2 hx e2 Be To
end
