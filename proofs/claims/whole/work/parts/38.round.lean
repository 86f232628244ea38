/-! round: the same table -/
theorem ab_same (x : Int32) : abM x = abI x := by
  unfold abM abI
  split
  · rfl
  · rw [Int32.zero_sub]
theorem ap_same (nc : Nat) (x z : Int32) : apM nc x z = apI nc x z := by
  unfold apM apI
  rw [ab_same, ab_same]
  rfl
theorem ab_nat {a b : Nat} (ha : a ≤ 7) (hb : b ≤ 7) : ∃ d : Nat, d ≤ 7 ∧ abI (nI a - nI b) = nI d := by
  have h : ∀ a, a < 8 → ∀ b, b < 8 → abI (nI a - nI b) = nI ((a - b) + (b - a)) := by decide +kernel
  exact ⟨(a - b) + (b - a), by omega, h a (by omega) b (by omega)⟩
theorem ap_nat {nr nc c e : Nat} (h1 : 2 ≤ nr ∧ nr ≤ 8) (h2 : 2 ≤ nc ∧ nc ≤ 8) (hc : c < nr * nc) (he : e < nr * nc) : ∃ d : Nat, d ≤ 14 ∧ apI nc (nI c) (nI e) = nI d := by
  have hcl := cells_le h1 h2
  have er : ∀ x, x < nr * nc → rwI nc (nI x) = nI (x / nc) ∧ coI nc (nI x) = nI (x % nc) ∧ x / nc ≤ 7 ∧ x % nc ≤ 7 := by
    intro x hx
    have hr : x / nc < nr := Nat.div_lt_of_lt_mul (by rw [Nat.mul_comm]; exact hx)
    have hm : x % nc < nc := Nat.mod_lt _ (by omega)
    refine ⟨pk_div (by omega) (by omega) (by omega), ?_, by omega, by omega⟩
    show nI x - nI x / nI nc * nI nc = _
    exact pk_rem (by omega) (by omega) (by omega)
  obtain ⟨a1, a2, a3, a4⟩ := er c hc
  obtain ⟨b1, b2, b3, b4⟩ := er e he
  unfold apI
  rw [a1, a2, b1, b2]
  obtain ⟨d1, g1, e1⟩ := ab_nat a3 b3
  obtain ⟨d2, g2, e2⟩ := ab_nat a4 b4
  exact ⟨d1 + d2, by omega, by rw [e1, e2, nI_add]⟩
theorem oth_lt : ∀ gp, gp < 256 → ∀ k, k < 8 → gbt (nI gp) k = true → oth gp k < gp := by decide +kernel
theorem gbt_ex : ∀ o, o < 256 → ¬ o = 0 → ∃ j, j < 8 ∧ gbt (nI o) j = true ∧ 2 ^ j ≤ o := by decide +kernel
theorem gbt_al : ∀ u, u < 9 → ∀ j, j < u → gbt (nI (2 ^ u - 1)) j = true := by decide +kernel
theorem gbt_0 : ∀ j, j < 8 → gbt (nI 0) j = false := by decide +kernel
theorem soA_s (nc : Nat) (Sp Be : Nat → Int32) (gp : Nat) (x : Int32) (n : Nat) : soA nc Sp Be gp x (n + 1) = if gbt (nI gp) n then (if Be (gp * 8 + n) + apI nc (Sp n) x < soA nc Sp Be gp x n then Be (gp * 8 + n) + apI nc (Sp n) x else soA nc Sp Be gp x n) else soA nc Sp Be gp x n := by
  unfold soA
  exact it_s _ _ _
theorem rbM_s (nc : Nat) (go to : Nat → Int32) (x : Int32) (rs k n : Nat) : rbM nc go to x rs k (n + 1) = if rbM nc go to x rs k n ≤ rvM nc go to rs k n then rbM nc go to x rs k n else rvM nc go to rs k n := by
  unfold rbM
  exact it_s _ _ _
theorem roL_s (nc : Nat) (go to : Nat → Int32) (x : Int32) (al n : Nat) : roL nc go to x al (n + 1) = if roL nc go to x al n ≤ to (8 * al + n) + apM nc (go n) x then roL nc go to x al n else to (8 * al + n) + apM nc (go n) x := by
  unfold roL
  exact it_s _ _ _
theorem nle5 {w : Nat} (h : w < 100000) : ¬ (100000 : Int32) ≤ nI w := nI_ge (a := w) (b := 100000) h (by decide)
theorem lt6 {w : Nat} (h : w < 1000000) : nI w < (1000000 : Int32) := nI_lt (b := 1000000) h (by decide)
/-- the least over the members of a set, on both sides -/
theorem so_same {nr nc u o : Nat} (h1 : 2 ≤ nr ∧ nr ≤ 8) (h2 : 2 ≤ nc ∧ nc ≤ 8) {Sp Go Be To : Nat → Int32} {xc : Nat} (hx : xc < nr * nc) (hsp : ∀ j, j < u → ∃ c : Nat, c < nr * nc ∧ Sp j = nI c ∧ Go j = nI c) {M : Nat} (hM : M ≤ 10000) (hV : ∀ j, j < u → gbt (nI o) j = true → ∃ v : Nat, v ≤ M ∧ Be (o * 8 + j) = nI v ∧ To (8 * o + j) = nI v) {R : Nat → Int32} (hR0 : R 0 = 100000) (hR : ∀ j, j < u → R (j + 1) = if R j ≤ (if gbt (nI o) j then To (8 * o + j) + apM nc (Go j) (nI xc) else 100000) then R j else (if gbt (nI o) j then To (8 * o + j) + apM nc (Go j) (nI xc) else 100000)) : ∀ m, m ≤ u → (soA nc Sp Be o (nI xc) m = 1000000 ∧ R m = 100000 ∧ ∀ j, j < m → gbt (nI o) j = false) ∨ (∃ w : Nat, w ≤ M + 14 ∧ soA nc Sp Be o (nI xc) m = nI w ∧ R m = nI w) := by
  intro m hm
  induction m with
  | zero => exact Or.inl ⟨rfl, hR0, fun j hj => absurd hj (by omega)⟩
  | succ m ih =>
    have ih := ih (by omega)
    rw [soA_s, hR m (by omega)]
    cases hg : gbt (nI o) m with
    | false =>
      simp only [Bool.false_eq_true, if_false]
      rcases ih with ⟨e1, e2, e3⟩ | ⟨w, hw, e1, e2⟩
      · left
        rw [e1, e2, if_pos (show (100000 : Int32) ≤ 100000 by decide)]
        refine ⟨rfl, rfl, fun j hj => ?_⟩
        by_cases e : j = m
        · subst e; exact hg
        · exact e3 j (by omega)
      · right
        refine ⟨w, hw, e1, ?_⟩
        rw [e2, if_pos (show nI w ≤ 100000 from nI_le (b := 100000) (by omega) (by decide))]
    | true =>
      simp only [if_true]
      obtain ⟨v, hv, ev, ev'⟩ := hV m (by omega) hg
      obtain ⟨c, hc, ec, ec'⟩ := hsp m (by omega)
      obtain ⟨d, hd, ed⟩ := ap_nat h1 h2 hc hx
      rw [ap_same, ev, ev', ec, ec', ed, nI_add]
      right
      rcases ih with ⟨e1, e2, e3⟩ | ⟨w, hw, e1, e2⟩
      · refine ⟨v + d, by omega, ?_, ?_⟩
        · rw [e1, if_pos (lt6 (by omega))]
        · rw [e2, if_neg (nle5 (by omega))]
      · rw [e1, e2]
        by_cases z : v + d < w
        · refine ⟨v + d, by omega, ?_, ?_⟩
          · rw [if_pos (nI_lt z (by omega))]
          · rw [if_neg (nI_ge z (by omega))]
        · refine ⟨w, by omega, ?_, ?_⟩
          · rw [if_neg (nI_nlt (by omega) (by omega))]
          · rw [if_pos (nI_le (by omega) (by omega))]
theorem rb_zero {nc u : Nat} {Go To : Nat → Int32} {x : Int32} {k d : Nat} (hd : d ≤ 100000) (h0 : rb0 nc Go x 0 k = nI d) (hu : u ≤ 8) : ∀ m, m ≤ u → rbM nc Go To x 0 k m = nI d := by
  intro m hm
  induction m with
  | zero => exact h0
  | succ m ih =>
    rw [rbM_s, ih (by omega), rvM, gbt_0 m (by omega), if_neg (show ¬ false = true by decide), if_pos (show nI d ≤ 100000 from nI_le (b := 100000) hd (by decide))]
/-- one entry of the table -/
theorem st_same {nr nc u st k : Nat} (h1 : 2 ≤ nr ∧ nr ≤ 8) (h2 : 2 ≤ nc ∧ nc ≤ 8) (hu : u ≤ 8) {Sp Go Be To : Nat → Int32} {xc : Nat} (hx : xc < nr * nc) (hsp : ∀ j, j < u → ∃ c : Nat, c < nr * nc ∧ Sp j = nI c ∧ Go j = nI c) (hst : st < 2 ^ u) (hk : k < u) (hg : gbt (nI st) k = true) (hV : ∀ o, o < st → ∀ j, j < u → gbt (nI o) j = true → ∃ v : Nat, v ≤ 14 * o ∧ Be (o * 8 + j) = nI v ∧ To (8 * o + j) = nI v) : ∃ v : Nat, v ≤ 14 * st ∧ stA nc Sp Be (nI xc) u st k = nI v ∧ rbM nc Go To (nI xc) (oth st k) k u = nI v := by
  have hp := p2_le hu
  have ho := oth_lt st (by omega) k (by omega) hg
  obtain ⟨c, hc, ec, ec'⟩ := hsp k hk
  unfold stA
  by_cases z : oth st k = 0
  · obtain ⟨d, hd, ed⟩ := ap_nat h1 h2 hx hc
    rw [if_pos z, z, ec, ed]
    refine ⟨d, by omega, rfl, rb_zero (d := d) (by omega) ?_ hu u (Nat.le_refl _)⟩
    rw [rb0, if_pos rfl, ap_same, ec', ed]
  · rw [if_neg z, ec]
    obtain ⟨j, hj, hgj, hpj⟩ := gbt_ex (oth st k) (by omega) z
    have hju : j < u := by
      rcases Nat.lt_or_ge j u with y | y
      · exact y
      · have := Nat.pow_le_pow_right (n := 2) (by decide) y
        omega
    rcases so_same (Be := Be) (To := To) (o := oth st k) h1 h2 hc hsp (M := 14 * oth st k) (by omega) (fun j hj hgj => hV (oth st k) ho j hj hgj) (R := rbM nc Go To (nI xc) (oth st k) k) (by show rb0 nc Go (nI xc) (oth st k) k = 100000; rw [rb0, if_neg z]) (fun j _ => by rw [rbM_s, rvM, ec']) u (Nat.le_refl _) with ⟨_, _, e3⟩ | ⟨w, hw, e1, e2⟩
    · rw [e3 j hju] at hgj
      exact absurd hgj (by decide)
    · exact ⟨w, by omega, e1, e2⟩
