/-! both searches agree -/
theorem i32_ext {a : Int32} {n : Nat} (hn : n < 2 ^ 31) (h : a.toInt = n) : a = nI n := Int32.toInt_inj.mp (by rw [h, nI_toInt hn])
/-- the same prices on both sides -/
def saP (nr nc : Nat) (Pr cs : Nat → Int32) : Prop := ∀ y, y < nr * nc → (Pr y = 1000000 ∧ cs y = 100000) ∨ ∃ p, p ≤ 2 ∧ Pr y = nI p ∧ cs y = nI p
theorem saP_ok {nr nc : Nat} {Pr cs : Nat → Int32} (h : saP nr nc Pr cs) : okP nr nc Pr := fun x hx => by
  rcases h x hx with ⟨q, _⟩ | ⟨p, hp, q, _⟩
  · exact Or.inl q
  · exact Or.inr ⟨p, hp, q⟩
theorem saP_nn {nr nc : Nat} {Pr cs : Nat → Int32} (h : saP nr nc Pr cs) : nnT cs (nr * nc) := fun x hx => by
  rcases h x hx with ⟨_, q⟩ | ⟨p, hp, _, q⟩
  · rw [q, i32_1e5]; omega
  · rw [q, nI_toInt (by omega)]; omega
theorem nI_n6 {p : Nat} (h : p ≤ 8192) : ¬ nI p = 1000000 := fun z => by
  have := (nI_eq (a := p) (b := 1000000) (by omega) (by decide)).mp z
  omega
theorem saP_op {nr nc : Nat} {Pr cs : Nat → Int32} (h : saP nr nc Pr cs) {y : Nat} (hy : y < nr * nc) : opP nr nc Pr y = opM cs y := by
  unfold opP opM
  rcases h y hy with ⟨q, r⟩ | ⟨p, hp, q, r⟩
  · rw [q, r, i32_1e5]; simp
  · have e1 : ¬ nI p = 1000000 := nI_n6 (by omega)
    rw [q, r, nI_toInt (by omega)]
    simp [e1, hy]
    omega
theorem saP_co {nr nc : Nat} {Pr cs : Nat → Int32} (h : saP nr nc Pr cs) {y : Nat} (hy : y < nr * nc) (ho : opP nr nc Pr y = true) : coP Pr y = coM cs y := by
  rcases h y hy with ⟨q, _⟩ | ⟨p, hp, q, r⟩
  · simp [opP, q] at ho
  · rw [coP, coM, q, r, ixx (by omega), nI_toInt (by omega)]
    rfl
/-- a cell that is not closed has the same rest on both sides -/
theorem search_same {nr nc b : Nat} {Pr cs : Nat → Int32} (h1 : 2 ≤ nr ∧ nr ≤ 8) (h2 : 2 ≤ nc ∧ nc ≤ 8) (h : saP nr nc Pr cs) (hb : b < nr * nc) (hc : ¬ Pr b = 1000000) {z : Nat} (hz : z < nr * nc) (hzo : ¬ Pr z = 1000000) : (rst Pr nr nc (nI b) z = 1000000 ∧ fnX nr nc cs b z = 100000) ∨ ∃ v, v ≤ 8192 ∧ rst Pr nr nc (nI b) z = nI v ∧ fnX nr nc cs b z = nI v := by
  have hcl := cells_le h1 h2
  obtain ⟨R, e1, e2, e3, e4⟩ := rst_end h1 h2 (saP_ok h) hb hc
  have hnn := saP_nn h
  obtain ⟨v1, v2⟩ := fnX_V h1 h2 hnn hb
  have hle := fnX_le h1 h2 hnn hb
  have hw := wa_wlk (b := b) (op := opP nr nc Pr) (op' := opM cs) (c := coP Pr) (c' := coM cs) h1 h2 (fun y hy => saP_op h hy) (fun y hy ho => saP_co h hy ho)
  have hzop : opP nr nc Pr z = true := by simp [opP, hz, hzo]
  have hT := v1 z hz
  rcases Nat.lt_or_ge (R z) 1000000 with q | q
  · right
    obtain ⟨_, ⟨n, hn⟩, hb2⟩ := e2 z hz q
    have l1 := hle n z (R z) hz ((hw n z (R z) hz).mp hn) (by omega)
    obtain ⟨m, hm⟩ := v2 z hz (by omega)
    have l2 := e3 z hz hzop m _ ((hw m z _ hz).mpr hm)
    refine ⟨R z, hb2, e1 z (by omega), i32_ext (by omega) (by omega)⟩
  · left
    have hR : R z = 1000000 := by have := e4 z; omega
    refine ⟨by rw [e1 z (by omega), hR]; rfl, ?_⟩
    have : ¬ (fnX nr nc cs b z).toInt < 100000 := fun y => by
      obtain ⟨m, hm⟩ := v2 z hz y
      have l2 := e3 z hz hzop m _ ((hw m z _ hz).mpr hm)
      omega
    exact Int32.toInt_inj.mp (by rw [i32_1e5]; omega)
/-- a closed cell is not reached -/
theorem rst_far {nr nc b : Nat} {Pr : Nat → Int32} (h1 : 2 ≤ nr ∧ nr ≤ 8) (h2 : 2 ≤ nc ∧ nc ≤ 8) (h : okP nr nc Pr) (hb : b < nr * nc) {z : Nat} (hz : z < nr * nc) (hzo : Pr z = 1000000) : rst Pr nr nc (nI b) z = 1000000 := by
  have hcl := cells_le h1 h2
  by_cases hc : Pr b = 1000000
  · exact rst_shut (by omega) hc z (by omega)
  · obtain ⟨R, e1, e2, e3, e4⟩ := rst_end h1 h2 h hb hc
    rcases Nat.lt_or_ge (R z) 1000000 with q | q
    · have := (e2 z hz q).1
      simp [opP, hzo] at this
    · have hR : R z = 1000000 := by have := e4 z; omega
      rw [e1 z (by omega), hR]; rfl
/-- the fewest steps through a set -/
theorem sp_same {nr nc a b : Nat} (h1 : 2 ≤ nr ∧ nr ≤ 8) (h2 : 2 ≤ nc ∧ nc ≤ 8) (w : Int64) (ha : a < nr * nc) (hb : b < nr * nc) : (spX w nr nc (nI a) (nI b) = 1000000 ∧ stX nr nc w a b = -4) ∨ ∃ v, v ≤ 8192 ∧ spX w nr nc (nI a) (nI b) = nI v ∧ stX nr nc w a b = nI v := by
  have hcl := cells_le h1 h2
  have hP : ∀ y, y < nr * nc → prF w 1 0 0 y = if gb w y then 1 else 1000000 := fun y hy => by
    rw [prF, hs_b _ (by omega), hs_b _ (by omega), gb_0, if_neg (by decide : ¬ (false = true))]
  have hC : ∀ y, y < nr * nc → cst w 1 100000 y = if gb w y then 1 else 100000 := fun y hy => by
    rw [cst, hsM_b _ (by omega)]
  have hsa : saP nr nc (prF w 1 0 0) (cst w 1 100000) := fun y hy => by
    rw [hP y hy, hC y hy]
    cases gb w y with
    | true => exact Or.inr ⟨1, by decide, rfl, rfl⟩
    | false => exact Or.inl ⟨rfl, rfl⟩
  have e0 : spX w nr nc (nI a) (nI b) = rst (prF w 1 0 0) nr nc (nI b) a := by rw [spX, atF_nI (by omega)]
  rw [e0, stX, hsM_b _ (by omega), hsM_b _ (by omega)]
  cases hga : gb w a with
  | false =>
    left
    exact ⟨rst_far h1 h2 (saP_ok hsa) hb ha (by rw [hP a ha, hga]; rfl), rfl⟩
  | true =>
    cases hgb : gb w b with
    | false =>
      left
      exact ⟨rst_shut (by omega) (by rw [hP b hb, hgb]; rfl) a (by omega), rfl⟩
    | true =>
      rcases search_same h1 h2 hsa hb (by rw [hP b hb, hgb]; decide) ha (by rw [hP a ha, hga]; decide) with ⟨q1, q2⟩ | ⟨v, hv, q1, q2⟩
      · left
        refine ⟨q1, ?_⟩
        rw [q2]
        rfl
      · right
        refine ⟨v, hv, q1, ?_⟩
        rw [q2, if_pos (show (true && true) = true from rfl), if_pos (show nI v < 100000 from nI_lt (a := v) (b := 100000) (by omega) (by decide))]
theorem orN_far : orN 1000000 = -4 := by decide
theorem orN_nI {v : Nat} (h : v ≤ 8200) : orN (nI v) = nI v := by
  rw [orN, if_neg]
  intro z
  have := (nI_leI (a := 1000000) (b := v) (by decide) (by omega)).mp z
  omega
theorem way_same {nr nc a b : Nat} (h1 : 2 ≤ nr ∧ nr ≤ 8) (h2 : 2 ≤ nc ∧ nc ≤ 8) (w : Int64) (ha : a < nr * nc) (hb : b < nr * nc) : orN (spX w nr nc (nI a) (nI b)) = stX nr nc w a b := by
  rcases sp_same h1 h2 w ha hb with ⟨q1, q2⟩ | ⟨v, hv, q1, q2⟩
  · rw [q1, q2, orN_far]
  · rw [q1, q2, orN_nI (by omega)]
