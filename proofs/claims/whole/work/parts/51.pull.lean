/-! pulling down; a fire -/
theorem rc_div {nc r k : Nat} (hk : k < nc) : (r * nc + k) / nc = r ∧ (r * nc + k) % nc = k := by
  constructor
  · rw [Nat.mul_comm, Nat.mul_add_div (by omega), Nat.div_eq_of_lt hk, Nat.add_zero]
  · rw [Nat.mul_comm, Nat.mul_add_mod, Nat.mod_eq_of_lt hk]
/-- from everywhere there is a walk where all is open -/
theorem wlk_all {nr nc br bk : Nat} {op : Nat → Bool} {c : Nat → Nat} (h1 : 2 ≤ nr ∧ nr ≤ 8) (h2 : 2 ≤ nc ∧ nc ≤ 8) (hbr : br < nr) (hbk : bk < nc) (ho : ∀ y, y < nr * nc → op y = true) (hc : ∀ y, y < nr * nc → c y ≤ 2) : ∀ (m r k : Nat), r < nr → k < nc → (r - br) + (br - r) + ((k - bk) + (bk - k)) ≤ m → ∃ n v, v ≤ 2 * m ∧ wlk nr nc op c (br * nc + bk) n (r * nc + k) v
  | 0, r, k, hr, hk, hm => ⟨0, 0, Nat.zero_le _, by rw [show r = br by omega, show k = bk by omega], rfl⟩
  | m + 1, r, k, hr, hk, hm => by
    have hx := rc_val (nr := nr) hk hr
    have hmod := (rc_div (r := r) hk).2
    have step : ∀ r' k', r' < nr → k' < nc → nbr nr nc (r * nc + k) (r' * nc + k') → (r' - br) + (br - r') + ((k' - bk) + (bk - k')) ≤ m → ∃ n v, v ≤ 2 * (m + 1) ∧ wlk nr nc op c (br * nc + bk) n (r * nc + k) v := fun r' k' hr' hk' hn hm' => by
      obtain ⟨n, v, hv, hw⟩ := wlk_all h1 h2 hbr hbk ho hc m r' k' hr' hk' hm'
      have hy := rc_val (nr := nr) hk' hr'
      have := hc _ hy
      exact ⟨n + 1, c (r' * nc + k') + v, by omega, _, hy, hn, ho _ hy, v, hw, rfl⟩
    by_cases e1 : r < br
    · refine step (r + 1) k (by omega) hk ((nbr_iff h1 h2 hx (rc_val hk (by omega))).mpr ?_) (by omega)
      rw [Nat.add_mul, Nat.one_mul]
      omega
    · by_cases e2 : br < r
      · refine step (r - 1) k (by omega) hk ((nbr_iff h1 h2 hx (rc_val hk (by omega))).mpr ?_) (by omega)
        have : nc ≤ r * nc := Nat.le_mul_of_pos_left _ (by omega)
        rw [Nat.sub_mul, Nat.one_mul]
        omega
      · by_cases e3 : k < bk
        · refine step r (k + 1) hr (by omega) ((nbr_iff h1 h2 hx (rc_val (by omega) hr)).mpr ?_) (by omega)
          rw [hmod]
          omega
        · by_cases e4 : bk < k
          · refine step r (k - 1) hr (by omega) ((nbr_iff h1 h2 hx (rc_val (by omega) hr)).mpr ?_) (by omega)
            rw [hmod]
            omega
          · exact ⟨0, 0, Nat.zero_le _, by rw [show r = br by omega, show k = bk by omega], rfl⟩
theorem fnX_all {nr nc a b : Nat} {cs : Nat → Int32} (h1 : 2 ≤ nr ∧ nr ≤ 8) (h2 : 2 ≤ nc ∧ nc ≤ 8) (ha : a < nr * nc) (hb : b < nr * nc) (hcs : ∀ y, y < nr * nc → ∃ p, p ≤ 2 ∧ cs y = nI p) : (fnX nr nc cs b a).toInt < 100000 := by
  have hcl := cells_le h1 h2
  have hnn : nnT cs (nr * nc) := fun y hy => by
    obtain ⟨p, hp, e⟩ := hcs y hy
    rw [e, nI_toInt (by omega)]; omega
  have hr : ∀ x, x < nr * nc → x / nc < nr ∧ x % nc < nc ∧ x / nc * nc + x % nc = x := fun x hx =>
    ⟨Nat.div_lt_of_lt_mul (by rw [Nat.mul_comm]; exact hx), Nat.mod_lt _ (by omega), by rw [Nat.mul_comm]; exact Nat.div_add_mod x nc⟩
  obtain ⟨a1, a2, a3⟩ := hr a ha
  obtain ⟨b1, b2, b3⟩ := hr b hb
  obtain ⟨n, v, hv, hw⟩ := wlk_all (op := opM cs) (c := coM cs) h1 h2 b1 b2 (fun y hy => by
      obtain ⟨p, hp, e⟩ := hcs y hy
      rw [opM, e, nI_toInt (by omega)]; simp; omega) (fun y hy => by
      obtain ⟨p, hp, e⟩ := hcs y hy
      rw [coM, e, nI_toInt (by omega)]; omega) 20 (a / nc) (a % nc) a1 a2 (by generalize a / nc = a' at *; generalize a % nc = a'' at *; generalize b / nc = b' at *; generalize b % nc = b'' at *; omega)
  rw [a3, b3] at hw
  have := fnX_le h1 h2 hnn hb n a v ha hw (by omega)
  omega
theorem pull_same {nr nc a b : Nat} (h1 : 2 ≤ nr ∧ nr ≤ 8) (h2 : 2 ≤ nc ∧ nc ≤ 8) (w : Int64) (ha : a < nr * nc) (hb : b < nr * nc) : plR (w ^^^ (-1)) ((w ^^^ (-1)) ^^^ (-1)) nr nc (nI a) (nI b) = fnX nr nc (bi1 w) b a + bi1 w a := by
  have hcl := cells_le h1 h2
  have hP : ∀ y, y < nr * nc → prF (w ^^^ (-1)) 0 ((w ^^^ (-1)) ^^^ (-1)) 1 y = if gb w y then 1 else 0 := fun y hy => by
    rw [prF, hs_b _ (by omega), hs_b _ (by omega), gb_not w (by omega), gb_not (w ^^^ (-1)) (by omega), gb_not w (by omega)]
    cases gb w y <;> rfl
  have hC : ∀ y, y < nr * nc → bi1 w y = if gb w y then 1 else 0 := fun y hy => bi1_b w (by omega)
  have hsa : saP nr nc (prF (w ^^^ (-1)) 0 ((w ^^^ (-1)) ^^^ (-1)) 1) (bi1 w) := fun y hy => by
    rw [hP y hy, hC y hy]
    right
    cases gb w y with
    | true => exact ⟨1, by decide, rfl, rfl⟩
    | false => exact ⟨0, by decide, rfl, rfl⟩
  have hno : ∀ y, y < nr * nc → ¬ prF (w ^^^ (-1)) 0 ((w ^^^ (-1)) ^^^ (-1)) 1 y = 1000000 := fun y hy => by
    rw [hP y hy]
    cases gb w y <;> decide
  have hfin := fnX_all (cs := bi1 w) h1 h2 ha hb (fun y hy => by
    rw [hC y hy]
    cases gb w y with
    | true => exact ⟨1, by decide, rfl⟩
    | false => exact ⟨0, by decide, rfl⟩)
  rw [plR, atF_nI (by omega), atF_nI (by omega)]
  rcases search_same h1 h2 hsa hb (hno b hb) ha (hno a ha) with ⟨_, q2⟩ | ⟨v, hv, q1, q2⟩
  · rw [q2, i32_1e5] at hfin
    omega
  · rw [q1, q2, hP a ha, hC a ha]
    cases gb w a with
    | true =>
      show orN (nI v + nI 1) = nI v + nI 1
      rw [nI_add, orN_nI (by omega)]
    | false =>
      show orN (nI v + nI 0) = nI v + nI 0
      rw [nI_add, orN_nI (by omega)]
/-- a shortest way found so far, on both sides -/
def fiQ (s t : Int32 × Int32) : Prop := s.2 = t.1 ∧ ((s.1 = 1000000 ∧ t.2 = -4 ∧ s.2 = -4) ∨ ∃ v, v ≤ 8192 ∧ s.1 = nI v ∧ t.2 = nI v)
theorem fi_step {s t : Int32 × Int32} (h : fiQ s t) {x v : Int32} (k : Nat) (hx : (x = 1000000 ∧ v = -4) ∨ ∃ u, u ≤ 8192 ∧ x = nI u ∧ v = nI u) : fiQ (if s.1 ≤ x then s else (x, nI k)) (fiS v k t) := by
  obtain ⟨s1, s2⟩ := s
  obtain ⟨t1, t2⟩ := t
  obtain ⟨e, h⟩ := h
  simp only at e h ⊢
  subst e
  unfold fiS
  simp only
  rcases hx with ⟨rfl, rfl⟩ | ⟨u, hu, rfl, rfl⟩
  · rw [if_pos rfl, if_pos]
    · exact ⟨rfl, h⟩
    · rcases h with ⟨rfl, _⟩ | ⟨w, hw, rfl, _⟩
      · decide
      · exact nI_le (b := 1000000) (by omega) (by decide)
  · rw [if_neg (nI_ne4 (by omega))]
    rcases h with ⟨rfl, rfl, rfl⟩ | ⟨w, hw, rfl, rfl⟩
    · rw [if_pos rfl, if_neg]
      · exact ⟨rfl, Or.inr ⟨u, hu, rfl, rfl⟩⟩
      · intro z
        have := (nI_leI (a := 1000000) (b := u) (by decide) (by omega)).mp z
        omega
    · rw [if_neg (nI_ne4 (by omega))]
      by_cases z : nI w ≤ nI u
      · rw [if_pos z, if_pos z]
        exact ⟨rfl, Or.inr ⟨w, hw, rfl, rfl⟩⟩
      · rw [if_neg z, if_neg z]
        exact ⟨rfl, Or.inr ⟨u, hu, rfl, rfl⟩⟩
theorem fire_same {nr nc n : Nat} {C B F K nw : Nat → Int32} {y : Int32} {a b : Nat} (h1 : 2 ≤ nr ∧ nr ≤ 8) (h2 : 2 ≤ nc ∧ nc ≤ 8) (hv : VaM nr nc C B F K n) (hs : SaM C B F K n (cel nw 0) (sta nw 0) (fal nw 0) (kin nw 0)) (hy : nw 0 = y) (hw : y.toInt < 1000) (ha : a < nr * nc) (hb : b < nr * nc) (w : Int32) : fiMR (fiM nr nc nw n a b n) w = fiR nr nc C B F K n y (nI a) (nI b) w := by
  have hcl := cells_le h1 h2
  have hall : ∀ k, k ≤ n → fiQ (fiA nr nc C B F K n y (nI a) (nI b) k) (fiM nr nc nw n a b k) := by
    unfold fiA fiM
    rw [hy, stC_same hv hs hw]
    refine it_rel (fun _ s t => fiQ s t) ?_ (fun k hk s t h => ?_)
    · refine ⟨rfl, ?_⟩
      rcases sp_same h1 h2 (frC C B F y n) ha hb with ⟨q1, q2⟩ | ⟨v, hv, q1, q2⟩
      · exact Or.inl ⟨q1, q2, rfl⟩
      · exact Or.inr ⟨v, hv, q1, q2⟩
    · unfold fvM
      rw [hy, stC_same hv hs hw, cbB_same hv hs hw hk]
      cases hc : cbB B F K y k with
      | false =>
        rw [if_neg (by decide), if_neg (by decide)]
        unfold fiS
        rw [if_pos rfl]
        exact h
      | true =>
        rw [if_pos rfl, if_pos rfl]
        have e : (stC C B F y n &&& (bt (nw (2 + k)) ^^^ (-1))) ^^^ (-1) = frC C B F y n ||| bt (C k) := by
          have ec : nw (2 + k) = C k := by
            have := (hs k hk).1
            rwa [cel, Nat.zero_add] at this
          rw [ec]
          refine gb_ext (fun i hi => ?_)
          rw [frC, gb_not _ hi, gb_and, gb_not _ hi, gb_or, gb_not _ hi]
          cases gb (stC C B F y n) i <;> cases gb (bt (C k)) i <;> rfl
        rw [e]
        exact fi_step h k (sp_same h1 h2 _ ha hb)
  obtain ⟨e, h⟩ := hall n (Nat.le_refl _)
  unfold fiMR fiR
  rw [e]
  by_cases z : (fiM nr nc nw n a b n).1 = -4
  · rw [if_pos z, if_pos z, ite_self]
  · rw [if_neg z, if_neg z]
    rcases h with ⟨_, _, q⟩ | ⟨v, _, q1, q2⟩
    · rw [e] at q; exact absurd q z
    · rw [q1, q2]
