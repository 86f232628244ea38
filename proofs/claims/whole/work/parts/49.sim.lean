/-! the queue of the class is the search's -/
/-- the cell beside, by its number; who is outside is far off -/
def nbN (nr nc x d : Nat) : Nat := if x < nr * nc then (if bsM nr nc (nI x) (nI d) = -4 then nr * nc + x + 1 else ix (bsM nr nc (nI x) (nI d))) else nr * nc + x + 1
theorem nbN_at {nr nc x d : Nat} (h1 : 2 ≤ nr ∧ nr ≤ 8) (h2 : 2 ≤ nc ∧ nc ≤ 8) (hx : x < nr * nc) (hd : d < 4) : (bsd nr nc (nI x) (nI d) = -1 ∧ bsM nr nc (nI x) (nI d) = -4 ∧ nbN nr nc x d = nr * nc + x + 1) ∨ (∃ j, j < nr * nc ∧ bsd nr nc (nI x) (nI d) = nI j ∧ bsM nr nc (nI x) (nI d) = nI j ∧ nbN nr nc x d = j ∧ ¬ j = x) := by
  have hcl := cells_le h1 h2
  have hsm := bs_same h1 h2 (nI x) hd
  by_cases e : bsd nr nc (nI x) (nI d) = -1
  · rw [if_pos e] at hsm
    exact Or.inl ⟨e, hsm, by rw [nbN, if_pos hx, if_pos hsm]⟩
  · rw [if_neg e] at hsm
    have hin : inB (nI d) 4 = true := by rw [inB_nI (by omega)]; simp [hd]
    have e0 : bsd nr nc (nI x) (nI d) = shf nr nc (nI x) (dnBy d) (rtBy d) := by rw [bsd, hin, if_pos rfl, ixx (by omega)]
    rcases shf_val h1 h2 (nI x) (dnBy d) (rtBy d) with ⟨q, _⟩ | ⟨j, hj, q, _, _⟩
    · rw [e0] at e; exact absurd q e
    · rw [← e0] at q
      have hm : bsM nr nc (nI x) (nI d) = nI j := by rw [hsm, q]
      right
      refine ⟨j, hj, q, hm, ?_, fun z => ?_⟩
      · rw [nbN, if_pos hx, if_neg (by rw [hm]; exact nI_ne4 (by omega)), hm, ixx (by omega)]
      · have := (nbr_iff h1 h2 hx hj).mp ⟨d, hd, hm⟩
        omega
theorem nbN_self {nr nc : Nat} (h1 : 2 ≤ nr ∧ nr ≤ 8) (h2 : 2 ≤ nc ∧ nc ≤ 8) : ∀ x d, d < 4 → ¬ nbN nr nc x d = x := by
  intro x d hd
  by_cases hx : x < nr * nc
  · rcases nbN_at h1 h2 hx hd with ⟨_, _, e⟩ | ⟨j, _, _, _, e, hne⟩
    · rw [e]; omega
    · rw [e]; exact hne
  · rw [nbN, if_neg hx]; omega
theorem nbN_nbr {nr nc x y : Nat} (h1 : 2 ≤ nr ∧ nr ≤ 8) (h2 : 2 ≤ nc ∧ nc ≤ 8) (hx : x < nr * nc) (hy : y < nr * nc) : (∃ d, d < 4 ∧ nbN nr nc y d = x) ↔ nbr nr nc x y := by
  have hcl := cells_le h1 h2
  constructor
  · rintro ⟨d, hd, e⟩
    refine nbr_sym h1 h2 hy hx ?_
    rcases nbN_at h1 h2 hy hd with ⟨_, _, q⟩ | ⟨j, _, _, em, q, _⟩
    · omega
    · exact ⟨d, hd, by rw [em, ← q, e]⟩
  · intro h
    obtain ⟨d, hd, e⟩ := nbr_sym h1 h2 hx hy h
    refine ⟨d, hd, ?_⟩
    rcases nbN_at h1 h2 hy hd with ⟨_, em, _⟩ | ⟨j, hj, _, em, q, _⟩
    · rw [e] at em; exact absurd em (nI_ne4 (by omega))
    · rw [e] at em
      rw [q]
      exact ((nI_eq (by omega) (by omega)).mp em).symm
theorem wa_wlk {nr nc b : Nat} {op op' : Nat → Bool} {c c' : Nat → Nat} (h1 : 2 ≤ nr ∧ nr ≤ 8) (h2 : 2 ≤ nc ∧ nc ≤ 8) (ho : ∀ y, y < nr * nc → op y = op' y) (hc : ∀ y, y < nr * nc → op y = true → c y = c' y) : ∀ (n x v : Nat), x < nr * nc → (wa (nr * nc) op c (nbN nr nc) b n x v ↔ wlk nr nc op' c' b n x v)
  | 0, x, v, _ => Iff.rfl
  | n + 1, x, v, hx => by
    constructor
    · rintro ⟨y, hy, hn, hoy, u, hu, rfl⟩
      exact ⟨y, hy, (nbN_nbr h1 h2 hx hy).mp hn, by rw [← ho y hy]; exact hoy, u, (wa_wlk h1 h2 ho hc n y u hy).mp hu, by rw [hc y hy hoy]⟩
    · rintro ⟨y, hy, hn, hoy, u, hu, rfl⟩
      have hoy' : op y = true := by rw [ho y hy]; exact hoy
      exact ⟨y, hy, (nbN_nbr h1 h2 hx hy).mpr hn, hoy', u, (wa_wlk h1 h2 ho hc n y u hy).mpr hu, by rw [hc y hy hoy']⟩
def opP (nr nc : Nat) (Pr : Nat → Int32) (x : Nat) : Bool := decide (x < nr * nc) && !decide (Pr x = 1000000)
def coP (Pr : Nat → Int32) (x : Nat) : Nat := ix (Pr x)
/-- prices of the class: closed, or at most 2 -/
def okP (nr nc : Nat) (Pr : Nat → Int32) : Prop := ∀ x, x < nr * nc → Pr x = 1000000 ∨ ∃ p, p ≤ 2 ∧ Pr x = nI p
theorem coP_at {nr nc : Nat} {Pr : Nat → Int32} (h : okP nr nc Pr) {x : Nat} (ho : opP nr nc Pr x = true) : Pr x = nI (coP Pr x) ∧ coP Pr x ≤ 2 := by
  simp only [opP, Bool.and_eq_true, decide_eq_true_eq, Bool.not_eq_true', decide_eq_false_iff_not] at ho
  rcases h x ho.1 with q | ⟨p, hp, q⟩
  · exact absurd q ho.2
  · have e : coP Pr x = p := by rw [coP, q, ixx (by omega)]
    rw [e]
    exact ⟨q, hp⟩
def Sm (N : Nat) (op : Nat → Bool) (σ : Pst) (s : Ab) : Prop :=
  (∀ i, i < 64 → σ.1 i = nI (s.1 i)) ∧ (∀ i, s.1 i ≤ 1000000) ∧ σ.2.2.2.1 < 64 ∧ σ.2.2.2.2 = s.2.length ∧ (∀ j z, s.2[j]? = some z → σ.2.1 ((σ.2.2.2.1 + j) % 64) = nI z) ∧ (∀ i, i < 64 → (gb σ.2.2.1 i = true ↔ i ∈ s.2)) ∧ s.2.Nodup ∧ (∀ z, z ∈ s.2 → z < N ∧ op z = true)
theorem atF_nI {X : Nat → Int32} {z : Nat} (hz : z < 64) : atF X (nI z) = X z := by
  rw [atF, inB_nI (by omega), if_pos (by simp [hz]), ixx (by omega)]
theorem atF_m1 {X : Nat → Int32} : atF X (-1) = 1000000 := by
  rw [atF, inB_neg (by decide), if_neg (by decide)]
theorem rch_Sm {nr nc : Nat} {Pr : Nat → Int32} (h1 : 2 ≤ nr ∧ nr ≤ 8) (h2 : 2 ≤ nc ∧ nc ≤ 8) {z v : Nat} (hz : z < nr * nc) (hv : v < 2000000) {σ : Pst} {s : Ab} (h : Sm (nr * nc) (opP nr nc Pr) σ s) : Sm (nr * nc) (opP nr nc Pr) (rch Pr (nI z) (nI v) σ) (aR (nr * nc) (opP nr nc Pr) z v s) := by
  have hcl := cells_le h1 h2
  obtain ⟨Rs, Qu, qd, hd, wt⟩ := σ
  obtain ⟨R, q⟩ := s
  obtain ⟨g1, g2, g3, g4, g5, g6, g7, g8⟩ := h
  simp only at g1 g2 g3 g4 g5 g6 g7 g8
  have hR := g2 z
  unfold rch aR
  rw [atF_nI (by omega)]
  simp only
  rw [atF_nI (by omega), g1 z (by omega), hs_b _ (by omega)]
  by_cases c1 : Pr z = 1000000
  · rw [if_pos c1, if_neg (by simp [opP, c1])]
    exact ⟨g1, g2, g3, g4, g5, g6, g7, g8⟩
  · have ho : opP nr nc Pr z = true := by simp [opP, c1, hz]
    rw [if_neg c1]
    by_cases c2 : v < R z
    · have hcn : ((decide (z < nr * nc) && opP nr nc Pr z) && decide (v < R z)) = true := by simp [hz, ho, c2]
      rw [if_pos (nI_lt c2 (by omega)), if_pos hcn]
      have u1 : ∀ i, i < 64 → upd Rs (ix (nI z)) (nI v) i = nI (nup R z v i) := fun i hi => by
        rw [ixx (by omega)]
        by_cases e : i = z
        · subst e; rw [pk_us, nup_s]
        · rw [pk_un e, nup_n _ e, g1 i hi]
      have u2 : ∀ i, nup R z v i ≤ 1000000 := fun i => by
        by_cases e : i = z
        · subst e; rw [nup_s]; omega
        · rw [nup_n _ e]; exact g2 i
      by_cases c3 : z ∈ q
      · rw [if_pos ((g6 z (by omega)).mpr c3), if_pos c3]
        exact ⟨u1, u2, g3, g4, g5, g6, g7, g8⟩
      · have hlen : (z :: q).length ≤ nr * nc := nodup_len _ _ (List.nodup_cons.mpr ⟨c3, g7⟩) (fun i hi => by
          rcases List.mem_cons.mp hi with e | e
          · rw [e]; exact hz
          · exact (g8 i e).1)
        rw [List.length_cons] at hlen
        have hw : wt < 64 := by omega
        rw [if_neg (fun y => c3 ((g6 z (by omega)).mp y)), if_pos hw, if_neg c3]
        refine ⟨u1, u2, g3, ?_, fun j i hj => ?_, fun i hi => ?_, ?_, fun i hi => ?_⟩
        · show wt + 1 = (q ++ [z]).length
          rw [List.length_append, g4]
          rfl
        · show upd Qu ((hd + wt) % 64) (nI z) ((hd + j) % 64) = nI i
          have hj : (q ++ [z])[j]? = some i := hj
          rcases Nat.lt_or_ge j q.length with w | w
          · rw [List.getElem?_append_left w] at hj
            rw [pk_un (by omega)]
            exact g5 j i hj
          · rw [List.getElem?_append_right w] at hj
            have ej : j = wt := by
              rcases Nat.lt_or_ge (j - q.length) 1 with y | y
              · omega
              · rw [List.getElem?_eq_none (by simpa using y)] at hj; exact absurd hj (by simp)
            rw [ej, pk_us]
            rw [ej, g4, Nat.sub_self] at hj
            have : z = i := by simpa using hj
            rw [this]
        · show gb (qd ||| bt (nI z)) i = true ↔ i ∈ q ++ [z]
          rw [gb_or, gb_bt (by omega), Bool.or_eq_true, g6 i hi, List.mem_append, List.mem_singleton, decide_eq_true_eq]
          constructor
          · rintro (y | y)
            · exact Or.inl y
            · exact Or.inr y.symm
          · rintro (y | y)
            · exact Or.inl y
            · exact Or.inr y.symm
        · show (q ++ [z]).Nodup
          rw [List.nodup_append]
          refine ⟨g7, by simp, fun a ha d hd e => ?_⟩
          rw [List.mem_singleton] at hd
          subst hd
          subst e
          exact c3 ha
        · have hi : i ∈ q ++ [z] := hi
          rcases List.mem_append.mp hi with y | y
          · exact g8 i y
          · rw [List.mem_singleton] at y
            rw [y]
            exact ⟨hz, ho⟩
    · rw [if_neg (fun y => c2 ((nI_ltI (by omega) (by omega)).mp y)), if_neg (by simp [c2])]
      exact ⟨g1, g2, g3, g4, g5, g6, g7, g8⟩
theorem rch_out {Pr : Nat → Int32} (v : Int32) (σ : Pst) : rch Pr (-1) v σ = σ := by
  rw [rch, atF_m1, if_pos rfl]
theorem aR_out {N : Nat} {op : Nat → Bool} {z v : Nat} (h : N ≤ z) (s : Ab) : aR N op z v s = s := by
  rw [aR, if_neg (by simp; omega)]
theorem mtS_Sm {nr nc : Nat} {Pr : Nat → Int32} (h1 : 2 ≤ nr ∧ nr ≤ 8) (h2 : 2 ≤ nc ∧ nc ≤ 8) (hp : okP nr nc Pr) {σ : Pst} {s : Ab} (h : Sm (nr * nc) (opP nr nc Pr) σ s) (hw : 0 < σ.2.2.2.2) : Sm (nr * nc) (opP nr nc Pr) (mtS Pr nr nc σ) (aS (nr * nc) (opP nr nc Pr) (coP Pr) (nbN nr nc) s) := by
  have hcl := cells_le h1 h2
  obtain ⟨Rs, Qu, qd, hd, wt⟩ := σ
  obtain ⟨R, q⟩ := s
  cases q with
  | nil =>
    have := h.2.2.2.1
    simp only [List.length_nil] at this hw
    omega
  | cons x q =>
    obtain ⟨g1, g2, g3, g4, g5, g6, g7, g8⟩ := h
    simp only at g1 g2 g3 g4 g5 g6 g7 g8 hw
    obtain ⟨hx, ho⟩ := g8 x List.mem_cons_self
    obtain ⟨pc1, pc2⟩ := coP_at hp ho
    have e0 : Qu hd = nI x := by
      have := g5 0 x rfl
      rwa [Nat.add_zero, Nat.mod_eq_of_lt g3] at this
    have hnq := (List.nodup_cons.mp g7).1
    rw [List.length_cons] at g4
    have ht : Sm (nr * nc) (opP nr nc Pr) (tkq (Rs, Qu, qd, hd, wt)) (R, q) := by
      refine ⟨g1, g2, Nat.mod_lt _ (by decide), ?_, fun j z hj => ?_, fun i hi => ?_, (List.nodup_cons.mp g7).2, fun z hz => g8 z (List.mem_cons_of_mem _ hz)⟩
      · show wt - 1 = q.length
        omega
      · show Qu (((hd + 1) % 64 + j) % 64) = nI z
        have := g5 (j + 1) z hj
        rwa [show (hd + (j + 1)) % 64 = ((hd + 1) % 64 + j) % 64 by omega] at this
      · show gb (qd &&& (bt (Qu hd) ^^^ (-1))) i = true ↔ i ∈ q
        rw [e0, gb_and, gb_not _ hi, gb_bt (by omega), Bool.and_eq_true, g6 i hi, List.mem_cons, Bool.not_eq_true', decide_eq_false_iff_not]
        constructor
        · rintro ⟨y | y, w⟩
          · exact absurd y.symm w
          · exact y
        · intro y
          exact ⟨Or.inr y, fun w => hnq (by rw [w]; exact y)⟩
    show Sm (nr * nc) (opP nr nc Pr) (it (mtI Pr nr nc (Qu hd)) (tkq (Rs, Qu, qd, hd, wt)) 4) (it (aI (nr * nc) (opP nr nc Pr) (coP Pr) (nbN nr nc) x) (R, q) 4)
    rw [e0]
    refine it_rel (fun _ a b => Sm (nr * nc) (opP nr nc Pr) a b) ht (fun k hk a b hab => ?_) 4 (Nat.le_refl 4)
    have hb := hab.2.1 x
    have ea : atF a.1 (nI x) + atF Pr (nI x) = nI (b.1 x + coP Pr x) := by
      rw [atF_nI (by omega), atF_nI (by omega), hab.1 x (by omega), pc1, nI_add]
    show Sm (nr * nc) (opP nr nc Pr) (rch Pr (bsd nr nc (nI x) (nI k)) (atF a.1 (nI x) + atF Pr (nI x)) a) (aR (nr * nc) (opP nr nc Pr) (nbN nr nc x k) (b.1 x + coP Pr x) b)
    rw [ea]
    rcases nbN_at h1 h2 hx hk with ⟨e1, _, e2⟩ | ⟨j, hj, e1, _, e2, _⟩
    · rw [e1, e2, rch_out, aR_out (by omega)]
      exact hab
    · rw [e1, e2]
      exact rch_Sm h1 h2 hj (by omega) hab
theorem mtR_Sm {nr nc : Nat} {Pr : Nat → Int32} (h1 : 2 ≤ nr ∧ nr ≤ 8) (h2 : 2 ≤ nc ∧ nc ≤ 8) (hp : okP nr nc Pr) : ∀ (f : Nat) {σ : Pst} {s : Ab}, Sm (nr * nc) (opP nr nc Pr) σ s → Sm (nr * nc) (opP nr nc Pr) (mtR Pr nr nc f σ) (aRun (nr * nc) (opP nr nc Pr) (coP Pr) (nbN nr nc) f s)
  | 0, _, _, h => h
  | f + 1, σ, s, h => by
    rw [mtR, aRun]
    by_cases c : 0 < σ.2.2.2.2
    · rw [if_pos c]
      exact mtR_Sm h1 h2 hp f (mtS_Sm h1 h2 hp h c)
    · rw [if_neg c]
      obtain ⟨R, q⟩ := s
      cases q with
      | nil =>
        show Sm (nr * nc) (opP nr nc Pr) σ (aRun (nr * nc) (opP nr nc Pr) (coP Pr) (nbN nr nc) f (R, []))
        rw [aRun_nil]
        exact h
      | cons x q =>
        have := h.2.2.2.1
        rw [List.length_cons] at this
        omega
theorem i32_1e6 : nI 1000000 = 1000000 := rfl
/-- where the goal is closed nothing is reached -/
theorem rst_shut {nr nc b : Nat} {Pr : Nat → Int32} (hb : b < 64) (hc : Pr b = 1000000) : ∀ i, i < 64 → rst Pr nr nc (nI b) i = 1000000 := by
  intro i hi
  have e : rch Pr (nI b) 0 (fil (fun _ => 0) 64, (fun _ => 0), 0, 0, 0) = (fil (fun _ => 0) 64, (fun _ => 0), 0, 0, 0) := by
    rw [rch, atF_nI hb, if_pos hc]
  have e2 : mtR Pr nr nc 4096 (fil (fun _ => 0) 64, (fun _ => 0), 0, 0, 0) = (fil (fun _ => 0) 64, (fun _ => 0), 0, 0, 0) := by
    rw [show 4096 = 4095 + 1 from rfl, mtR, if_neg (by decide)]
  rw [rst, mtZ, e, e2]
  exact fil_in _ hi
theorem rst_end {nr nc b : Nat} {Pr : Nat → Int32} (h1 : 2 ≤ nr ∧ nr ≤ 8) (h2 : 2 ≤ nc ∧ nc ≤ 8) (hp : okP nr nc Pr) (hb : b < nr * nc) (hc : ¬ Pr b = 1000000) : ∃ R : Nat → Nat, (∀ i, i < 64 → rst Pr nr nc (nI b) i = nI (R i)) ∧ (∀ z, z < nr * nc → R z < 1000000 → opP nr nc Pr z = true ∧ (∃ n, wa (nr * nc) (opP nr nc Pr) (coP Pr) (nbN nr nc) b n z (R z)) ∧ R z ≤ 8192) ∧ (∀ z, z < nr * nc → opP nr nc Pr z = true → ∀ n v, wa (nr * nc) (opP nr nc Pr) (coP Pr) (nbN nr nc) b n z v → R z ≤ v) ∧ (∀ z, R z ≤ 1000000) := by
  have hcl := cells_le h1 h2
  have ho : opP nr nc Pr b = true := by simp [opP, hb, hc]
  obtain ⟨R, e1, e2, e3, e4⟩ := aEnd (N := nr * nc) (op := opP nr nc Pr) (c := coP Pr) (nb := nbN nr nc) (b := b) (nbN_self h1 h2) (fun x hx => (coP_at hp hx).2) hcl hb ho
  refine ⟨R, fun i hi => ?_, e2, e3, e4⟩
  have h0 : Sm (nr * nc) (opP nr nc Pr) (fil (fun _ => 0) 64, (fun _ => 0), 0, 0, 0) ((fun _ => 1000000), []) := by
    refine ⟨fun i hi => ?_, fun _ => Nat.le_refl _, by show 0 < 64; decide, rfl, fun j z hj => ?_, fun i hi => ?_, List.nodup_nil, fun z hz => absurd hz List.not_mem_nil⟩
    · show fil (fun _ => 0) 64 i = nI 1000000
      rw [fil_in _ hi]; rfl
    · exact absurd hj (by simp)
    · show gb 0 i = true ↔ i ∈ []
      rw [gb_0]; simp
  have h1' := rch_Sm h1 h2 (z := b) (v := 0) hb (by omega) h0
  have ea : aR (nr * nc) (opP nr nc Pr) b 0 ((fun _ => 1000000), []) = (nup (fun _ => 1000000) b 0, [b]) := by
    rw [aR, if_pos (by simp [hb, ho])]
    rfl
  rw [ea] at h1'
  have h2' := mtR_Sm h1 h2 hp 4096 h1'
  rw [e1] at h2'
  exact h2'.1 i hi
