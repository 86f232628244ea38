/-! things, maps, the whole text -/
theorem inn_le {v b : Nat} (hv : v < 1000) (hb : b < 1000) : inn (nI v) 0 (nI b) = decide (v ≤ b) := by
  unfold inn
  have h1 : ¬ nI v < 0 := nI_pos (by omega)
  have h2 : nI b < nI v ↔ b < v := nI_ltI (by omega) (by omega)
  by_cases q : v ≤ b
  · have : ¬ nI b < nI v := fun z => by have := h2.mp z; omega
    simp [h1, this, q]
  · have : nI b < nI v := h2.mpr (by omega)
    simp [this, q]
theorem inn_up {u v : Nat} (hu : u ≤ 99) (hv : v ≤ 99) : inn (nI v) (nI u + 1) 99 = !decide (nI v ≤ nI u) := by
  unfold inn
  have h1 : nI v < nI (u + 1) ↔ v < u + 1 := nI_ltI (by omega) (by omega)
  have h2 : nI v ≤ nI u ↔ v ≤ u := nI_leI (by omega) (by omega)
  have h3 : ¬ nI 99 < nI v := nI_nlt (by omega) (by decide)
  have h3' : ¬ (99 : Int32) < nI v := h3
  rw [nI_1]
  by_cases q : v ≤ u
  · have a := h1.mpr (by omega)
    have b := h2.mpr q
    simp [a, b]
  · have a : ¬ nI v < nI (u + 1) := fun z => by have := h1.mp z; omega
    have b : ¬ nI v ≤ nI u := fun z => q (h2.mp z)
    simp [a, b, h3']
section
variable {Sg tx : Nat → Int32} {tn : Nat}
theorem item_t (h : TxR Sg tx tn) {pl : Nat} (hpl : pl < 2 ^ 19) {δ : Dr} {s : Ms} (hd : DfR δ s) (hx : sgI Sg tn (nI pl) = 116) (hh : hre tx tn pl = 116) : ItR Sg tx tn pl δ s := by
  obtain ⟨nr, nc, C, B, F, K, n, Yr, Dn, Rt, q, nb⟩ := δ
  obtain ⟨r1, c1, dr, dm, my, md, mr, q1⟩ := s
  obtain ⟨g1, g2, rfl, rfl, rfl, rfl, g7, g8, g9, gA, gB, gC, gD⟩ := hd
  simp only at g1 g2 g7 g8 g9 gA gB gC gD
  have hcl := cells_le g1 g2
  unfold ItR
  simp only
  rw [hx, show nbh 116 = 4 by decide]
  have b1 := nuE_b (tx := tx) (tn := tn) (pl + 1)
  have b2 := nuE_b (tx := tx) (tn := tn) (nuE tx tn (pl + 1))
  have b3 := nuE_b (tx := tx) (tn := tn) (nuE tx tn (nuE tx tn (pl + 1)))
  have b4 := nuE_b (tx := tx) (tn := tn) (nuE tx tn (nuE tx tn (nuE tx tn (pl + 1))))
  obtain ⟨y1, y2⟩ := rn4 h (p := pl + 1) (by omega) nb
  have hN : imN tx tn pl = nuE tx tn (nuE tx tn (nuE tx tn (nuE tx tn (pl + 1)))) := by
    unfold imN
    rw [hh, if_neg (by decide), if_pos rfl]
  have hB : imB tx tn pl (r1, c1, dr, dm, my, md, mr, q1) = imT tx tn pl dm r1 c1 dr := by
    unfold imB
    rw [hh, if_neg (by decide), if_pos rfl]
  have eA : imA tx tn pl (r1, c1, dr, dm, my, md, mr, q1) = (r1, c1, imD tx tn pl dr dm, dm + 1, my, md, mr, q1) := by
    unfold imA
    rw [hh, if_neg (by decide), if_pos rfl]
  unfold imD at eA
  unfold imT at hB
  rw [dnM_gg, nuS_sy, nuS_sy, nuS_sy, nuS_sy] at hB
  generalize nuV tx tn (pl + 1) = w1 at *
  generalize nuE tx tn (pl + 1) = p2 at *
  generalize nuV tx tn p2 = w2 at *
  generalize nuE tx tn p2 = p3 at *
  generalize nuV tx tn p3 = w3 at *
  generalize nuE tx tn p3 = p4 at *
  generalize nuV tx tn p4 = w4 at *
  generalize nuE tx tn p4 = p5 at *
  cases hS : sy tx tn (pl + 1) 44 && (sy tx tn p2 44 && (sy tx tn p3 44 && sy tx tn p4 59)) with
  | false =>
    refine ⟨fun z => ?_, fun _ => Or.inl (y2 hS)⟩
    rw [hB] at z
    simp only [Bool.and_eq_true] at z
    rw [z.1.1.1.1.2.1, z.1.1.1.2.1, z.1.1.2.1, z.1.2.1] at hS
    exact absurd hS (by decide)
  | true =>
    obtain ⟨e1, ⟨v1, hv1, rfl⟩, ⟨v2, hv2, rfl⟩, ⟨v3, hv3, rfl⟩, ⟨v4, hv4, rfl⟩⟩ := y1 hS
    have hT : tkB 116 r1 c1 C dm q1 (upd (upd (upd (upd nb 0 (nI v1)) 1 (nI v2)) 2 (nI v3)) 3 (nI v4)) = ttB r1 c1 C dm (nI v1) (nI v2) (nI v3) (nI v4) := by
      unfold tkB
      rw [if_neg (by decide), if_neg (by decide), if_pos rfl]
      rfl
    have hdn : dnM dr (nI v1) true dm = decide (thI C dm (nI v1) = -4) := by
      have e : dnM dr (nI v1) true dm = true ↔ thI C dm (nI v1) = -4 := by
        rw [dnM_iff, thI_iff C g7]
        constructor
        · intro z k hk; rw [← (gB k hk).1]; exact z k hk
        · intro z k hk
          have := (gB k hk).1
          simp only at this
          rw [this]; exact z k hk
      by_cases q : thI C dm (nI v1) = -4
      · rw [e.mpr q]; simp [q]
      · cases q2 : dnM dr (nI v1) true dm with
        | false => simp [q]
        | true => exact absurd (e.mp q2) q
    have hE : imB tx tn pl (r1, c1, dr, dm, my, md, mr, q1) = ttB r1 c1 C dm (nI v1) (nI v2) (nI v3) (nI v4) := by
      rw [hB]
      simp only [Bool.and_eq_true] at hS
      obtain ⟨s1, s2, s3, s4⟩ := hS
      rw [s1, s2, s3, s4, hdn, inn_n (by omega), inn_up hv2 hv3, show inn (nI v2) 0 99 = true from (inn_le (b := 99) (by omega) (by decide)).trans (by simp [hv2]), show inn (nI v4) 0 3 = decide (nI v4 ≤ 3) from (inn_le (b := 3) (by omega) (by decide)).trans (decide_eq_decide.mpr (nI_leI (b := 3) (by omega) (by decide)).symm)]
      unfold ttB inG
      cases decide (dm < 10) <;> cases inB (nI v1) (r1 * c1) <;> cases decide (nI v3 ≤ nI v2) <;> cases decide (nI v4 ≤ 3) <;> cases decide (thI C dm (nI v1) = -4) <;> rfl
    rw [hE]
    refine ⟨fun z => ⟨p5, _, e1, by omega, hN.symm, by rw [hT]; exact z, ?_⟩, fun z => Or.inr (by rw [e1, hT]; exact z)⟩
    have eD : tkD 116 r1 c1 C B F K dm Yr Dn Rt q1 (upd (upd (upd (upd nb 0 (nI v1)) 1 (nI v2)) 2 (nI v3)) 3 (nI v4)) = (r1, c1, upd C dm (nI v1), upd B dm (nI v2), upd F dm (fl9 (nI v3)), upd K dm (nI v4), dm + 1, Yr, Dn, Rt, q1, upd (upd (upd (upd nb 0 (nI v1)) 1 (nI v2)) 2 (nI v3)) 3 (nI v4)) := by
      have t0 : upd (upd (upd (upd nb 0 (nI v1)) 1 (nI v2)) 2 (nI v3)) 3 (nI v4) 0 = nI v1 := rfl
      have t1 : upd (upd (upd (upd nb 0 (nI v1)) 1 (nI v2)) 2 (nI v3)) 3 (nI v4) 1 = nI v2 := rfl
      have t2 : upd (upd (upd (upd nb 0 (nI v1)) 1 (nI v2)) 2 (nI v3)) 3 (nI v4) 2 = nI v3 := rfl
      have t3 : upd (upd (upd (upd nb 0 (nI v1)) 1 (nI v2)) 2 (nI v3)) 3 (nI v4) 3 = nI v4 := rfl
      unfold tkD dNr dNc dX dN dY dQ
      rw [t0, t1, t2, t3, z]
      rfl
    unfold ttB at z
    simp only [Bool.and_eq_true, decide_eq_true_eq, Bool.not_eq_true', decide_eq_false_iff_not] at z
    obtain ⟨⟨⟨⟨z1, z2⟩, z3⟩, z4⟩, z5⟩ := z
    have hc1 : v1 < r1 * c1 := by
      rw [inG, inB_nI (by omega)] at z1
      exact of_decide_eq_true z1
    have hk4 : v4 ≤ 3 := (nI_leI (b := 3) (by omega) (by decide)).mp z3
    have hnx := (thI_iff C g7 (nI v1)).mp z5
    have hf9 : ∃ f : Nat, (f ≤ 99 ∨ f = 1000) ∧ fl9 (nI v3) = nI f := by
      unfold fl9
      by_cases e : nI v3 = 99
      · rw [if_pos e]; exact ⟨1000, Or.inr rfl, rfl⟩
      · rw [if_neg e]; exact ⟨v3, Or.inl hv3, rfl⟩
    have hfM : fM (fl9 (nI v3)) = if nI v3 = 99 then 100000 else nI v3 := by
      unfold fl9
      by_cases e : nI v3 = 99
      · rw [if_pos e, if_pos e]; rfl
      · rw [if_neg e, if_neg e, fM_id (by omega)]
    obtain ⟨m1, m2, m3, m4, m5⟩ := g9
    rw [eA, eD]
    refine ⟨g1, g2, rfl, rfl, rfl, rfl, (by show dm + 1 ≤ 10; omega), g8, ⟨fun k hk => ?_, fun k j hk hj e => ?_, fun k hk => ?_, fun k hk => ?_, fun k hk => ?_⟩, fun k hk => ?_, fun k hk => ?_, gC, gD⟩
    · show ∃ c : Nat, c < r1 * c1 ∧ upd C dm (nI v1) k = nI c
      have hk : k < dm + 1 := hk
      by_cases e : k = dm
      · subst e; rw [pk_us]; exact ⟨v1, hc1, rfl⟩
      · rw [pk_un e]; exact m1 k (by omega)
    · have hk : k < dm + 1 := hk
      have hj : j < dm + 1 := hj
      have e : upd C dm (nI v1) k = upd C dm (nI v1) j := e
      by_cases e1 : k = dm
      · by_cases e2 : j = dm
        · rw [e1, e2]
        · rw [e1, pk_us, pk_un e2] at e
          exact absurd e.symm (hnx j (by omega))
      · by_cases e2 : j = dm
        · rw [e2, pk_us, pk_un e1] at e
          exact absurd e (hnx k (by omega))
        · rw [pk_un e1, pk_un e2] at e
          exact m2 k j (by omega) (by omega) e
    · show ∃ b : Nat, b ≤ 99 ∧ upd B dm (nI v2) k = nI b
      have hk : k < dm + 1 := hk
      by_cases e : k = dm
      · subst e; rw [pk_us]; exact ⟨v2, hv2, rfl⟩
      · rw [pk_un e]; exact m3 k (by omega)
    · show ∃ f : Nat, f ≤ 1000 ∧ upd F dm (fl9 (nI v3)) k = nI f
      have hk : k < dm + 1 := hk
      by_cases e : k = dm
      · subst e; rw [pk_us]
        obtain ⟨f, hf, ef⟩ := hf9
        exact ⟨f, by omega, ef⟩
      · rw [pk_un e]; exact m4 k (by omega)
    · show ∃ f : Nat, f ≤ 3 ∧ upd K dm (nI v4) k = nI f
      have hk : k < dm + 1 := hk
      by_cases e : k = dm
      · subst e; rw [pk_us]; exact ⟨v4, hk4, rfl⟩
      · rw [pk_un e]; exact m5 k (by omega)
    · show ∃ f : Nat, (f ≤ 99 ∨ f = 1000) ∧ upd F dm (fl9 (nI v3)) k = nI f
      have hk : k < dm + 1 := hk
      by_cases e : k = dm
      · subst e; rw [pk_us]; exact hf9
      · rw [pk_un e]; exact gA k (by omega)
    · have hk : k < dm + 1 := hk
      show upd (upd (upd (upd dr dm (nI v1)) (10 + dm) (nI v2)) (20 + dm) (if nI v3 = 99 then 100000 else nI v3)) (30 + dm) (nI v4) k = upd C dm (nI v1) k ∧ upd (upd (upd (upd dr dm (nI v1)) (10 + dm) (nI v2)) (20 + dm) (if nI v3 = 99 then 100000 else nI v3)) (30 + dm) (nI v4) (10 + k) = upd B dm (nI v2) k ∧ upd (upd (upd (upd dr dm (nI v1)) (10 + dm) (nI v2)) (20 + dm) (if nI v3 = 99 then 100000 else nI v3)) (30 + dm) (nI v4) (20 + k) = fM (upd F dm (fl9 (nI v3)) k) ∧ upd (upd (upd (upd dr dm (nI v1)) (10 + dm) (nI v2)) (20 + dm) (if nI v3 = 99 then 100000 else nI v3)) (30 + dm) (nI v4) (30 + k) = upd K dm (nI v4) k
      by_cases e : k = dm
      · subst e
        rw [pk_us, pk_us, pk_us, pk_us, pk_un (by omega), pk_un (by omega), pk_un (by omega), pk_us, pk_un (by omega), pk_un (by omega), pk_us, pk_un (by omega), pk_us, pk_us, hfM]
        exact ⟨rfl, rfl, rfl, rfl⟩
      · rw [pk_un (f := C) e, pk_un (f := B) e, pk_un (f := F) e, pk_un (f := K) e, pk_un (by omega), pk_un (by omega), pk_un (by omega), pk_un (by omega), pk_un (by omega), pk_un (by omega), pk_un (by omega), pk_un (by omega), pk_un (by omega), pk_un (by omega), pk_un (by omega), pk_un (by omega), pk_un (by omega), pk_un (by omega), pk_un (by omega), pk_un (by omega)]
        exact gB k (by omega)
theorem item_m (h : TxR Sg tx tn) {pl : Nat} (hpl : pl < 2 ^ 19) {δ : Dr} {s : Ms} (hd : DfR δ s) (hx : sgI Sg tn (nI pl) = 109) (hh : hre tx tn pl = 109) : ItR Sg tx tn pl δ s := by
  obtain ⟨nr, nc, C, B, F, K, n, Yr, Dn, Rt, q, nb⟩ := δ
  obtain ⟨r1, c1, dr, dm, my, md, mr, q1⟩ := s
  obtain ⟨g1, g2, rfl, rfl, rfl, rfl, g7, g8, g9, gA, gB, gC, gD⟩ := hd
  simp only at g1 g2 g7 g8 g9 gA gB gC gD
  unfold ItR
  simp only
  rw [hx, show nbh 109 = 3 by decide]
  have b1 := nuE_b (tx := tx) (tn := tn) (pl + 1)
  have b2 := nuE_b (tx := tx) (tn := tn) (nuE tx tn (pl + 1))
  have b3 := nuE_b (tx := tx) (tn := tn) (nuE tx tn (nuE tx tn (pl + 1)))
  obtain ⟨y1, y2⟩ := rn3 h (p := pl + 1) (by omega) nb
  have hN : imN tx tn pl = nuE tx tn (nuE tx tn (nuE tx tn (pl + 1))) := by
    unfold imN
    rw [hh, if_neg (by decide), if_neg (by decide)]
  have hB : imB tx tn pl (r1, c1, dr, dm, my, md, mr, q1) = imM tx tn pl q1 := by
    unfold imB
    rw [hh, if_neg (by decide), if_neg (by decide), if_pos rfl]
  have eA : imA tx tn pl (r1, c1, dr, dm, my, md, mr, q1) = (r1, c1, dr, dm, upd my (5 * 1 + q1) (nuV tx tn (pl + 1)), upd md (5 * 1 + q1) (nuV tx tn (nuE tx tn (pl + 1))), upd mr (5 * 1 + q1) (nuV tx tn (nuE tx tn (nuE tx tn (pl + 1)))), q1 + 1) := by
    unfold imA
    rw [hh, if_neg (by decide), if_neg (by decide)]
  unfold imM at hB
  rw [nuS_sy, nuS_sy, nuS_sy] at hB
  generalize nuV tx tn (pl + 1) = w1 at *
  generalize nuE tx tn (pl + 1) = p2 at *
  generalize nuV tx tn p2 = w2 at *
  generalize nuE tx tn p2 = p3 at *
  generalize nuV tx tn p3 = w3 at *
  generalize nuE tx tn p3 = p4 at *
  cases hS : sy tx tn (pl + 1) 44 && (sy tx tn p2 44 && sy tx tn p3 59) with
  | false =>
    refine ⟨fun z => ?_, fun _ => Or.inl (y2 hS)⟩
    rw [hB] at z
    simp only [Bool.and_eq_true] at z
    rw [z.1.1.2.1, z.1.2.1, z.2.1] at hS
    exact absurd hS (by decide)
  | true =>
    obtain ⟨e1, ⟨v1, hv1, rfl⟩, ⟨v2, hv2, rfl⟩, ⟨v3, hv3, rfl⟩⟩ := y1 hS
    have hT : tkB 109 r1 c1 C dm q1 (upd (upd (upd nb 0 (nI v1)) 1 (nI v2)) 2 (nI v3)) = tmB q1 (nI v2) (nI v3) := by
      unfold tkB
      rw [if_pos rfl]
      rfl
    have h5 : ∀ v, v ≤ 99 → inn (nI v) 0 4 = !decide (5 ≤ nI v) := fun v hv => by
      rw [show inn (nI v) 0 4 = decide (v ≤ 4) from inn_le (b := 4) (by omega) (by decide)]
      have := nI_leI (a := 5) (b := v) (by decide) (by omega)
      by_cases q : v ≤ 4
      · have : ¬ (5 : Int32) ≤ nI v := fun z => by have := this.mp z; omega
        simp [q, this]
      · have : (5 : Int32) ≤ nI v := this.mpr (by omega)
        simp [q, this]
    have hE : imB tx tn pl (r1, c1, dr, dm, my, md, mr, q1) = tmB q1 (nI v2) (nI v3) := by
      rw [hB]
      simp only [Bool.and_eq_true] at hS
      obtain ⟨s1, s2, s3⟩ := hS
      rw [s1, s2, s3, h5 v2 hv2, h5 v3 hv3, show inn (nI v1) 0 99 = true from (inn_le (b := 99) (by omega) (by decide)).trans (by simp [hv1])]
      unfold tmB
      cases decide (q1 < 5) <;> cases decide (5 ≤ nI v2) <;> cases decide (5 ≤ nI v3) <;> rfl
    rw [hE]
    refine ⟨fun z => ⟨p4, _, e1, by omega, hN.symm, by rw [hT]; exact z, ?_⟩, fun z => Or.inr (by rw [e1, hT]; exact z)⟩
    have eD : tkD 109 r1 c1 C B F K dm Yr Dn Rt q1 (upd (upd (upd nb 0 (nI v1)) 1 (nI v2)) 2 (nI v3)) = (r1, c1, C, B, F, K, dm, upd Yr q1 (nI v1), upd Dn q1 (nI v2), upd Rt q1 (nI v3), q1 + 1, upd (upd (upd nb 0 (nI v1)) 1 (nI v2)) 2 (nI v3)) := by
      have t0 : upd (upd (upd nb 0 (nI v1)) 1 (nI v2)) 2 (nI v3) 0 = nI v1 := rfl
      have t1 : upd (upd (upd nb 0 (nI v1)) 1 (nI v2)) 2 (nI v3) 1 = nI v2 := rfl
      have t2 : upd (upd (upd nb 0 (nI v1)) 1 (nI v2)) 2 (nI v3) 2 = nI v3 := rfl
      unfold tkD dNr dNc dX dN dY dQ
      rw [t0, t1, t2, z]
      rfl
    unfold tmB at z
    simp only [Bool.and_eq_true, decide_eq_true_eq, Bool.not_eq_true', decide_eq_false_iff_not] at z
    obtain ⟨⟨z1, z2⟩, z3⟩ := z
    have k2 : v2 ≤ 4 := by
      rcases Nat.lt_or_ge 4 v2 with w | w
      · exact absurd (nI_le (a := 5) (b := v2) (by omega) (by omega)) z1
      · exact w
    have k3 : v3 ≤ 4 := by
      rcases Nat.lt_or_ge 4 v3 with w | w
      · exact absurd (nI_le (a := 5) (b := v3) (by omega) (by omega)) z2
      · exact w
    rw [eA, eD]
    refine ⟨g1, g2, rfl, rfl, rfl, rfl, g7, (by show q1 + 1 ≤ 5; omega), g9, gA, gB, fun k hk => ?_, fun k hk => ?_⟩
    · have hk : k < q1 + 1 := hk
      show (∃ a : Nat, a ≤ 99 ∧ upd Yr q1 (nI v1) k = nI a) ∧ (∃ a : Nat, a ≤ 4 ∧ upd Dn q1 (nI v2) k = nI a) ∧ (∃ a : Nat, a ≤ 4 ∧ upd Rt q1 (nI v3) k = nI a)
      by_cases e : k = q1
      · subst e; rw [pk_us, pk_us, pk_us]; exact ⟨⟨v1, hv1, rfl⟩, ⟨v2, k2, rfl⟩, ⟨v3, k3, rfl⟩⟩
      · rw [pk_un e, pk_un e, pk_un e]; exact gC k (by omega)
    · have hk : k < q1 + 1 := hk
      show upd my (5 * 1 + q1) (nI v1) (5 + k) = upd Yr q1 (nI v1) k ∧ upd md (5 * 1 + q1) (nI v2) (5 + k) = upd Dn q1 (nI v2) k ∧ upd mr (5 * 1 + q1) (nI v3) (5 + k) = upd Rt q1 (nI v3) k
      by_cases e : k = q1
      · subst e
        rw [show 5 * 1 + k = 5 + k by omega, pk_us, pk_us, pk_us, pk_us, pk_us, pk_us]
        exact ⟨rfl, rfl, rfl⟩
      · rw [pk_un (f := Yr) e, pk_un (f := Dn) e, pk_un (f := Rt) e, pk_un (by omega), pk_un (by omega), pk_un (by omega)]
        exact gD k (by omega)
theorem item_n {pl : Nat} {δ : Dr} {s : Ms} (h1 : ¬ sgI Sg tn (nI pl) = 109) (h2 : ¬ sgI Sg tn (nI pl) = 114) (h3 : ¬ sgI Sg tn (nI pl) = 116) (g1 : ¬ hre tx tn pl = 109) (g2 : ¬ hre tx tn pl = 114) (g3 : ¬ hre tx tn pl = 116) : ItR Sg tx tn pl δ s := by
  have hB : imB tx tn pl s = false := by
    unfold imB
    rw [if_neg g2, if_neg g3, if_neg g1]
  have hn : nbh (sgI Sg tn (nI pl)) = 0 := by
    unfold nbh
    rw [if_neg h1, if_neg h2, if_neg h3]
  unfold ItR
  rw [hB, hn]
  exact ⟨fun z => absurd z (by decide), fun _ => Or.inl rfl⟩
theorem item_same (h : TxR Sg tx tn) {pl : Nat} (hpl : pl < 2 ^ 19) {δ : Dr} {s : Ms} (hd : DfR δ s) : ItR Sg tx tn pl δ s := by
  have q1 := eq_same h (p := pl) (K := 109) (by omega) (by decide)
  have q2 := eq_same h (p := pl) (K := 114) (by omega) (by decide)
  have q3 := eq_same h (p := pl) (K := 116) (by omega) (by decide)
  by_cases e1 : sgI Sg tn (nI pl) = nI 109
  · exact item_m h hpl hd e1 (q1.mp e1)
  · by_cases e2 : sgI Sg tn (nI pl) = nI 114
    · exact item_r h hpl hd e2 (q2.mp e2)
    · by_cases e3 : sgI Sg tn (nI pl) = nI 116
      · exact item_t h hpl hd e3 (q3.mp e3)
      · exact item_n e1 e2 e3 (fun z => e1 (q1.mpr z)) (fun z => e2 (q2.mpr z)) (fun z => e3 (q3.mpr z))
theorem text_same (h : TxR Sg tx tn) (htn : tn ≤ 200) : ∀ (f pl : Nat) (δ : Dr) (s : Ms), pl < 2 ^ 21 → DfR δ s → (raL Sg tn f pl δ).1 = (faL tx tn f pl s).1 ∧ DfR (raL Sg tn f pl δ).2 (faL tx tn f pl s).2
  | 0, pl, δ, s, _, hd => by
    rw [raL_end (Or.inl rfl), faL]
    exact ⟨rfl, hd⟩
  | f + 1, pl, δ, s, hpl, hd => by
    by_cases hlt : pl < tn
    · have hI := item_same h (pl := pl) (by omega) hd
      obtain ⟨nr, nc, C, B, F, K, n, Yr, Dn, Rt, q, nb⟩ := δ
      unfold ItR at hI
      simp only at hI
      rw [raL, faL, if_pos hlt, if_pos hlt]
      cases hb : imB tx tn pl s with
      | true =>
        obtain ⟨e, nb', r1, r2, r3, r4, r5⟩ := hI.1 hb
        rw [r1]
        simp only
        rw [if_neg (nI_ne4 (by omega)), r4, if_pos rfl, if_pos trivial, nI_clamp (by omega), ← r3]
        exact text_same h htn f e _ _ r2 r5
      | false =>
        rw [if_neg (show ¬ (false = true) by decide)]
        rcases hI.2 hb with r | r
        · rw [if_pos r]
          exact ⟨rfl, hd⟩
        · by_cases w : (rnL Sg tn (nbh (sgI Sg tn (nI pl))) (nbh (sgI Sg tn (nI pl))) 0 (pl + 1) nb).1 = -4
          · rw [if_pos w]
            exact ⟨rfl, hd⟩
          · rw [if_neg w, r, if_neg (by decide)]
            exact ⟨rfl, hd⟩
    · rw [raL_end (Or.inr (by omega)), faL, if_neg hlt]
      exact ⟨rfl, hd⟩
/-- a reading leaves the maps of the land alone -/
theorem faL_low (tx : Nat → Int32) (tn : Nat) : ∀ (f pl : Nat) (s : Ms) (i : Nat), i < 5 → (faL tx tn f pl s).2.2.2.2.2.1 i = s.2.2.2.2.1 i ∧ (faL tx tn f pl s).2.2.2.2.2.2.1 i = s.2.2.2.2.2.1 i ∧ (faL tx tn f pl s).2.2.2.2.2.2.2.1 i = s.2.2.2.2.2.2.1 i
  | 0, _, _, _, _ => ⟨rfl, rfl, rfl⟩
  | f + 1, pl, s, i, hi => by
    rw [faL]
    split
    · split
      · obtain ⟨a1, a2, a3⟩ := faL_low tx tn f (imN tx tn pl) (imA tx tn pl s) i hi
        rw [a1, a2, a3]
        unfold imA
        split
        · exact ⟨rfl, rfl, rfl⟩
        · split
          · exact ⟨rfl, rfl, rfl⟩
          · exact ⟨pk_un (by omega), pk_un (by omega), pk_un (by omega)⟩
      · exact ⟨rfl, rfl, rfl⟩
    · exact ⟨rfl, rfl, rfl⟩
end
