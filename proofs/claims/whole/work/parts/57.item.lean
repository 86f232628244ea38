/-! one item of the text -/
section
variable {Sg tx : Nat → Int32} {tn : Nat}
theorem rn2 (h : TxR Sg tx tn) {p : Nat} (hp : p < 2 ^ 20) (nb : Nat → Int32) : ((sy tx tn p 44 && sy tx tn (nuE tx tn p) 59) = true → rnL Sg tn 2 2 0 p nb = (nI (nuE tx tn (nuE tx tn p)), upd (upd nb 0 (nuV tx tn p)) 1 (nuV tx tn (nuE tx tn p))) ∧ (∃ v, v ≤ 99 ∧ nuV tx tn p = nI v) ∧ (∃ v, v ≤ 99 ∧ nuV tx tn (nuE tx tn p) = nI v)) ∧ ((sy tx tn p 44 && sy tx tn (nuE tx tn p) 59) = false → (rnL Sg tn 2 2 0 p nb).1 = -4) := by
  have b1 := nuE_b (tx := tx) (tn := tn) p
  obtain ⟨a1, a2⟩ := rnL_step h (wn := 2) (f := 1) (k := 0) (p := p) (K := 44) (by omega) (by decide) rfl nb
  obtain ⟨c1, c2⟩ := rnL_step h (wn := 2) (f := 0) (k := 1) (p := nuE tx tn p) (K := 59) (by omega) (by decide) rfl (upd nb 0 (nuV tx tn p))
  cases s1 : sy tx tn p 44 with
  | false => exact ⟨fun z => absurd z (by simp), fun _ => a2 s1⟩
  | true =>
    obtain ⟨e1, v1⟩ := a1 s1
    rw [e1]
    cases s2 : sy tx tn (nuE tx tn p) 59 with
    | false => exact ⟨fun z => absurd z (by simp), fun _ => c2 s2⟩
    | true =>
      obtain ⟨e2, v2⟩ := c1 s2
      rw [e2]
      exact ⟨fun _ => ⟨rfl, v1, v2⟩, fun z => absurd z (by simp)⟩
theorem rn3 (h : TxR Sg tx tn) {p : Nat} (hp : p < 2 ^ 20) (nb : Nat → Int32) : ((sy tx tn p 44 && (sy tx tn (nuE tx tn p) 44 && sy tx tn (nuE tx tn (nuE tx tn p)) 59)) = true → rnL Sg tn 3 3 0 p nb = (nI (nuE tx tn (nuE tx tn (nuE tx tn p))), upd (upd (upd nb 0 (nuV tx tn p)) 1 (nuV tx tn (nuE tx tn p))) 2 (nuV tx tn (nuE tx tn (nuE tx tn p)))) ∧ (∃ v, v ≤ 99 ∧ nuV tx tn p = nI v) ∧ (∃ v, v ≤ 99 ∧ nuV tx tn (nuE tx tn p) = nI v) ∧ (∃ v, v ≤ 99 ∧ nuV tx tn (nuE tx tn (nuE tx tn p)) = nI v)) ∧ ((sy tx tn p 44 && (sy tx tn (nuE tx tn p) 44 && sy tx tn (nuE tx tn (nuE tx tn p)) 59)) = false → (rnL Sg tn 3 3 0 p nb).1 = -4) := by
  have b1 := nuE_b (tx := tx) (tn := tn) p
  have b2 := nuE_b (tx := tx) (tn := tn) (nuE tx tn p)
  obtain ⟨a1, a2⟩ := rnL_step h (wn := 3) (f := 2) (k := 0) (p := p) (K := 44) (by omega) (by decide) rfl nb
  obtain ⟨c1, c2⟩ := rnL_step h (wn := 3) (f := 1) (k := 1) (p := nuE tx tn p) (K := 44) (by omega) (by decide) rfl (upd nb 0 (nuV tx tn p))
  obtain ⟨d1, d2⟩ := rnL_step h (wn := 3) (f := 0) (k := 2) (p := nuE tx tn (nuE tx tn p)) (K := 59) (by omega) (by decide) rfl (upd (upd nb 0 (nuV tx tn p)) 1 (nuV tx tn (nuE tx tn p)))
  cases s1 : sy tx tn p 44 with
  | false => exact ⟨fun z => absurd z (by simp), fun _ => a2 s1⟩
  | true =>
    obtain ⟨e1, v1⟩ := a1 s1
    rw [e1]
    cases s2 : sy tx tn (nuE tx tn p) 44 with
    | false => exact ⟨fun z => absurd z (by simp), fun _ => c2 s2⟩
    | true =>
      obtain ⟨e2, v2⟩ := c1 s2
      rw [e2]
      cases s3 : sy tx tn (nuE tx tn (nuE tx tn p)) 59 with
      | false => exact ⟨fun z => absurd z (by simp), fun _ => d2 s3⟩
      | true =>
        obtain ⟨e3, v3⟩ := d1 s3
        rw [e3]
        exact ⟨fun _ => ⟨rfl, v1, v2, v3⟩, fun z => absurd z (by simp)⟩
theorem rn4 (h : TxR Sg tx tn) {p : Nat} (hp : p < 2 ^ 20) (nb : Nat → Int32) : ((sy tx tn p 44 && (sy tx tn (nuE tx tn p) 44 && (sy tx tn (nuE tx tn (nuE tx tn p)) 44 && sy tx tn (nuE tx tn (nuE tx tn (nuE tx tn p))) 59))) = true → rnL Sg tn 4 4 0 p nb = (nI (nuE tx tn (nuE tx tn (nuE tx tn (nuE tx tn p)))), upd (upd (upd (upd nb 0 (nuV tx tn p)) 1 (nuV tx tn (nuE tx tn p))) 2 (nuV tx tn (nuE tx tn (nuE tx tn p)))) 3 (nuV tx tn (nuE tx tn (nuE tx tn (nuE tx tn p))))) ∧ (∃ v, v ≤ 99 ∧ nuV tx tn p = nI v) ∧ (∃ v, v ≤ 99 ∧ nuV tx tn (nuE tx tn p) = nI v) ∧ (∃ v, v ≤ 99 ∧ nuV tx tn (nuE tx tn (nuE tx tn p)) = nI v) ∧ (∃ v, v ≤ 99 ∧ nuV tx tn (nuE tx tn (nuE tx tn (nuE tx tn p))) = nI v)) ∧ ((sy tx tn p 44 && (sy tx tn (nuE tx tn p) 44 && (sy tx tn (nuE tx tn (nuE tx tn p)) 44 && sy tx tn (nuE tx tn (nuE tx tn (nuE tx tn p))) 59))) = false → (rnL Sg tn 4 4 0 p nb).1 = -4) := by
  have b1 := nuE_b (tx := tx) (tn := tn) p
  have b2 := nuE_b (tx := tx) (tn := tn) (nuE tx tn p)
  have b3 := nuE_b (tx := tx) (tn := tn) (nuE tx tn (nuE tx tn p))
  obtain ⟨a1, a2⟩ := rnL_step h (wn := 4) (f := 3) (k := 0) (p := p) (K := 44) (by omega) (by decide) rfl nb
  obtain ⟨c1, c2⟩ := rnL_step h (wn := 4) (f := 2) (k := 1) (p := nuE tx tn p) (K := 44) (by omega) (by decide) rfl (upd nb 0 (nuV tx tn p))
  obtain ⟨d1, d2⟩ := rnL_step h (wn := 4) (f := 1) (k := 2) (p := nuE tx tn (nuE tx tn p)) (K := 44) (by omega) (by decide) rfl (upd (upd nb 0 (nuV tx tn p)) 1 (nuV tx tn (nuE tx tn p)))
  obtain ⟨g1, g2⟩ := rnL_step h (wn := 4) (f := 0) (k := 3) (p := nuE tx tn (nuE tx tn (nuE tx tn p))) (K := 59) (by omega) (by decide) rfl (upd (upd (upd nb 0 (nuV tx tn p)) 1 (nuV tx tn (nuE tx tn p))) 2 (nuV tx tn (nuE tx tn (nuE tx tn p))))
  cases s1 : sy tx tn p 44 with
  | false => exact ⟨fun z => absurd z (by simp), fun _ => a2 s1⟩
  | true =>
    obtain ⟨e1, v1⟩ := a1 s1
    rw [e1]
    cases s2 : sy tx tn (nuE tx tn p) 44 with
    | false => exact ⟨fun z => absurd z (by simp), fun _ => c2 s2⟩
    | true =>
      obtain ⟨e2, v2⟩ := c1 s2
      rw [e2]
      cases s3 : sy tx tn (nuE tx tn (nuE tx tn p)) 44 with
      | false => exact ⟨fun z => absurd z (by simp), fun _ => d2 s3⟩
      | true =>
        obtain ⟨e3, v3⟩ := d1 s3
        rw [e3]
        cases s4 : sy tx tn (nuE tx tn (nuE tx tn (nuE tx tn p))) 59 with
        | false => exact ⟨fun z => absurd z (by simp), fun _ => g2 s4⟩
        | true =>
          obtain ⟨e4, v4⟩ := g1 s4
          rw [e4]
          exact ⟨fun _ => ⟨rfl, v1, v2, v3, v4⟩, fun z => absurd z (by simp)⟩
/-- what an item does, on both sides -/
def ItR (Sg tx : Nat → Int32) (tn pl : Nat) (δ : Dr) (s : Ms) : Prop :=
  (imB tx tn pl s = true → ∃ (e : Nat) (nb' : Nat → Int32), rnL Sg tn (nbh (sgI Sg tn (nI pl))) (nbh (sgI Sg tn (nI pl))) 0 (pl + 1) δ.2.2.2.2.2.2.2.2.2.2.2 = (nI e, nb') ∧ e < 2 ^ 21 ∧ e = imN tx tn pl ∧ tkB (sgI Sg tn (nI pl)) δ.1 δ.2.1 δ.2.2.1 δ.2.2.2.2.2.2.1 δ.2.2.2.2.2.2.2.2.2.2.1 nb' = true ∧ DfR (tkD (sgI Sg tn (nI pl)) δ.1 δ.2.1 δ.2.2.1 δ.2.2.2.1 δ.2.2.2.2.1 δ.2.2.2.2.2.1 δ.2.2.2.2.2.2.1 δ.2.2.2.2.2.2.2.1 δ.2.2.2.2.2.2.2.2.1 δ.2.2.2.2.2.2.2.2.2.1 δ.2.2.2.2.2.2.2.2.2.2.1 nb') (imA tx tn pl s)) ∧
  (imB tx tn pl s = false → (rnL Sg tn (nbh (sgI Sg tn (nI pl))) (nbh (sgI Sg tn (nI pl))) 0 (pl + 1) δ.2.2.2.2.2.2.2.2.2.2.2).1 = -4 ∨ tkB (sgI Sg tn (nI pl)) δ.1 δ.2.1 δ.2.2.1 δ.2.2.2.2.2.2.1 δ.2.2.2.2.2.2.2.2.2.2.1 (rnL Sg tn (nbh (sgI Sg tn (nI pl))) (nbh (sgI Sg tn (nI pl))) 0 (pl + 1) δ.2.2.2.2.2.2.2.2.2.2.2).2 = false)
theorem ix_isS {v : Nat} (hv : v ≤ 99) (h : isS (nI v) = true) : 2 ≤ v ∧ v ≤ 8 := by
  simp only [isS, Bool.and_eq_true, Bool.not_eq_true', decide_eq_false_iff_not] at h
  have h1 := (not_congr (nI_ltI (a := v) (b := 2) (by omega) (by decide))).mp h.1
  have h2 := (not_congr (nI_ltI (a := 8) (b := v) (by decide) (by omega))).mp h.2
  omega
theorem item_r (h : TxR Sg tx tn) {pl : Nat} (hpl : pl < 2 ^ 19) {δ : Dr} {s : Ms} (hd : DfR δ s) (hx : sgI Sg tn (nI pl) = 114) (hh : hre tx tn pl = 114) : ItR Sg tx tn pl δ s := by
  obtain ⟨nr, nc, C, B, F, K, n, Yr, Dn, Rt, q, nb⟩ := δ
  obtain ⟨r1, c1, dr, dm, my, md, mr, q1⟩ := s
  obtain ⟨g1, g2, rfl, rfl, rfl, rfl, g7, g8, g9, gA, gB, gC, gD⟩ := hd
  simp only at g1 g2 g7 g8 g9 gA gB gC gD
  unfold ItR
  simp only
  rw [hx, show nbh 114 = 2 by decide]
  have hB : imB tx tn pl (r1, c1, dr, dm, my, md, mr, q1) = ((sy tx tn (pl + 1) 44 && sy tx tn (nuE tx tn (pl + 1)) 59) && trB dm q1 (nuV tx tn (pl + 1)) (nuV tx tn (nuE tx tn (pl + 1)))) := by
    unfold imB
    rw [hh, if_pos rfl]
    show imR tx tn pl dm q1 = _
    unfold imR trB
    rw [nuS_sy, nuS_sy]
    show _ = (_ && (decide (dm = 0) && decide (q1 = 0) && (inn (nuV tx tn (pl + 1)) 2 8 && inn (nuV tx tn (nuE tx tn (pl + 1))) 2 8)))
    cases decide (dm = 0) <;> cases decide (q1 = 0) <;> cases sy tx tn (pl + 1) 44 <;> cases sy tx tn (nuE tx tn (pl + 1)) 59 <;> cases inn (nuV tx tn (pl + 1)) 2 8 <;> cases inn (nuV tx tn (nuE tx tn (pl + 1))) 2 8 <;> rfl
  have b1 := nuE_b (tx := tx) (tn := tn) (pl + 1)
  have b2 := nuE_b (tx := tx) (tn := tn) (nuE tx tn (pl + 1))
  obtain ⟨y1, y2⟩ := rn2 h (p := pl + 1) (by omega) nb
  rw [hB]
  cases hS : sy tx tn (pl + 1) 44 && sy tx tn (nuE tx tn (pl + 1)) 59 with
  | false => exact ⟨fun z => absurd z (by simp), fun _ => Or.inl (y2 hS)⟩
  | true =>
    obtain ⟨e1, ⟨v1, hv1, ev1⟩, ⟨v2, hv2, ev2⟩⟩ := y1 hS
    have hT : tkB 114 r1 c1 C dm q1 (upd (upd nb 0 (nuV tx tn (pl + 1))) 1 (nuV tx tn (nuE tx tn (pl + 1)))) = trB dm q1 (nuV tx tn (pl + 1)) (nuV tx tn (nuE tx tn (pl + 1))) := by
      unfold tkB
      rw [if_neg (by decide), if_pos rfl, pk_us, pk_un (by decide), pk_us]
    refine ⟨fun z => ?_, fun z => Or.inr ?_⟩
    · rw [Bool.true_and] at z
      refine ⟨_, _, e1, by omega, ?_, by rw [hT]; exact z, ?_⟩
      · unfold imN
        rw [hh, if_pos rfl]
      · have hz := z
        unfold trB at hz
        simp only [Bool.and_eq_true, decide_eq_true_eq] at hz
        obtain ⟨⟨rfl, rfl⟩, hs1, hs2⟩ := hz
        rw [ev1] at hs1
        rw [ev2] at hs2
        have t1 := ix_isS hv1 hs1
        have t2 := ix_isS hv2 hs2
        have eA : imA tx tn pl (r1, c1, dr, 0, my, md, mr, 0) = (v1, v2, dr, 0, my, md, mr, 0) := by
          unfold imA
          rw [hh, if_pos rfl, ev1, ev2, ixx (by omega), ixx (by omega)]
        have eD : tkD 114 r1 c1 C B F K 0 Yr Dn Rt 0 (upd (upd nb 0 (nuV tx tn (pl + 1))) 1 (nuV tx tn (nuE tx tn (pl + 1)))) = (v1, v2, C, B, F, K, 0, Yr, Dn, Rt, 0, upd (upd nb 0 (nuV tx tn (pl + 1))) 1 (nuV tx tn (nuE tx tn (pl + 1)))) := by
          unfold tkD dNr dNc dX dN dY dQ
          rw [pk_us, pk_un (show (0 : Nat) ≠ 1 by decide), pk_us, if_pos rfl, if_pos rfl, z, if_pos rfl, if_pos rfl, ev1, ev2, nI_clamp (by omega), nI_clamp (by omega)]
          rfl
        rw [eA, eD]
        exact ⟨t1, t2, rfl, rfl, rfl, rfl, Nat.zero_le _, Nat.zero_le _, ⟨fun k hk => absurd hk (Nat.not_lt_zero _), fun k j hk => absurd hk (Nat.not_lt_zero _), fun k hk => absurd hk (Nat.not_lt_zero _), fun k hk => absurd hk (Nat.not_lt_zero _), fun k hk => absurd hk (Nat.not_lt_zero _)⟩, fun k hk => absurd hk (Nat.not_lt_zero _), fun k hk => absurd hk (Nat.not_lt_zero _), fun k hk => absurd hk (Nat.not_lt_zero _), fun k hk => absurd hk (Nat.not_lt_zero _)⟩
    · rw [e1, hT]
      simpa using z
end
