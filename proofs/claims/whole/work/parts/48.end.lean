/-! the search: behind N * N turns nobody waits and every rest is final -/
section
variable {N : Nat} {op : Nat → Bool} {c : Nat → Nat} {nb : Nat → Nat → Nat} {b : Nat}
/-- what a phase keeps, and that it makes one more cell final -/
theorem phase_J (hself : ∀ x d, d < 4 → ¬ nb x d = x) (hc2 : ∀ x, op x = true → c x ≤ 2) {k : Nat} {s : Ab} (h : aJ N op c nb b k s) (hx : aRx N op c nb s) : ∃ m, m ≤ N ∧ aJ N op c nb b (k + m) (aRun N op c nb m s) ∧ aRx N op c nb (aRun N op c nb m s) ∧ ((∀ z, z < N → fin N op c nb b s.1 z) ∨ cnt (finB N op c nb b s.1) N < cnt (finB N op c nb b (aRun N op c nb m s).1) N) := by
  have hlen : s.2.length ≤ N := nodup_len N s.2 h.2.2.1 (fun z hz => (h.2.1 z hz).1)
  obtain ⟨R, p⟩ := s
  obtain ⟨a1, a2, a3, _⟩ := phase (N := N) (op := op) (c := c) hself p R [] (by rw [List.append_nil]; exact hx)
  rw [List.append_nil] at a1 a2 a3
  refine ⟨p.length, hlen, aRun_J hself hc2 p.length h, a3, ?_⟩
  by_cases hf : ∀ z, z < N → fin N op c nb b R z
  · exact Or.inl hf
  · right
    obtain ⟨z, hz⟩ := Classical.not_forall.mp hf
    obtain ⟨hz, hnf⟩ := Classical.not_imp.mp hz
    obtain ⟨z', x', d, v', hz', ho', hx', hd, e, hle, hmin, hlt⟩ := fin_not (R := R) h.2.2.2.2 hz hnf
    refine cnt_lt (k := z') (fun i _ hi => finB_iff.mpr (fin_mono a1 (finB_iff.mp hi))) hz' ?_ ?_
    · cases hb : finB N op c nb b R z' with
      | false => rfl
      | true =>
        -- its least walk is below its rest
        have hf' := finB_iff.mp hb
        have : ∃ n, wa N op c nb b n z' v' := by
          have hRx : R x' < 1000000 := by
            have := h.2.2.2.1 z'
            simp only at this
            omega
          obtain ⟨hox, ⟨n, hn⟩, _⟩ := h.1 x' hx' hRx
          have hw : wa N op c nb b (n + 1) z' (c x' + R x') := ⟨x', hx', ⟨d, hd, e⟩, hox, R x', hn, rfl⟩
          have := hmin _ _ hw
          have e2 : v' = c x' + R x' := by omega
          exact ⟨n + 1, by rw [e2]; exact hw⟩
        obtain ⟨n, hn⟩ := this
        have := hf' ho' n v' hn
        omega
    · refine finB_iff.mpr (fun _ n v hw => ?_)
      have hv := hmin n v hw
      by_cases hq : x' ∈ p
      · have := a2 x' hq d hd (by rw [e]; exact hz') (by rw [e]; exact ho')
        rw [e] at this
        omega
      · have := hx x' hx' hq d hd (by rw [e]; exact hz') (by rw [e]; exact ho')
        simp only at this
        rw [e] at this
        omega
/-- when all is final nobody is lowered -/
theorem fin_aIt (hself : ∀ x d, d < 4 → ¬ nb x d = x) {k x : Nat} {s : Ab} (hx : x < N) (hl : s.1 x < 1000000) (h : aJ N op c nb b k s) (hf : ∀ z, z < N → fin N op c nb b s.1 z) : ∀ d, d ≤ 4 → it (aI N op c nb x) s d = s := by
  intro d hd
  induction d with
  | zero => rfl
  | succ d ih =>
    rw [it_s, ih (by omega)]
    unfold aI aR
    split
    · rename_i hc
      simp only [Bool.and_eq_true, decide_eq_true_eq] at hc
      obtain ⟨⟨hz, ho⟩, hv⟩ := hc
      obtain ⟨hox, ⟨n, hn⟩, _⟩ := h.1 x hx hl
      have := hf _ hz ho (n + 1) (c x + s.1 x) ⟨x, hx, ⟨d, by omega, rfl⟩, hox, s.1 x, hn, rfl⟩
      omega
    · rfl
theorem fin_drain (hself : ∀ x d, d < 4 → ¬ nb x d = x) (hc2 : ∀ x, op x = true → c x ≤ 2) : ∀ (q : List Nat) (R : Nat → Nat) (k : Nat), aJ N op c nb b k (R, q) → (∀ z, z < N → fin N op c nb b R z) → aRun N op c nb q.length (R, q) = (R, [])
  | [], R, k, _, _ => rfl
  | x :: q, R, k, h, hf => by
    obtain ⟨g1, g2, g3, g4, g5⟩ := h
    obtain ⟨hx, hl⟩ := g2 x List.mem_cons_self
    have h' : aJ N op c nb b k (R, q) := ⟨g1, fun z hz => g2 z (List.mem_cons_of_mem _ hz), (List.nodup_cons.mp g3).2, g4, g5⟩
    show aRun N op c nb (q.length + 1) (R, x :: q) = (R, [])
    have e : aS N op c nb (R, x :: q) = (R, q) := fin_aIt (s := (R, q)) hself hx hl h' hf 4 (Nat.le_refl _)
    rw [aRun, e]
    exact fin_drain hself hc2 q R k h' hf
theorem phases (hself : ∀ x d, d < 4 → ¬ nb x d = x) (hc2 : ∀ x, op x = true → c x ≤ 2) {s : Ab} (h : aJ N op c nb b 0 s) (hx : aRx N op c nb s) (h1 : 1 ≤ cnt (finB N op c nb b s.1) N) : ∀ m, ∃ T, T ≤ N * m ∧ aJ N op c nb b T (aRun N op c nb T s) ∧ aRx N op c nb (aRun N op c nb T s) ∧ ((∀ z, z < N → fin N op c nb b (aRun N op c nb T s).1 z) ∨ m + 1 ≤ cnt (finB N op c nb b (aRun N op c nb T s).1) N)
  | 0 => ⟨0, Nat.zero_le _, h, hx, Or.inr h1⟩
  | m + 1 => by
    obtain ⟨T, hT, hJ, hR, hor⟩ := phases hself hc2 h hx h1 m
    rcases hor with hf | hm
    · exact ⟨T, Nat.le_trans hT (Nat.mul_le_mul_left _ (Nat.le_succ _)), hJ, hR, Or.inl hf⟩
    · obtain ⟨n, hn, hJ2, hR2, hor2⟩ := phase_J hself hc2 hJ hR
      rw [← aRun_add] at hJ2 hR2 hor2
      rcases hor2 with hf | hm2
      · exact ⟨T, Nat.le_trans hT (Nat.mul_le_mul_left _ (Nat.le_succ _)), hJ, hR, Or.inl hf⟩
      · exact ⟨T + n, by rw [Nat.mul_succ]; omega, hJ2, hR2, Or.inr (by omega)⟩
/-- the end of a search -/
theorem aEnd (hself : ∀ x d, d < 4 → ¬ nb x d = x) (hc2 : ∀ x, op x = true → c x ≤ 2) (hN : N ≤ 64) (hb : b < N) (ho : op b = true) : ∃ R, aRun N op c nb 4096 (nup (fun _ => 1000000) b 0, [b]) = (R, []) ∧ (∀ z, z < N → R z < 1000000 → op z = true ∧ (∃ n, wa N op c nb b n z (R z)) ∧ R z ≤ 8192) ∧ (∀ z, z < N → op z = true → ∀ n v, wa N op c nb b n z v → R z ≤ v) ∧ (∀ z, R z ≤ 1000000) := by
  have h0 : aJ N op c nb b 0 (nup (fun _ => 1000000) b 0, [b]) := by
    refine ⟨fun z hz hl => ?_, fun z hz => ?_, by simp, fun z => ?_, nup_s (fun _ => 1000000) b 0⟩
    · have hl : nup (fun _ => 1000000) b 0 z < 1000000 := hl
      show op z = true ∧ (∃ n, wa N op c nb b n z (nup (fun _ => 1000000) b 0 z)) ∧ nup (fun _ => 1000000) b 0 z ≤ 2 * 0
      by_cases e : z = b
      · subst e; rw [nup_s]; exact ⟨ho, ⟨0, rfl, rfl⟩, Nat.le_refl _⟩
      · rw [nup_n _ e] at hl; omega
    · have := List.mem_singleton.mp hz
      subst this
      exact ⟨hb, by show nup (fun _ => 1000000) z 0 z < 1000000; rw [nup_s]; decide⟩
    · show nup (fun _ => 1000000) b 0 z ≤ 1000000
      by_cases e : z = b
      · subst e; rw [nup_s]; decide
      · rw [nup_n _ e]; exact Nat.le_refl _
  have hx0 : aRx N op c nb (nup (fun _ => 1000000) b 0, [b]) := fun x _ hn d _ _ _ => by
    have e : ¬ x = b := fun z => hn (List.mem_singleton.mpr z)
    show nup (fun _ => 1000000) b 0 (nb x d) ≤ nup (fun _ => 1000000) b 0 x + c x
    rw [nup_n _ e]
    by_cases e2 : nb x d = b
    · rw [e2, nup_s]; omega
    · rw [nup_n _ e2]; omega
  have hc1 : 1 ≤ cnt (finB N op c nb b (nup (fun _ => 1000000) b 0)) N := by
    have := cnt_lt (p := fun _ => false) (r := finB N op c nb b (nup (fun _ => 1000000) b 0)) (n := N) (k := b) (fun _ _ q => absurd q (by decide)) hb rfl (finB_iff.mpr (fun _ n v _ => by rw [nup_s]; exact Nat.zero_le _))
    omega
  obtain ⟨T, hT, hJ, hR, hor⟩ := phases hself hc2 h0 hx0 hc1 (N - 1)
  have hall : ∀ z, z < N → fin N op c nb b (aRun N op c nb T (nup (fun _ => 1000000) b 0, [b])).1 z := by
    rcases hor with q | q
    · exact q
    · intro z hz
      exact finB_iff.mp (cnt_all (by omega) z hz)
  have hlen : (aRun N op c nb T (nup (fun _ => 1000000) b 0, [b])).2.length ≤ N := nodup_len N _ hJ.2.2.1 (fun z hz => (hJ.2.1 z hz).1)
  have hNN : N * (N - 1) + N ≤ 4096 := by
    have e : N * (N - 1) + N = N * N := by
      cases N with
      | zero => omega
      | succ n => rw [Nat.succ_sub_one, Nat.mul_succ (n + 1) n]
    rw [e]
    exact Nat.mul_le_mul hN hN
  generalize hs : aRun N op c nb T (nup (fun _ => 1000000) b 0, [b]) = s at *
  obtain ⟨R, q⟩ := s
  have hd := fin_drain hself hc2 q R T hJ hall
  refine ⟨R, ?_, fun z hz hl => ?_, fun z hz ho n v hw => hall z hz ho n v hw, hJ.2.2.2.1⟩
  · have hlen : q.length ≤ N := hlen
    rw [show 4096 = T + (q.length + (4096 - T - q.length)) by omega, aRun_add, aRun_add, hs, hd, aRun_nil]
  · obtain ⟨g1, g2, g3⟩ := hJ.1 z hz hl
    exact ⟨g1, g2, by simp only at g3; omega⟩
end
