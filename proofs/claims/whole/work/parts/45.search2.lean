/-! the search: who does not wait is relaxed -/
section
variable {N : Nat} {op : Nat → Bool} {c : Nat → Nat} {nb : Nat → Nat → Nat}
/-- x is relaxed: no open neighbour can be lowered from it -/
def rlx (N : Nat) (op : Nat → Bool) (c : Nat → Nat) (nb : Nat → Nat → Nat) (R : Nat → Nat) (x k : Nat) : Prop := ∀ d, d < k → nb x d < N → op (nb x d) = true → R (nb x d) ≤ R x + c x
theorem rlx_mono {R T : Nat → Nat} {x k : Nat} (h : rlx N op c nb R x k) (hx : T x = R x) (hle : ∀ i, T i ≤ R i) : rlx N op c nb T x k := fun d hd hn ho => by
  have := h d hd hn ho
  have := hle (nb x d)
  rw [hx]
  omega
/-- one turn's steps relax x, which itself is not changed -/
theorem aIt_rlx (hself : ∀ x d, d < 4 → ¬ nb x d = x) (x : Nat) (s : Ab) : ∀ k, k ≤ 4 → (it (aI N op c nb x) s k).1 x = s.1 x ∧ rlx N op c nb (it (aI N op c nb x) s k).1 x k := by
  intro k hk
  induction k with
  | zero => exact ⟨rfl, fun d hd => absurd hd (by omega)⟩
  | succ k ih =>
    obtain ⟨i1, i2⟩ := ih (by omega)
    rw [it_s]
    generalize it (aI N op c nb x) s k = t at *
    have hle := aI_le (N := N) (op := op) (c := c) (nb := nb) x k t
    have hx : (aI N op c nb x k t).1 x = t.1 x := by
      unfold aI aR
      split
      · exact nup_n _ (fun e => hself x k (by omega) e.symm)
      · rfl
    refine ⟨hx.trans i1, fun d hd hn ho => ?_⟩
    by_cases e : d = k
    · subst e
      rw [hx]
      unfold aI aR
      split
      · show nup t.1 (nb x d) (t.1 x + c x) (nb x d) ≤ _
        rw [nup_s]
        exact Nat.le_refl _
      · rename_i h
        simp only [hn, ho, decide_true, Bool.true_and, decide_eq_true_eq, Nat.not_lt] at h
        exact h
    · exact rlx_mono i2 hx hle.1 d (by omega) hn ho
/-- all that do not wait are relaxed -/
def aRx (N : Nat) (op : Nat → Bool) (c : Nat → Nat) (nb : Nat → Nat → Nat) (s : Ab) : Prop := ∀ x, x < N → ¬ x ∈ s.2 → rlx N op c nb s.1 x 4
theorem aS_rx (hself : ∀ x d, d < 4 → ¬ nb x d = x) {R : Nat → Nat} {x : Nat} {q : List Nat} (h : aRx N op c nb (R, x :: q)) : aRx N op c nb (aS N op c nb (R, x :: q)) := by
  show aRx N op c nb (it (aI N op c nb x) (R, q) 4)
  obtain ⟨e1, e2⟩ := aIt_rlx (N := N) (op := op) (c := c) hself x (R, q) 4 (Nat.le_refl _)
  have hle := aIt_le (N := N) (op := op) (c := c) (nb := nb) x (R, q) 4
  intro y hy hn
  by_cases e : y = x
  · subst e; exact e2
  · have hq : ¬ y ∈ q := fun z => hn (hle.2.1 y z)
    have hsame : (it (aI N op c nb x) (R, q) 4).1 y = R y := by
      have h1 := hle.1 y
      rcases Nat.lt_or_ge ((it (aI N op c nb x) (R, q) 4).1 y) (R y) with z | z
      · exact absurd (hle.2.2 y z) hn
      · simp only at h1; omega
    exact rlx_mono (h y hy (fun z => by rcases List.mem_cons.mp z with w | w; exact e w; exact hq w)) hsame hle.1
end
