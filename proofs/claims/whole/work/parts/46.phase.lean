/-! the search: a phase, as many turns as wait at its start -/
section
variable {N : Nat} {op : Nat → Bool} {c : Nat → Nat} {nb : Nat → Nat → Nat}
theorem aR_app (z v : Nat) (s : Ab) : ∃ ex, (aR N op z v s).2 = s.2 ++ ex := by
  unfold aR
  split
  · show ∃ ex, (if z ∈ s.2 then s.2 else s.2 ++ [z]) = s.2 ++ ex
    split
    · exact ⟨[], (List.append_nil _).symm⟩
    · exact ⟨[z], rfl⟩
  · exact ⟨[], (List.append_nil _).symm⟩
theorem aIt_app (x : Nat) (s : Ab) (k : Nat) : ∃ ex, (it (aI N op c nb x) s k).2 = s.2 ++ ex := by
  induction k with
  | zero => exact ⟨[], (List.append_nil _).symm⟩
  | succ k ih =>
    obtain ⟨e1, h1⟩ := ih
    rw [it_s]
    obtain ⟨e2, h2⟩ := aR_app (N := N) (op := op) (nb x k) ((it (aI N op c nb x) s k).1 x + c x) (it (aI N op c nb x) s k)
    exact ⟨e1 ++ e2, h2.trans (by rw [h1, List.append_assoc])⟩
def aRun (N : Nat) (op : Nat → Bool) (c : Nat → Nat) (nb : Nat → Nat → Nat) : Nat → Ab → Ab
  | 0, s => s
  | k + 1, s => aRun N op c nb k (aS N op c nb s)
theorem aRun_add (a b : Nat) (s : Ab) : aRun N op c nb (a + b) s = aRun N op c nb b (aRun N op c nb a s) := by
  induction a generalizing s with
  | zero => rw [Nat.zero_add]; rfl
  | succ a ih => rw [show a + 1 + b = (a + b) + 1 by omega, aRun, aRun, ih]
theorem aRun_nil (k : Nat) (R : Nat → Nat) : aRun N op c nb k (R, []) = (R, []) := by
  induction k with
  | zero => rfl
  | succ k ih => rw [aRun]; exact ih
theorem phase (hself : ∀ x d, d < 4 → ¬ nb x d = x) : ∀ (p : List Nat) (R : Nat → Nat) (e : List Nat), aRx N op c nb (R, p ++ e) → (∀ i, (aRun N op c nb p.length (R, p ++ e)).1 i ≤ R i) ∧ (∀ x, x ∈ p → ∀ d, d < 4 → nb x d < N → op (nb x d) = true → (aRun N op c nb p.length (R, p ++ e)).1 (nb x d) ≤ R x + c x) ∧ aRx N op c nb (aRun N op c nb p.length (R, p ++ e)) ∧ (∃ ex, (aRun N op c nb p.length (R, p ++ e)).2 = e ++ ex)
  | [], R, e, h => ⟨fun _ => Nat.le_refl _, fun x hx => absurd hx List.not_mem_nil, h, [], (List.append_nil _).symm⟩
  | x :: p, R, e, h => by
    have hx := aS_rx hself (show aRx N op c nb (R, x :: (p ++ e)) from h)
    obtain ⟨ex, hex⟩ := aIt_app (N := N) (op := op) (c := c) (nb := nb) x (R, p ++ e) 4
    have hle := aIt_le (N := N) (op := op) (c := c) (nb := nb) x (R, p ++ e) 4
    obtain ⟨e1, e2⟩ := aIt_rlx (N := N) (op := op) (c := c) hself x (R, p ++ e) 4 (Nat.le_refl _)
    have hS : aS N op c nb (R, x :: (p ++ e)) = ((it (aI N op c nb x) (R, p ++ e) 4).1, p ++ (e ++ ex)) := by
      show it (aI N op c nb x) (R, p ++ e) 4 = _
      rw [← List.append_assoc]
      exact Prod.ext rfl hex
    rw [hS] at hx
    obtain ⟨a1, a2, a3, ex2, a4⟩ := phase hself p _ (e ++ ex) hx
    have hr : aRun N op c nb (x :: p).length (R, x :: p ++ e) = aRun N op c nb p.length ((it (aI N op c nb x) (R, p ++ e) 4).1, p ++ (e ++ ex)) := by
      show aRun N op c nb (p.length + 1) (R, x :: (p ++ e)) = _
      rw [aRun, hS]
    rw [hr]
    refine ⟨fun i => Nat.le_trans (a1 i) (hle.1 i), fun y hy d hd hn ho => ?_, a3, ex ++ ex2, by rw [a4, List.append_assoc]⟩
    rcases List.mem_cons.mp hy with rfl | hy
    · have g1 := e2 d hd hn ho
      have g2 := a1 (nb y d)
      rw [e1] at g1
      exact Nat.le_trans g2 g1
    · have g1 := a2 y hy d hd hn ho
      have g2 := hle.1 y
      simp only at g2
      omega
end
