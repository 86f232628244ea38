/-! a search with a queue, by itself: cells below N, who is beside whom, who is open, prices -/
def nup (R : Nat → Nat) (z v : Nat) : Nat → Nat := fun i => if i = z then v else R i
theorem nup_s (R : Nat → Nat) (z v : Nat) : nup R z v z = v := if_pos rfl
theorem nup_n (R : Nat → Nat) {z v i : Nat} (h : ¬ i = z) : nup R z v i = R i := if_neg h
abbrev Ab : Type := (Nat → Nat) × List Nat
def aR (N : Nat) (op : Nat → Bool) (z v : Nat) (s : Ab) : Ab := if (decide (z < N) && op z) && decide (v < s.1 z) then (nup s.1 z v, if z ∈ s.2 then s.2 else s.2 ++ [z]) else s
def aI (N : Nat) (op : Nat → Bool) (c : Nat → Nat) (nb : Nat → Nat → Nat) (x d : Nat) (s : Ab) : Ab := aR N op (nb x d) (s.1 x + c x) s
def aS (N : Nat) (op : Nat → Bool) (c : Nat → Nat) (nb : Nat → Nat → Nat) (s : Ab) : Ab := match s.2 with
  | [] => s
  | x :: q => it (aI N op c nb x) (s.1, q) 4
section
variable {N : Nat} {op : Nat → Bool} {c : Nat → Nat} {nb : Nat → Nat → Nat}
/-- nothing rises, and who is lowered waits -/
def aLe (s t : Ab) : Prop := (∀ i, t.1 i ≤ s.1 i) ∧ (∀ i, i ∈ s.2 → i ∈ t.2) ∧ (∀ i, t.1 i < s.1 i → i ∈ t.2)
theorem aLe_rf (s : Ab) : aLe s s := ⟨fun _ => Nat.le_refl _, fun _ h => h, fun _ h => absurd h (Nat.lt_irrefl _)⟩
theorem aR_le (z v : Nat) (s : Ab) : aLe s (aR N op z v s) := by
  unfold aR
  split
  · rename_i h
    rw [Bool.and_eq_true, decide_eq_true_eq] at h
    have hz : z ∈ (if z ∈ s.2 then s.2 else s.2 ++ [z]) := by
      split
      · assumption
      · exact List.mem_append_right _ (List.mem_singleton.mpr rfl)
    refine ⟨fun i => ?_, fun i hi => ?_, fun i hi => ?_⟩
    · show nup s.1 z v i ≤ s.1 i
      by_cases e : i = z
      · subst e; rw [nup_s]; exact Nat.le_of_lt h.2
      · rw [nup_n _ e]; exact Nat.le_refl _
    · show i ∈ (if z ∈ s.2 then s.2 else s.2 ++ [z])
      split
      · exact hi
      · exact List.mem_append_left _ hi
    · show i ∈ (if z ∈ s.2 then s.2 else s.2 ++ [z])
      have hi : nup s.1 z v i < s.1 i := hi
      by_cases e : i = z
      · subst e; exact hz
      · rw [nup_n _ e] at hi; exact absurd hi (Nat.lt_irrefl _)
  · exact aLe_rf s
theorem aLe_tr {s t r : Ab} (h1 : aLe s t) (h2 : aLe t r) : aLe s r := by
  refine ⟨fun i => Nat.le_trans (h2.1 i) (h1.1 i), fun i h => h2.2.1 i (h1.2.1 i h), fun i h => ?_⟩
  rcases Nat.lt_or_ge (r.1 i) (t.1 i) with z | z
  · exact h2.2.2 i z
  · exact h2.2.1 i (h1.2.2 i (by have := h1.1 i; omega))
theorem aI_le (x d : Nat) (s : Ab) : aLe s (aI N op c nb x d s) := aR_le _ _ s
theorem aIt_le (x : Nat) (s : Ab) (k : Nat) : aLe s (it (aI N op c nb x) s k) := by
  induction k with
  | zero => exact aLe_rf s
  | succ k ih => rw [it_s]; exact aLe_tr ih (aI_le x k _)
end
