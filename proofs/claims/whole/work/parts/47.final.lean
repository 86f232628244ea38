/-! the search: what it keeps -/
/-- a walk by the search's own neighbours -/
def wa (N : Nat) (op : Nat → Bool) (c : Nat → Nat) (nb : Nat → Nat → Nat) (b : Nat) : Nat → Nat → Nat → Prop
  | 0, x, v => x = b ∧ v = 0
  | n + 1, x, v => ∃ y, y < N ∧ (∃ d, d < 4 ∧ nb y d = x) ∧ op y = true ∧ ∃ u, wa N op c nb b n y u ∧ v = c y + u
/-- every finite rest is a walk's; who waits is open; b is at 0 -/
def aJ (N : Nat) (op : Nat → Bool) (c : Nat → Nat) (nb : Nat → Nat → Nat) (b k : Nat) (s : Ab) : Prop :=
  (∀ z, z < N → s.1 z < 1000000 → op z = true ∧ (∃ n, wa N op c nb b n z (s.1 z)) ∧ s.1 z ≤ 2 * k) ∧ (∀ z, z ∈ s.2 → z < N ∧ s.1 z < 1000000) ∧ s.2.Nodup ∧ (∀ z, s.1 z ≤ 1000000) ∧ s.1 b = 0
section
variable {N : Nat} {op : Nat → Bool} {c : Nat → Nat} {nb : Nat → Nat → Nat} {b : Nat}
theorem aJ_mono {k m : Nat} {s : Ab} (h : aJ N op c nb b k s) (hk : k ≤ m) : aJ N op c nb b m s := by
  refine ⟨fun z hz hl => ?_, h.2⟩
  obtain ⟨h1, h2, h3⟩ := h.1 z hz hl
  exact ⟨h1, h2, by omega⟩
theorem aR_J {k z v n : Nat} {s : Ab} (h : aJ N op c nb b k s) (hw : z < N → op z = true → v < s.1 z → wa N op c nb b n z v ∧ v ≤ 2 * k) : aJ N op c nb b k (aR N op z v s) := by
  unfold aR
  split
  · rename_i hc
    simp only [Bool.and_eq_true, decide_eq_true_eq] at hc
    obtain ⟨⟨hz, ho⟩, hv⟩ := hc
    obtain ⟨w1, w2⟩ := hw hz ho hv
    obtain ⟨g1, g2, g3, g4, g5⟩ := h
    have hF : v < 1000000 := Nat.lt_of_lt_of_le hv (g4 z)
    refine ⟨fun i hi hl => ?_, fun i hi => ?_, ?_, fun i => ?_, ?_⟩
    · show op i = true ∧ (∃ n, wa N op c nb b n i (nup s.1 z v i)) ∧ nup s.1 z v i ≤ 2 * k
      have hl : nup s.1 z v i < 1000000 := hl
      by_cases e : i = z
      · subst e; rw [nup_s]; exact ⟨ho, ⟨n, w1⟩, w2⟩
      · rw [nup_n _ e] at hl ⊢; exact g1 i hi hl
    · show i < N ∧ nup s.1 z v i < 1000000
      have hi : i ∈ (if z ∈ s.2 then s.2 else s.2 ++ [z]) := hi
      by_cases e : i = z
      · subst e; rw [nup_s]; exact ⟨hz, hF⟩
      · rw [nup_n _ e]
        refine g2 i ?_
        split at hi
        · exact hi
        · rcases List.mem_append.mp hi with q | q
          · exact q
          · exact absurd (List.mem_singleton.mp q) e
    · show (if z ∈ s.2 then s.2 else s.2 ++ [z]).Nodup
      split
      · exact g3
      · rename_i hn
        rw [List.nodup_append]
        refine ⟨g3, by simp, fun a ha d hd e => ?_⟩
        rw [List.mem_singleton] at hd
        subst hd
        subst e
        exact hn ha
    · show nup s.1 z v i ≤ 1000000
      by_cases e : i = z
      · subst e; rw [nup_s]; omega
      · rw [nup_n _ e]; exact g4 i
    · show nup s.1 z v b = 0
      by_cases e : b = z
      · subst e; omega
      · rw [nup_n _ e]; exact g5
  · exact h
theorem aIt_J (hself : ∀ x d, d < 4 → ¬ nb x d = x) (hc2 : ∀ x, op x = true → c x ≤ 2) {k x : Nat} {s : Ab} (hx : x < N) (hl : s.1 x < 1000000) (h : aJ N op c nb b k s) : ∀ d, d ≤ 4 → aJ N op c nb b (k + 1) (it (aI N op c nb x) s d) := by
  intro d hd
  induction d with
  | zero => exact aJ_mono h (by omega)
  | succ d ih =>
    rw [it_s]
    obtain ⟨e1, _⟩ := aIt_rlx (N := N) (op := op) (c := c) hself x s d (by omega)
    obtain ⟨ho, ⟨n, hn⟩, hv⟩ := h.1 x hx hl
    refine aR_J (n := n + 1) (ih (by omega)) (fun _ _ _ => ?_)
    rw [e1]
    have := hc2 x ho
    exact ⟨⟨x, hx, ⟨d, by omega, rfl⟩, ho, s.1 x, hn, by omega⟩, by omega⟩
theorem aS_J (hself : ∀ x d, d < 4 → ¬ nb x d = x) (hc2 : ∀ x, op x = true → c x ≤ 2) {k : Nat} {s : Ab} (h : aJ N op c nb b k s) : aJ N op c nb b (k + 1) (aS N op c nb s) := by
  obtain ⟨R, q⟩ := s
  cases q with
  | nil => exact aJ_mono h (by omega)
  | cons x q =>
    show aJ N op c nb b (k + 1) (it (aI N op c nb x) (R, q) 4)
    obtain ⟨g1, g2, g3, g4, g5⟩ := h
    obtain ⟨hx, hl⟩ := g2 x List.mem_cons_self
    exact aIt_J (s := (R, q)) hself hc2 hx hl ⟨g1, fun z hz => g2 z (List.mem_cons_of_mem _ hz), (List.nodup_cons.mp g3).2, g4, g5⟩ 4 (Nat.le_refl _)
theorem aRun_J (hself : ∀ x d, d < 4 → ¬ nb x d = x) (hc2 : ∀ x, op x = true → c x ≤ 2) : ∀ (m : Nat) {k : Nat} {s : Ab}, aJ N op c nb b k s → aJ N op c nb b (k + m) (aRun N op c nb m s)
  | 0, _, _, h => h
  | m + 1, k, s, h => by
    rw [aRun, show k + (m + 1) = (k + 1) + m by omega]
    exact aRun_J hself hc2 m (aS_J hself hc2 h)
/-- a rest that no walk goes below -/
def fin (N : Nat) (op : Nat → Bool) (c : Nat → Nat) (nb : Nat → Nat → Nat) (b : Nat) (R : Nat → Nat) (z : Nat) : Prop := op z = true → ∀ n v, wa N op c nb b n z v → R z ≤ v
theorem fin_next {R : Nat → Nat} (hb : R b = 0) : ∀ (n z v : Nat), z < N → op z = true → wa N op c nb b n z v → (∀ m u, wa N op c nb b m z u → v ≤ u) → v < R z → ∃ z' x' d v', z' < N ∧ op z' = true ∧ x' < N ∧ d < 4 ∧ nb x' d = z' ∧ R x' + c x' ≤ v' ∧ (∀ m u, wa N op c nb b m z' u → v' ≤ u) ∧ v' < R z'
  | 0, z, v, _, _, h, _, hv => by
    obtain ⟨rfl, rfl⟩ := h
    omega
  | n + 1, z, v, hz, ho, h, hle, hv => by
    obtain ⟨y, hy, ⟨d, hd, e⟩, hoy, u, hu, rfl⟩ := h
    have hlu : ∀ m w, wa N op c nb b m y w → u ≤ w := fun m w hw => by
      have := hle (m + 1) (c y + w) ⟨y, hy, ⟨d, hd, e⟩, hoy, w, hw, rfl⟩
      omega
    rcases Nat.lt_or_ge u (R y) with q | q
    · exact fin_next hb n y u hy hoy hu hlu q
    · exact ⟨z, y, d, c y + u, hz, ho, hy, hd, e, by omega, hle, hv⟩
theorem fin_not {R : Nat → Nat} (hb : R b = 0) {z : Nat} (hz : z < N) (h : ¬ fin N op c nb b R z) : ∃ z' x' d v', z' < N ∧ op z' = true ∧ x' < N ∧ d < 4 ∧ nb x' d = z' ∧ R x' + c x' ≤ v' ∧ (∀ m u, wa N op c nb b m z' u → v' ≤ u) ∧ v' < R z' := by
  have ho : op z = true := Classical.byContradiction (fun q => h (fun q' => absurd q' q))
  have hex : ∃ v, ∃ n, wa N op c nb b n z v := Classical.byContradiction (fun q => h (fun _ n v hw => absurd ⟨v, n, hw⟩ q))
  obtain ⟨v, ⟨n, hn⟩, hl⟩ := pk_least (fun v => ∃ n, wa N op c nb b n z v) hex
  have hle : ∀ m u, wa N op c nb b m z u → v ≤ u := fun m u hu => by
    rcases Nat.lt_or_ge u v with q | q
    · exact absurd ⟨m, hu⟩ (hl u q)
    · exact q
  have hlt : v < R z := by
    rcases Nat.lt_or_ge v (R z) with q | q
    · exact q
    · exact absurd (fun _ m u hu => Nat.le_trans q (hle m u hu)) h
  exact fin_next hb n z v hz ho hn hle hlt
noncomputable def finB (N : Nat) (op : Nat → Bool) (c : Nat → Nat) (nb : Nat → Nat → Nat) (b : Nat) (R : Nat → Nat) (z : Nat) : Bool := @decide (fin N op c nb b R z) (Classical.propDecidable _)
theorem finB_iff {R : Nat → Nat} {z : Nat} : finB N op c nb b R z = true ↔ fin N op c nb b R z := by
  unfold finB
  exact @decide_eq_true_iff _ (Classical.propDecidable _)
theorem fin_mono {R T : Nat → Nat} (h : ∀ i, T i ≤ R i) {z : Nat} (hf : fin N op c nb b R z) : fin N op c nb b T z := fun ho n v hw => Nat.le_trans (h z) (hf ho n v hw)
theorem cnt_mono {p r : Nat → Bool} {n : Nat} (h : ∀ k, k < n → p k = true → r k = true) : cnt p n ≤ cnt r n := by
  induction n with
  | zero => exact Nat.le_refl _
  | succ n ih =>
    rw [cnt_s, cnt_s]
    have := ih (fun k hk => h k (by omega))
    cases hp : p n with
    | false => simp; omega
    | true => rw [h n (by omega) hp]; simp; omega
theorem cnt_lt {p r : Nat → Bool} {n k : Nat} (h : ∀ k, k < n → p k = true → r k = true) (hk : k < n) (h1 : p k = false) (h2 : r k = true) : cnt p n < cnt r n := by
  induction n with
  | zero => omega
  | succ n ih =>
    rw [cnt_s, cnt_s]
    by_cases e : k = n
    · subst e
      have := cnt_mono (p := p) (r := r) (n := k) (fun j hj => h j (by omega))
      rw [h1, h2]
      simp
      omega
    · have := ih (fun j hj => h j (by omega)) (by omega)
      cases hp : p n with
      | false => simp; omega
      | true => rw [h n (by omega) hp]; simp; omega
theorem cnt_all {p : Nat → Bool} {n : Nat} (h : n ≤ cnt p n) : ∀ k, k < n → p k = true := by
  intro k hk
  cases hp : p k with
  | true => rfl
  | false =>
    have h1 := cnt_lt (p := p) (r := fun _ => true) (n := n) (fun _ _ _ => rfl) hk hp rfl
    have h2 := cnt_le (fun _ => true) n
    omega
theorem nodup_len : ∀ (n : Nat) (l : List Nat), l.Nodup → (∀ z, z ∈ l → z < n) → l.length ≤ n
  | 0, l, _, h => by
    cases l with
    | nil => exact Nat.le_refl _
    | cons x q => exact absurd (h x List.mem_cons_self) (Nat.not_lt_zero _)
  | n + 1, l, hn, h => by
    by_cases hm : n ∈ l
    · have h1 := nodup_len n (l.erase n) (hn.erase n) (fun z hz => by
        have h2 := (hn.mem_erase_iff).mp hz
        have h3 := h z h2.2
        have h4 := h2.1
        omega)
      rw [List.length_erase_of_mem hm] at h1
      omega
    · exact Nat.le_trans (nodup_len n l hn (fun z hz => by
        have h3 := h z hz
        rcases Nat.lt_or_ge z n with q | q
        · exact q
        · have : z = n := by omega
          subst this
          exact absurd hz hm)) (Nat.le_succ _)
end
