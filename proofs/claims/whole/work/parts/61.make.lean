/-! making: rows of objects and arrays in the environment of a method -/
abbrev rmc (f c s L : Nat) : Room := { frames := f, cells := c, slots := s, locals := L }
theorem tyI_eq {G : Gv} {s : State} {cA : ClassId} (h : va_K G.1 vwCl (tysG G ++ [(cA, .int)]) s) : cA = kI G :=
  Option.some.inj ((show s.vm.findClass ("[" ++ FieldType.int.toString) = some cA from (h.2 4 (cA, .int) rfl).2).symm.trans (show s.vm.findClass ("[" ++ FieldType.int.toString) = some (kI G) from (h.2 0 (kI G, .int) rfl).2))
theorem tyC_eq {G : Gv} {s : State} {cA : ClassId} (h : va_K G.1 vwCl (tysG G ++ [(cA, .char)]) s) : cA = kC G :=
  Option.some.inj ((show s.vm.findClass ("[" ++ FieldType.char.toString) = some cA from (h.2 4 (cA, .char) rfl).2).symm.trans (show s.vm.findClass ("[" ++ FieldType.char.toString) = some (kC G) from (h.2 1 (kC G, .char) rfl).2))
theorem tyB_eq {G : Gv} {s : State} {cA : ClassId} (h : va_K G.1 vwCl (tysG G ++ [(cA, .byte)]) s) : cA = kB G :=
  Option.some.inj ((show s.vm.findClass ("[" ++ FieldType.byte.toString) = some cA from (h.2 4 (cA, .byte) rfl).2).symm.trans (show s.vm.findClass ("[" ++ FieldType.byte.toString) = some (kB G) from (h.2 2 (kB G, .byte) rfl).2))
theorem tyM_eq {G : Gv} {s : State} {cA : ClassId} (h : va_K G.1 vwCl (tysG G ++ [(cA, .object "OnlyWhatIsLost$Moment")]) s) : cA = kM G := by
  obtain ⟨_, _, _, _, _, h1⟩ := (show va_RA s cA (.object "OnlyWhatIsLost$Moment") from (h.2 4 (cA, .object "OnlyWhatIsLost$Moment") rfl).2)
  obtain ⟨_, _, _, _, _, h2⟩ := (show va_RA s (kM G) (.object "OnlyWhatIsLost$Moment") from (h.2 3 (kM G, .object "OnlyWhatIsLost$Moment") rfl).2)
  exact Option.some.inj (h1.symm.trans h2)
section MAKE
variable {p : Program} {l : Launch} {e : Env} {R : Room} {s : State} {m : MethodId} {args : Array Value} {below : List Frame} {meth : Method} {c : Code} {H : Heap} {locs : List Loc} {cells slots : Nat} {Q : State → Prop}
variable {cc : ByteArray} {pc : Nat} {ls : Array Slot} {rest : List Value} {G : Gv} {A : Nat → Prop} {ws : va_W}
theorem ct_newI (hx : p.tables.exec = Jvm.exec) (hb : c.code = cc) (hac : (Cond.arrayClass .int).before args s = true) (hE : Ev G A s s.heap) (hP : va_P G.1 vwCl ws H) (hD : va_D A ws) (hS : va_S A s.heap H locs) (hA : ∀ q : Nat, s.heap.size ≤ q → A q) {n : Int32} {N : Nat} (hn : ¬ n < 0) (hN : n.toNatClampNeg = N) (hby : N * componentBytes .int ≤ 536870912) (hcells : cells + 1 ≤ R.cells) (hslots : slots + N ≤ R.slots) (hdg : decode cc pc = .ok (.newarray .int, 2))
    (kk : ∀ (q : Nat) (H1 : Heap), va_P G.1 vwCl (ws ++ [(q, .inl (kI G, N, .inl (fun _ => 0)))]) H1 → va_D A (ws ++ [(q, .inl (kI G, N, .inl (fun _ => 0)))]) → va_S A s.heap H1 locs → W p l e R s m args below meth c H1 locs (cells + 1) (slots + N) Q (F0 m (pc + 2) ls (.ref q :: rest))) : W p l e R s m args below meth c H locs cells slots Q (F0 m pc ls (.int n :: rest)) :=
  va_newa (atype := .int) (a0 := (N, .inl (fun _ => 0))) hx hb hac rfl hE.1 hP hD hS hA (fun _ => rfl) hn hN hby hcells hslots hdg (fun q cA H1 hK hP hD hS => by
    have e := tyI_eq hK
    subst e
    exact kk q H1 hP hD hS)
theorem ct_newC (hx : p.tables.exec = Jvm.exec) (hb : c.code = cc) (hac : (Cond.arrayClass .char).before args s = true) (hE : Ev G A s s.heap) (hP : va_P G.1 vwCl ws H) (hD : va_D A ws) (hS : va_S A s.heap H locs) (hA : ∀ q : Nat, s.heap.size ≤ q → A q) {n : Int32} {N : Nat} (hn : ¬ n < 0) (hN : n.toNatClampNeg = N) (hby : N * componentBytes .char ≤ 536870912) (hcells : cells + 1 ≤ R.cells) (hslots : slots + N ≤ R.slots) (hdg : decode cc pc = .ok (.newarray .char, 2))
    (kk : ∀ (q : Nat) (H1 : Heap), va_P G.1 vwCl (ws ++ [(q, .inl (kC G, N, .inl (fun _ => 0)))]) H1 → va_D A (ws ++ [(q, .inl (kC G, N, .inl (fun _ => 0)))]) → va_S A s.heap H1 locs → W p l e R s m args below meth c H1 locs (cells + 1) (slots + N) Q (F0 m (pc + 2) ls (.ref q :: rest))) : W p l e R s m args below meth c H locs cells slots Q (F0 m pc ls (.int n :: rest)) :=
  va_newa (atype := .char) (a0 := (N, .inl (fun _ => 0))) hx hb hac rfl hE.1 hP hD hS hA (fun _ => rfl) hn hN hby hcells hslots hdg (fun q cA H1 hK hP hD hS => by
    have e := tyC_eq hK
    subst e
    exact kk q H1 hP hD hS)
theorem ct_newB (hx : p.tables.exec = Jvm.exec) (hb : c.code = cc) (hac : (Cond.arrayClass .byte).before args s = true) (hE : Ev G A s s.heap) (hP : va_P G.1 vwCl ws H) (hD : va_D A ws) (hS : va_S A s.heap H locs) (hA : ∀ q : Nat, s.heap.size ≤ q → A q) {n : Int32} {N : Nat} (hn : ¬ n < 0) (hN : n.toNatClampNeg = N) (hby : N * componentBytes .byte ≤ 536870912) (hcells : cells + 1 ≤ R.cells) (hslots : slots + N ≤ R.slots) (hdg : decode cc pc = .ok (.newarray .byte, 2))
    (kk : ∀ (q : Nat) (H1 : Heap), va_P G.1 vwCl (ws ++ [(q, .inl (kB G, N, .inl (fun _ => 0)))]) H1 → va_D A (ws ++ [(q, .inl (kB G, N, .inl (fun _ => 0)))]) → va_S A s.heap H1 locs → W p l e R s m args below meth c H1 locs (cells + 1) (slots + N) Q (F0 m (pc + 2) ls (.ref q :: rest))) : W p l e R s m args below meth c H locs cells slots Q (F0 m pc ls (.int n :: rest)) :=
  va_newa (atype := .byte) (a0 := (N, .inl (fun _ => 0))) hx hb hac rfl hE.1 hP hD hS hA (fun _ => rfl) hn hN hby hcells hslots hdg (fun q cA H1 hK hP hD hS => by
    have e := tyB_eq hK
    subst e
    exact kk q H1 hP hD hS)
theorem ct_newM (hx : p.tables.exec = Jvm.exec) (hb : c.code = cc) {own : String} {index : Nat} (hown : s.vm.findClass own = some m.cls) (hcl : (Cond.classLink own index "OnlyWhatIsLost$Moment").before args s = true) (hE : Ev G A s s.heap) (hP : va_P G.1 vwCl ws H) (hD : va_D A ws) (hS : va_S A s.heap H locs) (hA : ∀ q : Nat, s.heap.size ≤ q → A q) {n : Int32} {N : Nat} (hn : ¬ n < 0) (hN : n.toNatClampNeg = N) (hby : N * 4 ≤ 536870912) (hcells : cells + 1 ≤ R.cells) (hslots : slots + N ≤ R.slots) (hdg : decode cc pc = .ok (.anewarray index, 3))
    (kk : ∀ (q : Nat) (H1 : Heap), va_P G.1 vwCl (ws ++ [(q, .inl (kM G, N, .inr (.inr (.inr (.inr (fun _ => none))))))]) H1 → va_D A (ws ++ [(q, .inl (kM G, N, .inr (.inr (.inr (.inr (fun _ => none))))))]) → va_S A s.heap H1 locs → W p l e R s m args below meth c H1 locs (cells + 1) (slots + N) Q (F0 m (pc + 3) ls (.ref q :: rest))) : W p l e R s m args below meth c H locs cells slots Q (F0 m pc ls (.int n :: rest)) :=
  va_newq hx hb hown hcl hE.2.2.1 hE.1 hP hD hS hA hn hN hby hcells hslots hdg (fun q cA H1 hK hP hD hS => by
    have e := tyM_eq hK
    subst e
    exact kk q H1 hP hD hS)
/-- an array of moments is told by its places alone -/
theorem vp_q_cong (cA : ClassId) (n : Nat) {f g : Nat → Option Nat} (h : ∀ i, i < n → f i = g i) : vp_cell cA (n, .inr (.inr (.inr (.inr f)))) = vp_cell cA (n, .inr (.inr (.inr (.inr g)))) := by
  rw [vp_cell_q, vp_cell_q]
  unfold arrV
  congr 1
  congr 1
  funext j
  show va_rf (f j.val) = va_rf (g j.val)
  rw [h j.val j.isLt]
theorem set_P {k : Nat} {a : Nat} {cA : ClassId} {n : Nat} {f g : Nat → Option Nat} (hP : va_P G.1 vwCl ws H) (hD : va_D A ws) (hk : ws[k]? = some (a, .inl (cA, n, .inr (.inr (.inr (.inr f)))))) (h : ∀ i, i < n → f i = g i) : va_P G.1 vwCl (ws.set k (a, .inl (cA, n, .inr (.inr (.inr (.inr g)))))) H ∧ va_D A (ws.set k (a, .inl (cA, n, .inr (.inr (.inr (.inr g)))))) :=
  ⟨hP.set hD hk (by
    show H[a]? = some (vp_cell cA (n, .inr (.inr (.inr (.inr g)))))
    rw [← vp_q_cong cA n h]
    exact hP k _ hk) (fun q _ => rfl), hD.set hk⟩
end MAKE
