/-! the first land is the reference's -/
def ro0 : Nat → Int32 := upd (fun _ => 0) 0 5
def mp0 : Nat → Int32 := upd (fun _ => 0) 0 2
def my0 : Nat → Int32 := upd (upd (fun _ => 0) (5 * 0 + 0) 4) (5 * 0 + 1) 6
def md0 : Nat → Int32 := upd (upd (fun _ => 0) (5 * 0 + 0) 2) (5 * 0 + 1) 2
def mr0 : Nat → Int32 := upd (upd (fun _ => 0) (5 * 0 + 0) 2) (5 * 0 + 1) 3
def nw0 : Nat → Int32 := (upd (upd (upd (upd (upd (upd (upd (upd (upd (upd (upd (upd (upd (upd (upd (upd (upd (upd (upd (upd (upd (upd (upd (upd (upd (fun _ => 0) (2 + 0) 6) (12 + 0) 0) (22 + 0) 3) (32 + 0) 0) (2 + 1) 7) (12 + 1) 1) (22 + 1) 100000) (32 + 1) 1) (2 + 2) 12) (12 + 2) 0) (22 + 2) 5) (32 + 2) 0) (2 + 3) 17) (12 + 3) 2) (22 + 3) 4) (32 + 3) 2) (2 + 4) 18) (12 + 4) 0) (22 + 4) 9) (32 + 4) 3) (2 + 5) 3) (12 + 5) 0) (22 + 5) 6) (32 + 5) 1) 1 6)
theorem nw0_all : ∀ k, k < 6 → nw0 (0 + 2 + k) = nI (fC.getD k 0) ∧ nw0 (0 + 12 + k) = nI (fB.getD k 0) ∧ nw0 (0 + 22 + k) = fM (nI (fF.getD k 0)) ∧ nw0 (0 + 32 + k) = nI (fK.getD k 0) := by decide +kernel
theorem f_all : ∀ k, k < 6 → fC.getD k 0 < 5 * 5 ∧ fB.getD k 0 ≤ 99 ∧ (fF.getD k 0 ≤ 99 ∨ fF.getD k 0 = 1000) ∧ fK.getD k 0 ≤ 3 := by decide
theorem f_inj : ∀ k, k < 6 → ∀ j, j < 6 → fC.getD k 0 = fC.getD j 0 → k = j := by decide
theorem init_T : TeR (sgF 72) 0 (fun _ => 0) 0 := ⟨by omega, rfl, fun p hp => absurd hp (Nat.not_lt_zero _), sgF_nar 72⟩
theorem init_G : GrR raF.2.1 raF.2.2.1 (va_cpy raF.2.2.2.2.2.2.2.2.1 (fun _ => 0) 0 0 5) (va_cpy raF.2.2.2.2.2.2.2.2.2.1 (fun _ => 0) 0 0 5) (va_cpy raF.2.2.2.2.2.2.2.2.2.2.1 (fun _ => 0) 0 0 5) raF.2.2.2.2.2.2.2.2.2.2.2.1 ro0 ro0 mp0 my0 md0 mr0 := by
  have h2 := raF_1.2.2.2.2
  refine ⟨by rw [raF_1.2.1]; decide, by rw [raF_1.2.2.1]; decide, by rw [raF_1.2.1]; rfl, by rw [raF_1.2.2.1]; rfl, by rw [h2]; rfl, by rw [h2]; decide, fun k hk => ?_, fun k hk => ?_⟩
  · rw [h2] at hk
    obtain ⟨a1, a2, a3⟩ := raF_3 k hk
    rw [cpy5 _ _ (by omega), cpy5 _ _ (by omega), cpy5 _ _ (by omega), a1, a2, a3]
    rcases (show k = 0 ∨ k = 1 by omega) with rfl | rfl
    · exact ⟨⟨4, by decide, rfl⟩, ⟨2, by decide, rfl⟩, ⟨2, by decide, rfl⟩⟩
    · exact ⟨⟨6, by decide, rfl⟩, ⟨2, by decide, rfl⟩, ⟨3, by decide, rfl⟩⟩
  · rw [h2] at hk
    obtain ⟨a1, a2, a3⟩ := raF_3 k hk
    rw [cpy5 _ _ (by omega), cpy5 _ _ (by omega), cpy5 _ _ (by omega), a1, a2, a3]
    rcases (show k = 0 ∨ k = 1 by omega) with rfl | rfl
    · exact ⟨rfl, rfl, rfl⟩
    · exact ⟨rfl, rfl, rfl⟩
theorem init_M : MoR raF.2.1 raF.2.2.1 (va_cpy raF.2.2.2.1 (fun _ => 0) 0 0 10) (va_cpy raF.2.2.2.2.1 (fun _ => 0) 0 0 10) (va_cpy raF.2.2.2.2.2.1 (fun _ => 0) 0 0 10) (va_cpy raF.2.2.2.2.2.2.1 (fun _ => 0) 0 0 10) raF.2.2.2.2.2.2.2.1 0 nw0 0 := by
  have h6 := raF_1.2.2.2.1
  refine MoR_cpy ⟨by rw [h6]; decide, by rw [h6]; rfl, rfl, ⟨0, by decide, rfl⟩, ?_, fun k hk => ?_, fun k hk => ?_⟩
  · rw [h6, raF_1.2.1, raF_1.2.2.1]
    refine ⟨fun k hk => ⟨_, (f_all k hk).1, (raF_2 k hk).1⟩, fun k j hk hj e => ?_, fun k hk => ⟨_, (f_all k hk).2.1, (raF_2 k hk).2.1⟩, fun k hk => ⟨_, (by rcases (f_all k hk).2.2.1 with z | z <;> omega), (raF_2 k hk).2.2.1⟩, fun k hk => ⟨_, (f_all k hk).2.2.2, (raF_2 k hk).2.2.2⟩⟩
    rw [(raF_2 k hk).1, (raF_2 j hj).1] at e
    exact f_inj k hk j hj ((nI_eq (by have := (f_all k hk).1; omega) (by have := (f_all j hj).1; omega)).mp e)
  · rw [h6] at hk
    exact ⟨_, (f_all k hk).2.2.1, (raF_2 k hk).2.2.1⟩
  · rw [h6] at hk
    obtain ⟨b1, b2, b3, b4⟩ := nw0_all k hk
    obtain ⟨a1, a2, a3, a4⟩ := raF_2 k hk
    refine ⟨?_, ?_, ?_, ?_⟩
    · rw [a1]; exact b1
    · rw [a2]; exact b2
    · rw [a3]; exact b3
    · rw [a4]; exact b4
section CSK
variable {p : Program} {l : Launch} {e : Env} {R : Room} {s : State} {m : MethodId} {args : Array Value} {below : List Frame} {meth : Method} {c : Code} {H : Heap} {locs : List Loc} {cells slots : Nat} {Q : State → Prop}
variable {cc cc' : ByteArray} {pc nL nL' n idx : Nat} {ls : Array Slot} {rest As : List Value} {G : Gv} {own C : String} {y : MethodName} {ret : Option FieldType} {rm : Room} {wc : va_W} {b : Nat}
theorem cs_callK {post : Option Value → va_W → Prop} {ws wr : va_W} {A : Nat → Prop} (hx : p.tables.exec = Jvm.exec) (hb : c.code = cc) (hml : c.maxLocals = nL) (hown : s.vm.findClass own = some m.cls) (hts : ∀ w ∈ wsL_law, w.before args s = true) (hE : Ev G A s s.heap) (hV : Sv G A s s.heap) (hVR : vk_R RX9 63 tFL (G.2.2 2) s) (hA : ∀ q : Nat, s.heap.size ≤ q → A q) (hsz : ls.size = nL)
    (hP : va_P G.1 vwCl ws H) (hD : va_D A ws) (hS : va_S A s.heap H locs)
    (hC : Cts l y cc' nL' none rm G (.ref b :: As) wc post) (hw : Ci own idx y cc' nL' n args s) (hR : rm.frames + 1 ≤ R.frames ∧ 8 + (nL' + 11) + rm.locals ≤ R.locals) (hf : cells + rm.cells ≤ R.cells ∧ slots + rm.slots ≤ R.slots) (hn : As.length = n) (isC isR : List Nat) (hiC : isC.map (fun i => ws[i]?) = wc.map some) (hiR : isR.map (fun i => ws[i]?) = wr.map some) (hd : va_nd isC = true ∧ va_nd isR = true ∧ (isR.all (fun i => !(isC.contains i))) = true)
    {st0 : List Value} (hst : st0 = As.reverse ++ .ref b :: rest) (hro : (rest.map fun v => v.category).sum ≤ 8) (hdg : decode cc pc = .ok (.invokespecial idx, 3))
    (kk : ∀ (v : Option Value) (w : va_W) (H1 : Heap) (locs1 : List Loc), post v w → va_P G.1 vwCl (wr ++ w) H1 → va_D A (wr ++ w) → va_S A s.heap H1 locs1 → W p l e R s m args below meth c H1 locs1 (cells + rm.cells) (slots + rm.slots) Q (F0 m (pc + 3) ls (v.toList ++ rest))) : W p l e R s m args below meth c H locs cells slots Q (F0 m pc ls st0) := by
  subst hst
  have hF := va_free (wc := wc) hD hS hA isC hiC
  exact ct_back (va_runI (As := As) (rest := rest) ⟨hx, hb, hml, hown, hts⟩ (hC H.size) (ci_of hw hts hR) ⟨pcs_blind, fun U hU hW => by
    obtain ⟨h1, h2⟩ := pct_of (av := .ref b :: As) hP hD hS hA hE isC hiC hd.1 hU hW
    refine ⟨h1, h2, ?_, vk_R.warm hW hVR⟩
    rw [hU]
    exact ((hV.kept hS.2.1).narrow hF).moved hW.alike⟩ rfl hn hsz rfl (lv_room hro) hdg hf) hP hD hS hA isC isR hiC hiR hd.2.1 hd.2.2 kk
end CSK
def νF (L : List Nat) : Nat → Nat := fun k => L.getD k 0
