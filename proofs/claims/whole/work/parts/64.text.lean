/-! the text constant of the class, and the JDK's own methods over it -/
def bFL : List Int32 := [116, 54, 44, 48, 44, 51, 44, 48, 59, 116, 55, 44, 49, 44, 57, 57, 44, 49, 59, 116, 49, 50, 44, 48, 44, 53, 44, 48, 59, 116, 49, 55, 44, 50, 44, 52, 44, 50, 59, 116, 49, 56, 44, 48, 44, 57, 44, 51, 59, 116, 51, 44, 48, 44, 54, 44, 49, 59, 109, 52, 44, 50, 44, 50, 59, 109, 54, 44, 50, 44, 51, 59]
def tFL : String := "t6,0,3,0;t7,1,99,1;t12,0,5,0;t17,2,4,2;t18,0,9,3;t3,0,6,1;m4,2,2;m6,2,3;"
def Sv (G : Gv) (A : Nat → Prop) (U : State) (H : Heap) : Prop := vk_S 1 [72] [bFL] (fun _ => G.2.2 2) (fun _ => G.2.2 3) A U H ∧ va_Z "java/lang/String" "COMPACT_STRINGS" "Z" (.int 1) A U H ∧ (va_Z "jdk/internal/util/Preconditions" "SIOOBE_FORMATTER" "Ljava/util/function/BiFunction;" .null A U H ∨ ∃ a : Nat, va_Z "jdk/internal/util/Preconditions" "SIOOBE_FORMATTER" "Ljava/util/function/BiFunction;" (.ref a) A U H)
theorem Sv.moved {G : Gv} {A : Nat → Prop} {u U : State} {H : Heap} (hvm : u.vm.Alike U.vm) (h : Sv G A u H) : Sv G A U H := ⟨h.1.moved hvm, h.2.1.moved hvm, h.2.2.elim (fun z => Or.inl (z.moved hvm)) (fun ⟨a, z⟩ => Or.inr ⟨a, z.moved hvm⟩)⟩
theorem Sv.kept {G : Gv} {A : Nat → Prop} {U : State} {H H1 : Heap} (h : Sv G A U H) (hq : ∀ a : Nat, a < H.size → ¬ A a → H1[a]? = H[a]?) : Sv G A U H1 := ⟨h.1.kept hq, h.2.1.kept hq, h.2.2.elim (fun z => Or.inl (z.kept hq)) (fun ⟨a, z⟩ => Or.inr ⟨a, z.kept hq⟩)⟩
theorem Sv.narrow {G : Gv} {A B : Nat → Prop} {U : State} {H : Heap} (h : Sv G A U H) (hAB : ∀ q, B q → A q) : Sv G B U H := ⟨h.1.narrow hAB, h.2.1.narrow hAB, h.2.2.elim (fun z => Or.inl (z.narrow hAB)) (fun ⟨a, z⟩ => Or.inr ⟨a, z.narrow hAB⟩)⟩
def Qrj (ov : Option Value) : Array Value → State → Outcome → State → Prop := fun _ st o t => o = .returned ov ∧ t.heap = st.heap
def Prj (G : Gv) (U : State) : Prop := Sv G (fun _ => False) U U.heap
def Rj (l : Launch) (y : MethodName) (cc : ByteArray) (nL : Nat) (ret : Option FieldType) (rm : Room) (G : Gv) (av : List Value) (ov : Option Value) : Prop :=
  Met l y (Cond.code y cc nL ret :: wsL_law) rm (va_Pc av (Prj G)) (Qrj ov) 0 0 (fun _ => False)
theorem prj_blind {G : Gv} {av : List Value} : FrameBlind (va_Pc av (Prj G)) := fun a U g mk q => by
  obtain ⟨q0, qS⟩ := q
  exact ⟨q0, (Sv.moved (u := U) (U := U.calling g mk a) (Vm.Alike.refl U.vm) qS : Sv G _ (U.calling g mk a) U.heap)⟩
abbrev WJ (p : Program) (l : Launch) (e : Env) (rm : Room) (s : State) (m : MethodId) (av : List Value) (below : List Frame) (meth : Method) (c : Code) (ov : Option Value) (g : JFrame) : Prop :=
  W p l e rm s m av.toArray below meth c s.heap [] 0 0 (MQ below (Qrj ov) av.toArray s 0 0 (fun _ => False)) g
theorem Rj.ofW {l : Launch} {y : MethodName} {cc : ByteArray} {nL : Nat} {ret : Option FieldType} {rm : Room} {G : Gv} {av : List Value} {ov : Option Value} (hy : plainName y.cls = true) (hn : (lg_sl av).length ≤ nL)
    (body : ∀ (p : Program) (e : Env) (s : State) (m : MethodId) (below : List Frame) (meth : Method) (c : Code) (ls : Array Slot), p.tables.exec = Jvm.exec → c.code = cc → c.maxLocals = nL → meth.sig.returnType = ret → s.vm.findClass y.cls = some m.cls → (∀ w ∈ wsL_law, w.before av.toArray s = true) → meth.locks = false → Sv G (fun _ => False) s s.heap → lv_has ls nL (lv_args 0 av) → WJ p l e rm s m av below meth c ov (F0 m 0 ls [])) :
    Rj l y cc nL ret rm G av ov := by
  refine Met.ofW (cc := cc) (maxL := nL) (ret := ret) hy rfl ?_
  intro p e s m args below meth c s₁ B hml hv
  obtain ⟨rfl, hV⟩ := hv
  have hts := atoms_spec (ws := Cond.code y cc nL ret :: wsL_law) B.pre
  rw [lg_entry_eq]
  exact body p e s m below meth c _ B.exec B.bytes hml B.returns (findClass_of_methodNamed B.named) (fun w h => hts w (List.mem_cons_of_mem _ h)) B.notSynchronized hV (lv_entry av hn)
section JCALL
variable {p : Program} {l : Launch} {e : Env} {R : Room} {s : State} {m : MethodId} {args : Array Value} {below : List Frame} {meth : Method} {c : Code} {H : Heap} {locs : List Loc} {cells slots : Nat} {Q : State → Prop}
variable {cc cc' : ByteArray} {pc nL nL' n idx : Nat} {ls : Array Slot} {rest As : List Value} {G : Gv} {own : String} {y : MethodName} {ret : Option FieldType}
theorem rj_back {ov : Option Value} {a : Array Value} {g : JFrame} (hr : va_Run p l e R s m args below meth c H locs cells slots 0 0 g rest (Qrj ov a) (fun _ => False)) (kk : W p l e R s m args below meth c H locs cells slots Q { g with pc := g.pc + 3, stack := ov.toList ++ rest }) : W p l e R s m args below meth c H locs cells slots Q g := by
  intro T hT X
  obtain ⟨v', st₀, t, T', L, h0, X', hL, e1, e2, ⟨hv, hh⟩, st⟩ := hr T hT X
  cases hv
  obtain ⟨t2, a1, b1⟩ := kk T' (by rw [e1, hh, h0]) (Stand.forget X' (fun q h => (hL q h).elim))
  exact ⟨t2, st t2 a1, b1⟩
theorem rj_callV {ov : Option Value} {f' L' : Nat} (hx : p.tables.exec = Jvm.exec) (hb : c.code = cc) (hml : c.maxLocals = nL) (hown : s.vm.findClass own = some m.cls) (hts : ∀ w ∈ wsL_law, w.before args s = true) (hV : Sv G (fun _ => False) s H) (hsz : ls.size = nL)
    (hC : Rj l y cc' nL' ret (rmz f' L') G (.ref (G.2.2 2) :: As) ov) (hw : Cw own idx "java/lang/String" y cc' nL' ret n args s) (hR : f' + 1 ≤ R.frames ∧ 8 + (nL' + 11) + L' ≤ R.locals) (hf : cells ≤ R.cells ∧ slots ≤ R.slots) (hn : As.length = n)
    {st0 : List Value} (hst : st0 = As.reverse ++ .ref (G.2.2 2) :: rest) (hro : (rest.map fun v => v.category).sum ≤ 8) (hdg : decode cc pc = .ok (.invokevirtual idx, 3))
    (kk : W p l e R s m args below meth c H locs cells slots Q (F0 m (pc + 3) ls (ov.toList ++ rest))) : W p l e R s m args below meth c H locs cells slots Q (F0 m pc ls st0) := by
  subst hst
  have hrc : ∃ cell : Cell, H[G.2.2 2]? = some cell ∧ cell.vm.isStatics = false ∧ s.vm.findClass "java/lang/String" = some cell.cls := by
    obtain ⟨cell, h1, h2, h3, -⟩ := (hV.1.1 0 (by decide)).1
    exact ⟨cell, h1, h2, h3⟩
  exact rj_back (va_runV (As := As) (rest := rest) ⟨hx, hb, hml, hown, hts⟩ hC (cw_of (rm := rmz f' L') hw hts hR) ⟨prj_blind, hrc, fun U hU hW => ⟨rfl, by show Sv G _ U U.heap; rw [hU]; exact hV.moved hW.alike⟩⟩ rfl hn hsz rfl (lv_room hro) hdg hf) kk
theorem rj_callS {ov : Option Value} {f' L' : Nat} (hx : p.tables.exec = Jvm.exec) (hb : c.code = cc) (hml : c.maxLocals = nL) (hown : s.vm.findClass own = some m.cls) (hts : ∀ w ∈ wsL_law, w.before args s = true) (hV : Sv G (fun _ => False) s H) (hsz : ls.size = nL)
    (hC : Rj l y cc' nL' ret (rmz f' L') G As ov) (hw : Cs own idx y cc' nL' ret n args s) (hR : f' + 1 ≤ R.frames ∧ 8 + (nL' + 11) + L' ≤ R.locals) (hf : cells ≤ R.cells ∧ slots ≤ R.slots) (hn : As.length = n)
    {st0 : List Value} (hst : st0 = As.reverse ++ rest) (hro : (rest.map fun v => v.category).sum ≤ 8) (hdg : decode cc pc = .ok (.invokestatic idx, 3))
    (kk : W p l e R s m args below meth c H locs cells slots Q (F0 m (pc + 3) ls (ov.toList ++ rest))) : W p l e R s m args below meth c H locs cells slots Q (F0 m pc ls st0) := by
  subst hst
  exact rj_back (va_runS (As := As) (rest := rest) ⟨hx, hb, hml, hown, hts⟩ hC (cs_of (rm := rmz f' L') hw hts hR) ⟨prj_blind, fun U hU hW => ⟨rfl, by show Sv G _ U U.heap; rw [hU]; exact hV.moved hW.alike⟩⟩ rfl hn hsz rfl (lv_room hro) hdg hf) kk
end JCALL
set_option maxHeartbeats 4000000 in
set_option maxRecDepth 100000 in
theorem c_J3_check0 (l : Launch) (G : Gv) (k : Nat) (hk : k < 72) : Rj l yJ3_checkIndex_8e157 cJ3_checkIndex_8e157 3 (some .int) (rmz 0 0) G [.int (nI k), .int 72, .null] (some (.int (nI k))) := by
  refine Rj.ofW (by decide) (Nat.le_of_ble_eq_true rfl) ?_
  intro p e s m below meth c ls hx hb hml hr hown hts hlk hV hl
  have hl : lv_has ls 3 [(0, .int (nI k)), (1, .int 72), (2, .null)] := hl
  refine lv_iload_n hx hb dJ3_checkIndex_8e157_0 rfl (lv_at hl 0 rfl) ?_
  refine lv_if_lt (tgt := 9) hx hb dJ3_checkIndex_8e157_1 (by decide) (fun c1 => absurd c1 (nI_pos (by omega))) (fun c1 => ?_)
  refine lv_iload_n hx hb dJ3_checkIndex_8e157_4 rfl (lv_at hl 0 rfl) ?_
  refine lv_iload_n hx hb dJ3_checkIndex_8e157_5 rfl (lv_at hl 1 rfl) ?_
  refine lv_icmp_lt (tgt := 16) hx hb dJ3_checkIndex_8e157_6 (by decide) (fun c2 => ?_) (fun c2 => absurd (show nI k < nI 72 from nI_lt hk (by decide)) c2)
  refine lv_iload_n hx hb dJ3_checkIndex_8e157_16 rfl (lv_at hl 0 rfl) ?_
  exact W.iret hx hb hr (fun t ht _ => ⟨rfl, ht⟩) (fun _ h => by cases h) dJ3_checkIndex_8e157_17 hlk
set_option maxHeartbeats 4000000 in
set_option maxRecDepth 100000 in
theorem c_J3_check1 (l : Launch) (G : Gv) (a : Nat) (k : Nat) (hk : k < 72) : Rj l yJ3_checkIndex_8e157 cJ3_checkIndex_8e157 3 (some .int) (rmz 0 0) G [.int (nI k), .int 72, .ref a] (some (.int (nI k))) := by
  refine Rj.ofW (by decide) (Nat.le_of_ble_eq_true rfl) ?_
  intro p e s m below meth c ls hx hb hml hr hown hts hlk hV hl
  have hl : lv_has ls 3 [(0, .int (nI k)), (1, .int 72), (2, .ref a)] := hl
  refine lv_iload_n hx hb dJ3_checkIndex_8e157_0 rfl (lv_at hl 0 rfl) ?_
  refine lv_if_lt (tgt := 9) hx hb dJ3_checkIndex_8e157_1 (by decide) (fun c1 => absurd c1 (nI_pos (by omega))) (fun c1 => ?_)
  refine lv_iload_n hx hb dJ3_checkIndex_8e157_4 rfl (lv_at hl 0 rfl) ?_
  refine lv_iload_n hx hb dJ3_checkIndex_8e157_5 rfl (lv_at hl 1 rfl) ?_
  refine lv_icmp_lt (tgt := 16) hx hb dJ3_checkIndex_8e157_6 (by decide) (fun c2 => ?_) (fun c2 => absurd (show nI k < nI 72 from nI_lt hk (by decide)) c2)
  refine lv_iload_n hx hb dJ3_checkIndex_8e157_16 rfl (lv_at hl 0 rfl) ?_
  exact W.iret hx hb hr (fun t ht _ => ⟨rfl, ht⟩) (fun _ h => by cases h) dJ3_checkIndex_8e157_17 hlk
set_option maxHeartbeats 4000000 in
set_option maxRecDepth 100000 in
theorem c_J0_check (l : Launch) (G : Gv) (k : Nat) (hk : k < 72) : Rj l yJ0_checkIndex_df160 cJ0_checkIndex_df160 2 none (rmz 1 22) G [.int (nI k), .int 72] none := by
  refine Rj.ofW (by decide) (Nat.le_of_ble_eq_true rfl) ?_
  intro p e s m below meth c ls hx hb hml hr hown hts hlk hV hl
  have hl : lv_has ls 2 [(0, .int (nI k)), (1, .int 72)] := hl
  refine lv_iload_n hx hb dJ0_checkIndex_df160_0 rfl (lv_at hl 0 rfl) ?_
  refine lv_iload_n hx hb dJ0_checkIndex_df160_1 rfl (lv_at hl 1 rfl) ?_
  rcases hV.2.2 with hz | ⟨a, hz⟩
  · refine va_gets hx hb hz va_S.rf hown (fl_J0_1053 hts) (fun _ h9 => h9) dJ0_checkIndex_df160_2 ?_
    refine rj_callS (As := [.int (nI k), .int 72, .null]) (rest := []) hx hb hml hown hts hV hl.1 (c_J3_check0 l G k hk) (cs_J0_1059 hts) ⟨Nat.le_of_ble_eq_true rfl, Nat.le_of_ble_eq_true rfl⟩ ⟨Nat.zero_le _, Nat.zero_le _⟩ rfl rfl (Nat.le_of_ble_eq_true rfl) dJ0_checkIndex_df160_5 ?_
    refine lv_pop hx hb dJ0_checkIndex_df160_8 rfl ?_
    exact W.vret hx hb hr (fun t ht _ => ⟨rfl, ht⟩) (fun _ h => by cases h) dJ0_checkIndex_df160_9 hlk
  · refine va_gets hx hb hz va_S.rf hown (fl_J0_1053 hts) (fun _ h9 => h9) dJ0_checkIndex_df160_2 ?_
    refine rj_callS (As := [.int (nI k), .int 72, .ref a]) (rest := []) hx hb hml hown hts hV hl.1 (c_J3_check1 l G a k hk) (cs_J0_1059 hts) ⟨Nat.le_of_ble_eq_true rfl, Nat.le_of_ble_eq_true rfl⟩ ⟨Nat.zero_le _, Nat.zero_le _⟩ rfl rfl (Nat.le_of_ble_eq_true rfl) dJ0_checkIndex_df160_5 ?_
    refine lv_pop hx hb dJ0_checkIndex_df160_8 rfl ?_
    exact W.vret hx hb hr (fun t ht _ => ⟨rfl, ht⟩) (fun _ h => by cases h) dJ0_checkIndex_df160_9 hlk
/-- the sign at a place of the text -/
def chF (k : Nat) : Int32 := ((bFL.getD k 0 &&& 255).toUInt32 % 65536).toInt32
theorem chF_nar (k : Nat) (hk : k < 72) : narrow .char (.int (chF k)) = .int (chF k) := by
  show Value.int ((chF k).toUInt32.toUInt16.toUInt32.toInt32) = .int (chF k)
  rw [(show ∀ k, k < 72 → (chF k).toUInt32.toUInt16.toUInt32.toInt32 = chF k by decide +kernel) k hk]
set_option maxHeartbeats 4000000 in
set_option maxRecDepth 100000 in
theorem c_J1_charAt (l : Launch) (G : Gv) (k : Nat) (hk : k < 72) : Rj l yJ1_charAt_3b067 cJ1_charAt_3b067 2 (some .char) (rmz 2 44) G [.ref (G.2.2 3), .int (nI k)] (some (.int (chF k))) := by
  refine Rj.ofW (by decide) (Nat.le_of_ble_eq_true rfl) ?_
  intro p e s m below meth c ls hx hb hml hr hown hts hlk hV hl
  have hl : lv_has ls 2 [(0, .ref (G.2.2 3)), (1, .int (nI k))] := hl
  have hT := (hV.1.1 0 (by decide)).2.2.2
  refine lv_iload_n hx hb dJ1_charAt_3b067_0 rfl (lv_at hl 1 rfl) ?_
  refine lv_aload_n hx hb dJ1_charAt_3b067_1 rfl (lv_at hl 0 rfl) ?_
  refine va_tlen (v := 72) hx hb hT va_S.rf rfl dJ1_charAt_3b067_2 ?_
  refine rj_callS (As := [.int (nI k), .int 72]) (rest := []) hx hb hml hown hts hV hl.1 (c_J0_check l G k hk) (cs_J1_9 hts) ⟨Nat.le_of_ble_eq_true rfl, Nat.le_of_ble_eq_true rfl⟩ ⟨Nat.zero_le _, Nat.zero_le _⟩ rfl rfl (Nat.le_of_ble_eq_true rfl) dJ1_charAt_3b067_3 ?_
  refine lv_aload_n hx hb dJ1_charAt_3b067_6 rfl (lv_at hl 0 rfl) ?_
  refine lv_iload_n hx hb dJ1_charAt_3b067_7 rfl (lv_at hl 1 rfl) ?_
  refine va_tb (v := .int (bFL.getD k 0)) hx hb hT va_S.rf (vp_in_nI hk (by decide)) (by show Value.int (bFL.getD (nI k).toNatClampNeg 0) = _; rw [nI_clamp (by omega)]) dJ1_charAt_3b067_8 ?_
  refine lv_sipush (v := 255) hx hb dJ1_charAt_3b067_9 (by decide) ?_
  refine lv_iand hx hb dJ1_charAt_3b067_12 ?_
  refine lv_i2c hx hb dJ1_charAt_3b067_13 rfl ?_
  exact W.zret hx hb hr (chF_nar k hk) (fun t ht _ => ⟨rfl, ht⟩) (fun _ h => by cases h) dJ1_charAt_3b067_14 hlk
set_option maxHeartbeats 4000000 in
set_option maxRecDepth 100000 in
theorem c_J0_coder (l : Launch) (G : Gv) : Rj l yJ0_coder_7d493 cJ0_coder_7d493 1 (some .byte) (rmz 0 0) G [.ref (G.2.2 2)] (some (.int 0)) := by
  refine Rj.ofW (by decide) (Nat.le_of_ble_eq_true rfl) ?_
  intro p e s m below meth c ls hx hb hml hr hown hts hlk hV hl
  have hl : lv_has ls 1 [(0, .ref (G.2.2 2))] := hl
  refine va_gets hx hb hV.2.1 va_S.rf hown (fl_J0_38 hts) (fun _ h9 => h9) dJ0_coder_7d493_0 ?_
  refine lv_if_eq (tgt := 13) hx hb dJ0_coder_7d493_3 (by decide) (fun c1 => absurd c1 (by decide)) (fun c1 => ?_)
  refine lv_aload_n hx hb dJ0_coder_7d493_6 rfl (lv_at hl 0 rfl) ?_
  refine vk_getf hx hb (hV.1.1 0 (by decide)).2.1 va_S.rf hown (fl_J0_15 hts) (fun _ h9 => h9) dJ0_coder_7d493_7 ?_
  refine lv_goto (tgt := 14) hx hb dJ0_coder_7d493_10 (by decide) ?_
  exact W.zret hx hb hr rfl (fun t ht _ => ⟨rfl, ht⟩) (fun _ h => by cases h) dJ0_coder_7d493_14 hlk
set_option maxHeartbeats 4000000 in
set_option maxRecDepth 100000 in
theorem c_J0_latin (l : Launch) (G : Gv) : Rj l yJ0_isLatin1_aae02 cJ0_isLatin1_aae02 1 (some .boolean) (rmz 0 0) G [.ref (G.2.2 2)] (some (.int 1)) := by
  refine Rj.ofW (by decide) (Nat.le_of_ble_eq_true rfl) ?_
  intro p e s m below meth c ls hx hb hml hr hown hts hlk hV hl
  have hl : lv_has ls 1 [(0, .ref (G.2.2 2))] := hl
  refine va_gets hx hb hV.2.1 va_S.rf hown (fl_J0_38 hts) (fun _ h9 => h9) dJ0_isLatin1_aae02_0 ?_
  refine lv_if_eq (tgt := 17) hx hb dJ0_isLatin1_aae02_3 (by decide) (fun c1 => absurd c1 (by decide)) (fun c1 => ?_)
  refine lv_aload_n hx hb dJ0_isLatin1_aae02_6 rfl (lv_at hl 0 rfl) ?_
  refine vk_getf hx hb (hV.1.1 0 (by decide)).2.1 va_S.rf hown (fl_J0_15 hts) (fun _ h9 => h9) dJ0_isLatin1_aae02_7 ?_
  refine lv_if_ne (tgt := 17) hx hb dJ0_isLatin1_aae02_10 (by decide) (fun c2 => absurd rfl c2) (fun c2 => ?_)
  refine lv_iconst (v := 1) hx hb dJ0_isLatin1_aae02_13 (by decide) ?_
  refine lv_goto (tgt := 18) hx hb dJ0_isLatin1_aae02_14 (by decide) ?_
  exact W.zret hx hb hr rfl (fun t ht _ => ⟨rfl, ht⟩) (fun _ h => by cases h) dJ0_isLatin1_aae02_18 hlk
set_option maxHeartbeats 4000000 in
set_option maxRecDepth 100000 in
theorem c_J0_length (l : Launch) (G : Gv) : Rj l yJ0_length_8abf5 cJ0_length_8abf5 1 (some .int) (rmz 1 20) G [.ref (G.2.2 2)] (some (.int 72)) := by
  refine Rj.ofW (by decide) (Nat.le_of_ble_eq_true rfl) ?_
  intro p e s m below meth c ls hx hb hml hr hown hts hlk hV hl
  have hl : lv_has ls 1 [(0, .ref (G.2.2 2))] := hl
  refine lv_aload_n hx hb dJ0_length_8abf5_0 rfl (lv_at hl 0 rfl) ?_
  refine vk_getf hx hb (hV.1.1 0 (by decide)).2.2.1 va_S.rf hown (fl_J0_9 hts) (fun _ h9 => h9) dJ0_length_8abf5_1 ?_
  refine va_tlen (v := 72) hx hb (hV.1.1 0 (by decide)).2.2.2 va_S.rf rfl dJ0_length_8abf5_4 ?_
  refine lv_aload_n hx hb dJ0_length_8abf5_5 rfl (lv_at hl 0 rfl) ?_
  refine rj_callV (As := []) (rest := [.int 72]) hx hb hml hown hts hV hl.1 (c_J0_coder l G) (cw_J0_335 hts) ⟨Nat.le_of_ble_eq_true rfl, Nat.le_of_ble_eq_true rfl⟩ ⟨Nat.zero_le _, Nat.zero_le _⟩ rfl rfl (Nat.le_of_ble_eq_true rfl) dJ0_length_8abf5_6 ?_
  refine lv_ishr hx hb dJ0_length_8abf5_9 ?_
  rw [show (72 : Int32) >>> ((0 : Int32) &&& 31) = 72 from by decide]
  exact W.iret hx hb hr (fun t ht _ => ⟨rfl, ht⟩) (fun _ h => by cases h) dJ0_length_8abf5_10 hlk
set_option maxHeartbeats 4000000 in
set_option maxRecDepth 100000 in
theorem c_J0_charAt (l : Launch) (G : Gv) (k : Nat) (hk : k < 72) : Rj l yJ0_charAt_5068e cJ0_charAt_5068e 2 (some .char) (rmz 3 66) G [.ref (G.2.2 2), .int (nI k)] (some (.int (chF k))) := by
  refine Rj.ofW (by decide) (Nat.le_of_ble_eq_true rfl) ?_
  intro p e s m below meth c ls hx hb hml hr hown hts hlk hV hl
  have hl : lv_has ls 2 [(0, .ref (G.2.2 2)), (1, .int (nI k))] := hl
  refine lv_aload_n hx hb dJ0_charAt_5068e_0 rfl (lv_at hl 0 rfl) ?_
  refine rj_callV (As := []) (rest := []) hx hb hml hown hts hV hl.1 (c_J0_latin l G) (cw_J0_492 hts) ⟨Nat.le_of_ble_eq_true rfl, Nat.le_of_ble_eq_true rfl⟩ ⟨Nat.zero_le _, Nat.zero_le _⟩ rfl rfl (Nat.le_of_ble_eq_true rfl) dJ0_charAt_5068e_1 ?_
  refine lv_if_eq (tgt := 16) hx hb dJ0_charAt_5068e_4 (by decide) (fun c1 => absurd c1 (by decide)) (fun c1 => ?_)
  refine lv_aload_n hx hb dJ0_charAt_5068e_7 rfl (lv_at hl 0 rfl) ?_
  refine vk_getf hx hb (hV.1.1 0 (by decide)).2.2.1 va_S.rf hown (fl_J0_9 hts) (fun _ h9 => h9) dJ0_charAt_5068e_8 ?_
  refine lv_iload_n hx hb dJ0_charAt_5068e_11 rfl (lv_at hl 1 rfl) ?_
  refine rj_callS (As := [.ref (G.2.2 3), .int (nI k)]) (rest := []) hx hb hml hown hts hV hl.1 (c_J1_charAt l G k hk) (cs_J0_495 hts) ⟨Nat.le_of_ble_eq_true rfl, Nat.le_of_ble_eq_true rfl⟩ ⟨Nat.zero_le _, Nat.zero_le _⟩ rfl rfl (Nat.le_of_ble_eq_true rfl) dJ0_charAt_5068e_12 ?_
  exact W.zret hx hb hr (chF_nar k hk) (fun t ht _ => ⟨rfl, ht⟩) (fun _ h => by cases h) dJ0_charAt_5068e_15 hlk
/-! a constructor that reads the text constant -/
def Pcs (G : Gv) (wc : va_W) (sz : Nat) (U : State) : Prop := Pct G wc sz U ∧ Sv G (va_A wc sz) U U.heap ∧ vk_R RX9 63 tFL (G.2.2 2) U
def Cts (l : Launch) (y : MethodName) (cc : ByteArray) (nL : Nat) (ret : Option FieldType) (rm : Room) (G : Gv) (av : List Value) (wc : va_W) (post : Option Value → va_W → Prop) : Prop :=
  ∀ sz : Nat, Met l y (Cond.code y cc nL ret :: wsL_law) rm (va_Pc av (Pcs G wc sz)) (Qct G (va_A wc sz) post) rm.cells rm.slots (va_A wc sz)
theorem pcs_blind {G : Gv} {wc : va_W} {sz : Nat} {av : List Value} : FrameBlind (va_Pc av (Pcs G wc sz)) := fun a U g mk q => by
  obtain ⟨q0, ⟨q1, qP, qD, qE⟩, qS, qR⟩ := q
  exact ⟨q0, ⟨q1, qP, qD, (Ev.same (s := U) (U := U.calling g mk a) rfl qE : Ev G _ (U.calling g mk a) U.heap)⟩, (Sv.moved (u := U) (U := U.calling g mk a) (Vm.Alike.refl U.vm) qS : Sv G _ (U.calling g mk a) U.heap), vk_R.same (u := U) (U := U.calling g mk a) rfl qR⟩
theorem Cts.ofW {l : Launch} {y : MethodName} {cc : ByteArray} {nL : Nat} {ret : Option FieldType} {rm : Room} {G : Gv} {av : List Value} {wc : va_W} {post : Option Value → va_W → Prop} (hy : plainName y.cls = true) (hn : (lg_sl av).length ≤ nL)
    (body : ∀ (p : Program) (e : Env) (s : State) (m : MethodId) (below : List Frame) (meth : Method) (c : Code) (ls : Array Slot) (A : Nat → Prop), p.tables.exec = Jvm.exec → c.code = cc → c.maxLocals = nL → meth.sig.returnType = ret → s.vm.findClass y.cls = some m.cls → (∀ w ∈ wsL_law, w.before av.toArray s = true) → meth.locks = false → meth.name = y.name → va_P G.1 vwCl wc s.heap → va_D A wc → (∀ q : Nat, s.heap.size ≤ q → A q) → Ev G A s s.heap → Sv G A s s.heap ∧ vk_R RX9 63 tFL (G.2.2 2) s → va_S A s.heap s.heap [] → lv_has ls nL (lv_args 0 av) → WC p l e rm s m av below meth c G A post s.heap [] 0 0 (F0 m 0 ls [])) :
    Cts l y cc nL ret rm G av wc post := by
  intro sz
  refine Met.ofW (cc := cc) (maxL := nL) (ret := ret) hy rfl ?_
  intro p e s m args below meth c s₁ B hml hv
  obtain ⟨rfl, ⟨hsz, hP, hD, hE⟩, hV, hR⟩ := hv
  subst hsz
  have hts := atoms_spec (ws := Cond.code y cc nL ret :: wsL_law) B.pre
  rw [lg_entry_eq]
  exact body p e s m below meth c _ (va_A wc s.heap.size) B.exec B.bytes hml B.returns (findClass_of_methodNamed B.named) (fun w h => hts w (List.mem_cons_of_mem _ h)) B.notSynchronized (name_of_methodNamed B.named B.method).1 hP hD.self (fun q h => Or.inr h) hE ⟨hV, hR⟩ va_S.rf (lv_entry av hn)
/-- the signs that the constructor writes -/
def sgF (k : Nat) : Nat → Int32 := it (fun j f => upd f j (vp_nar .char (chF j))) (fun _ => 0) k
theorem sgF_0 : sgF 0 = fun _ => 0 := rfl
theorem sgF_s (k : Nat) : sgF (k + 1) = upd (sgF k) k (vp_nar .char (chF k)) := by
  unfold sgF
  exact it_s _ _ _
theorem sgF_nar : ∀ k, ∀ j, narrow .char (.int (sgF k j)) = .int (sgF k j) := by
  intro k
  induction k with
  | zero => intro j; rfl
  | succ k ih =>
    intro j
    rw [sgF_s]
    by_cases e : j = k
    · subst e
      rw [pk_us, vp_nar_char]
      show Value.int ((((chF j).toUInt32.toUInt16.toUInt32.toInt32).toUInt32.toUInt16.toUInt32).toInt32) = _
      congr 1
      generalize (chF j).toUInt32.toUInt16 = u
      simp
    · rw [pk_un e]; exact ih j
def zF : Nat → Int32 := fun _ => 0
/-- the first land, read -/
def raF : Int32 × Dr := raL (sgF 72) 72 200 0 (5, 5, zF, zF, zF, zF, 0, zF, zF, zF, 0, zF)
