/-! base: the globals of a run, the environment that every method stands in, two forms of contract (Rd: nothing is written; Ct: cells change), and their calls -/
abbrev Gv : Type := va_G × (Nat → ClassId) × (Nat → Nat)
abbrev kI (G : Gv) : ClassId := G.2.1 0
abbrev kC (G : Gv) : ClassId := G.2.1 1
abbrev kB (G : Gv) : ClassId := G.2.1 2
abbrev kM (G : Gv) : ClassId := G.2.1 3
abbrev tysG (G : Gv) : List (ClassId × FieldType) := [(kI G, .int), (kC G, .char), (kB G, .byte), (kM G, .object "OnlyWhatIsLost$Moment")]
def dnBy : Nat → Int32 := fun j => match j with
  | 0 => -1
  | 1 => 1
  | _ => 0
def rtBy : Nat → Int32 := fun j => match j with
  | 2 => 1
  | 3 => -1
  | _ => 0
def nestW : List Cond := [.methodLinkNest RX9 11 yX3_init "OnlyWhatIsLost",
  .methodLinkNest RX9 18 yX6_init "OnlyWhatIsLost",
  .methodLinkNest RX6 11 yX1_init "OnlyWhatIsLost",
  .methodLinkNest RX1 11 yX2_init "OnlyWhatIsLost",
  .fieldLinkNest RX1 40 "OnlyWhatIsLost$Grid" "rows" "I" "OnlyWhatIsLost",
  .fieldLinkNest RX1 44 "OnlyWhatIsLost$Grid" "columns" "I" "OnlyWhatIsLost",
  .methodLinkNest RX1 20 yX4_init "OnlyWhatIsLost",
  .fieldLinkNest RX9 120 "OnlyWhatIsLost$Moment" "year" "I" "OnlyWhatIsLost",
  .methodLinkNest RX1 27 yX0_init "OnlyWhatIsLost",
  .fieldLinkNest RX9 91 "OnlyWhatIsLost$Country" "grid" "LOnlyWhatIsLost$Grid;" "OnlyWhatIsLost",
  .fieldLinkNest RX6 79 "OnlyWhatIsLost$Country" "grid" "LOnlyWhatIsLost$Grid;" "OnlyWhatIsLost",
  .fieldLinkNest RX6 63 "OnlyWhatIsLost$Country" "now" "LOnlyWhatIsLost$Moment;" "OnlyWhatIsLost",
  .fieldLinkNest RX9 100 "OnlyWhatIsLost$Country" "now" "LOnlyWhatIsLost$Moment;" "OnlyWhatIsLost",
  .fieldLinkNest RX6 72 "OnlyWhatIsLost$Country" "charts" "LOnlyWhatIsLost$Charts;" "OnlyWhatIsLost",
  .fieldLinkNest RX9 147 "OnlyWhatIsLost$Country" "charts" "LOnlyWhatIsLost$Charts;" "OnlyWhatIsLost",
  .fieldLinkNest RX9 301 "OnlyWhatIsLost$Reader" "draft" "LOnlyWhatIsLost$Country;" "OnlyWhatIsLost",
  .methodLinkNest RX9 25 yX1_init "OnlyWhatIsLost",
  .methodLinkNest RX7 21 yX4_init "OnlyWhatIsLost",
  .methodLinkNest RX9 44 yX4_init "OnlyWhatIsLost",
  .methodLinkNest RX9 51 yX5_init "OnlyWhatIsLost",
  .methodLinkNest RX9 58 yX8_init "OnlyWhatIsLost",
  .methodLinkNest RX4 69 yX9_bitOf "OnlyWhatIsLost",
  .methodLinkNest RX1 68 yX9_bitOf "OnlyWhatIsLost",
  .methodLinkNest RX2 33 yX9_holds "OnlyWhatIsLost",
  .methodLinkNest RX2 41 yX9_bitOf "OnlyWhatIsLost",
  .methodLinkNest RX5 33 yX9_holds "OnlyWhatIsLost",
  .methodLinkNest RX5 66 yX9_bitOf "OnlyWhatIsLost",
  .fieldLinkNest RX2 45 "OnlyWhatIsLost" "DOWN_BY" "[I" "OnlyWhatIsLost",
  .fieldLinkNest RX2 49 "OnlyWhatIsLost" "RIGHT_BY" "[I" "OnlyWhatIsLost"]
def isNest : Cond → Bool
  | .fieldLinkNest .. => true
  | .methodLinkNest .. => true
  | _ => false
theorem nestW_all : nestW.all isNest = true := by decide +kernel
theorem nestW_warm {w : Cond} (hw : w ∈ nestW) {s U : State} (hW : s.WarmedH U.vm) (h : va_Nw w s) : va_Nw w U := by
  have h1 := List.all_eq_true.mp nestW_all w hw
  cases w <;> first | exact va_Nw.warmF hW h | exact va_Nw.warmM hW h | (simp [isNest] at h1)
theorem nestW_same {w : Cond} (hw : w ∈ nestW) {s U : State} (hv : s.vm = U.vm) (h : va_Nw w s) : va_Nw w U := by
  have h1 := List.all_eq_true.mp nestW_all w hw
  cases w <;> first | exact va_Nw.same rfl hv h | (simp [isNest] at h1)
def Ev (G : Gv) (A : Nat → Prop) (U : State) (H : Heap) : Prop :=
  va_K G.1 vwCl (tysG G) U ∧ (∀ w ∈ nestW, va_Nw w U) ∧ va_AO "OnlyWhatIsLost$Moment" U ∧
  (va_Z "OnlyWhatIsLost" "DOWN_BY" "[I" (.ref (G.2.2 0)) A U H ∧ va_T .int (G.2.2 0) 4 (fun j => .int (dnBy j)) A U H) ∧
  (va_Z "OnlyWhatIsLost" "RIGHT_BY" "[I" (.ref (G.2.2 1)) A U H ∧ va_T .int (G.2.2 1) 4 (fun j => .int (rtBy j)) A U H)
theorem Ev.warm {G : Gv} {A : Nat → Prop} {s U : State} {H : Heap} (hW : s.WarmedH U.vm) (h : Ev G A s H) : Ev G A U H :=
  ⟨h.1.moved hW.alike, fun w hw => nestW_warm hw hW (h.2.1 w hw), h.2.2.1.moved hW.alike, ⟨h.2.2.2.1.1.moved hW.alike, h.2.2.2.1.2.moved hW.alike⟩, ⟨h.2.2.2.2.1.moved hW.alike, h.2.2.2.2.2.moved hW.alike⟩⟩
theorem Ev.same {G : Gv} {A : Nat → Prop} {s U : State} {H : Heap} (hv : s.vm = U.vm) (h : Ev G A s H) : Ev G A U H := by
  have ha : s.vm.Alike U.vm := by rw [hv]; exact Vm.Alike.refl U.vm
  exact ⟨h.1.moved ha, fun w hw => nestW_same hw hv (h.2.1 w hw), h.2.2.1.moved ha, ⟨h.2.2.2.1.1.moved ha, h.2.2.2.1.2.moved ha⟩, ⟨h.2.2.2.2.1.moved ha, h.2.2.2.2.2.moved ha⟩⟩
theorem Ev.kept {G : Gv} {A : Nat → Prop} {s : State} {H H1 : Heap} (h : Ev G A s H) (hq : ∀ a : Nat, a < H.size → ¬ A a → H1[a]? = H[a]?) : Ev G A s H1 :=
  ⟨h.1, h.2.1, h.2.2.1, ⟨h.2.2.2.1.1.kept hq, h.2.2.2.1.2.kept hq⟩, ⟨h.2.2.2.2.1.kept hq, h.2.2.2.2.2.kept hq⟩⟩
theorem Ev.narrow {G : Gv} {A B : Nat → Prop} {s : State} {H : Heap} (h : Ev G A s H) (hAB : ∀ q, B q → A q) : Ev G B s H :=
  ⟨h.1, h.2.1, h.2.2.1, ⟨h.2.2.2.1.1.narrow hAB, h.2.2.2.1.2.narrow hAB⟩, ⟨h.2.2.2.2.1.narrow hAB, h.2.2.2.2.2.narrow hAB⟩⟩
/-- the environment, at a later heap, for a callee that writes nothing -/
theorem Ev.at0 {G : Gv} {A : Nat → Prop} {s : State} {H : Heap} {locs : List Loc} (h : Ev G A s s.heap) (hS : va_S A s.heap H locs) : Ev G (fun _ => False) s H :=
  (h.kept hS.2.1).narrow (fun _ z => z.elim)
theorem goodU : ∀ w ∈ wsL_law, (w.onTables && w.keeps) = true ∨ ∃ ty, w = .arrayClass ty := fun w h => good_of_word (List.all_eq_true.mp (by decide +kernel : wsL_law.all goodWord = true) w h)
theorem payU {args : Array Value} {s : State} {y : MethodName} {cc : ByteArray} {nL : Nat} {ret : Option FieldType} (hts : ∀ w ∈ wsL_law, w.before args s = true) (hc : (Cond.code y cc nL ret).before args s = true) :
    ∀ w ∈ (Cond.code y cc nL ret :: wsL_law), ∀ (a' : Array Value) (U : State), s.WarmedH U.vm → w.before a' U = true := by
  intro w hw a' U hW
  rcases List.mem_cons.mp hw with rfl | h
  · exact word_at hW (Or.inl rfl) hc
  · exact word_at hW (goodU w h) (hts w h)
abbrev rmz (f L : Nat) : Room := { frames := f, cells := 0, slots := 0, locals := L }
/-- what a virtual call needs of the tables -/
def Cw (own : String) (idx : Nat) (C : String) (y : MethodName) (cc : ByteArray) (nL : Nat) (ret : Option FieldType) (n : Nat) (args : Array Value) (s : State) : Prop :=
  (Cond.methodLink own idx y).before args s = true ∧ (Cond.instanceMethod y).before args s = true ∧ (Cond.selects C y y).before args s = true ∧ (Cond.initialized y.cls).before args s = true ∧ (Cond.code y cc nL ret).before args s = true ∧ (y.cls ≠ "java/lang/invoke/MethodHandle" ∧ y.cls ≠ "java/lang/invoke/VarHandle") ∧ (parseMethodDescriptor y.desc).map (fun d => d.parameters.length) = some n
def Cs (own : String) (idx : Nat) (y : MethodName) (cc : ByteArray) (nL : Nat) (ret : Option FieldType) (n : Nat) (args : Array Value) (s : State) : Prop :=
  (Cond.methodLink own idx y).before args s = true ∧ (Cond.static y).before args s = true ∧ (Cond.initialized y.cls).before args s = true ∧ (Cond.code y cc nL ret).before args s = true ∧ (y.cls ≠ "java/lang/invoke/MethodHandle" ∧ y.cls ≠ "java/lang/invoke/VarHandle") ∧ (parseMethodDescriptor y.desc).map (fun d => d.parameters.length) = some n
def Csn (own : String) (idx : Nat) (y : MethodName) (cc : ByteArray) (nL : Nat) (ret : Option FieldType) (n : Nat) (args : Array Value) (s : State) : Prop :=
  Cond.methodLinkNest own idx y "OnlyWhatIsLost" ∈ nestW ∧ (Cond.static y).before args s = true ∧ (Cond.initialized y.cls).before args s = true ∧ (Cond.code y cc nL ret).before args s = true ∧ (y.cls ≠ "java/lang/invoke/MethodHandle" ∧ y.cls ≠ "java/lang/invoke/VarHandle") ∧ (parseMethodDescriptor y.desc).map (fun d => d.parameters.length) = some n
def Cin (own : String) (idx : Nat) (y : MethodName) (cc : ByteArray) (nL : Nat) (n : Nat) (args : Array Value) (s : State) : Prop :=
  Cond.methodLinkNest own idx y "OnlyWhatIsLost" ∈ nestW ∧ (Cond.instanceMethod y).before args s = true ∧ (Cond.initialized y.cls).before args s = true ∧ (Cond.code y cc nL none).before args s = true ∧ (y.cls ≠ "java/lang/invoke/MethodHandle" ∧ y.cls ≠ "java/lang/invoke/VarHandle") ∧ (parseMethodDescriptor y.desc).map (fun d => d.parameters.length) = some n ∧ y.name = "<init>"
def Ci (own : String) (idx : Nat) (y : MethodName) (cc : ByteArray) (nL : Nat) (n : Nat) (args : Array Value) (s : State) : Prop :=
  (Cond.methodLink own idx y).before args s = true ∧ (Cond.instanceMethod y).before args s = true ∧ (Cond.initialized y.cls).before args s = true ∧ (Cond.code y cc nL none).before args s = true ∧ (y.cls ≠ "java/lang/invoke/MethodHandle" ∧ y.cls ≠ "java/lang/invoke/VarHandle") ∧ (parseMethodDescriptor y.desc).map (fun d => d.parameters.length) = some n ∧ y.name = "<init>"
theorem cnt_of {d : String} {n : Nat} (h : (parseMethodDescriptor d).map (fun d => d.parameters.length) = some n) : ∀ sig, parseMethodDescriptor d = some sig → n = sig.parameters.length := by
  intro sig hs
  rw [hs] at h
  exact (Option.some.inj h).symm
/-! contracts -/
def Qrd (v : Value) : Array Value → State → Outcome → State → Prop := fun _ st o t => o = .returned (some v) ∧ t.heap = st.heap
def Prd (G : Gv) (wc : va_W) (U : State) : Prop := va_P G.1 vwCl wc U.heap ∧ Ev G (fun _ => False) U U.heap
def Rd (l : Launch) (y : MethodName) (cc : ByteArray) (nL : Nat) (ret : Option FieldType) (rm : Room) (G : Gv) (av : List Value) (wc : va_W) (v : Value) : Prop :=
  Met l y (Cond.code y cc nL ret :: wsL_law) rm (va_Pc av (Prd G wc)) (Qrd v) 0 0 (fun _ => False)
def Pct (G : Gv) (wc : va_W) (sz : Nat) (U : State) : Prop := U.heap.size = sz ∧ va_P G.1 vwCl wc U.heap ∧ va_D (fun _ => True) wc ∧ Ev G (va_A wc sz) U U.heap
def Qct (G : Gv) (A : Nat → Prop) (post : Option Value → va_W → Prop) : Array Value → State → Outcome → State → Prop := fun _ st o t => (∃ (v : Option Value) (w : va_W), o = .returned v ∧ post v w ∧ va_P G.1 vwCl w t.heap ∧ va_D A w) ∧ va_F A st t
def Ct (l : Launch) (y : MethodName) (cc : ByteArray) (nL : Nat) (ret : Option FieldType) (rm : Room) (G : Gv) (av : List Value) (wc : va_W) (post : Option Value → va_W → Prop) : Prop :=
  ∀ sz : Nat, Met l y (Cond.code y cc nL ret :: wsL_law) rm (va_Pc av (Pct G wc sz)) (Qct G (va_A wc sz) post) rm.cells rm.slots (va_A wc sz)
/-- one answer, one world -/
def one (v : Option Value) (w : va_W) : Option Value → va_W → Prop := fun v' w' => v' = v ∧ w' = w
theorem prd_blind {G : Gv} {wc : va_W} {av : List Value} : FrameBlind (va_Pc av (Prd G wc)) := fun a U g mk q => by
  obtain ⟨q0, qP, qE⟩ := q
  exact ⟨q0, qP, (Ev.same (s := U) (U := U.calling g mk a) rfl qE : Ev G _ (U.calling g mk a) U.heap)⟩
theorem pct_blind {G : Gv} {wc : va_W} {sz : Nat} {av : List Value} : FrameBlind (va_Pc av (Pct G wc sz)) := fun a U g mk q => by
  obtain ⟨q0, q1, qP, qD, qE⟩ := q
  exact ⟨q0, q1, qP, qD, (Ev.same (s := U) (U := U.calling g mk a) rfl qE : Ev G _ (U.calling g mk a) U.heap)⟩
abbrev WR (p : Program) (l : Launch) (e : Env) (rm : Room) (s : State) (m : MethodId) (av : List Value) (below : List Frame) (meth : Method) (c : Code) (v : Value) (g : JFrame) : Prop :=
  W p l e rm s m av.toArray below meth c s.heap [] 0 0 (MQ below (Qrd v) av.toArray s 0 0 (fun _ => False)) g
abbrev WC (p : Program) (l : Launch) (e : Env) (rm : Room) (s : State) (m : MethodId) (av : List Value) (below : List Frame) (meth : Method) (c : Code) (G : Gv) (A : Nat → Prop) (post : Option Value → va_W → Prop) (H : Heap) (locs : List Loc) (cells slots : Nat) (g : JFrame) : Prop :=
  W p l e rm s m av.toArray below meth c H locs cells slots (MQ below (Qct G A post) av.toArray s rm.cells rm.slots A) g
theorem Rd.ofW {l : Launch} {y : MethodName} {cc : ByteArray} {nL : Nat} {ret : Option FieldType} {rm : Room} {G : Gv} {av : List Value} {wc : va_W} {v : Value} (hy : plainName y.cls = true) (hn : (lg_sl av).length ≤ nL)
    (body : ∀ (p : Program) (e : Env) (s : State) (m : MethodId) (below : List Frame) (meth : Method) (c : Code) (ls : Array Slot), p.tables.exec = Jvm.exec → c.code = cc → c.maxLocals = nL → meth.sig.returnType = ret → s.vm.findClass y.cls = some m.cls → (∀ w ∈ wsL_law, w.before av.toArray s = true) → meth.locks = false → va_P G.1 vwCl wc s.heap → Ev G (fun _ => False) s s.heap → lv_has ls nL (lv_args 0 av) → WR p l e rm s m av below meth c v (F0 m 0 ls [])) :
    Rd l y cc nL ret rm G av wc v := by
  refine Met.ofW (cc := cc) (maxL := nL) (ret := ret) hy rfl ?_
  intro p e s m args below meth c s₁ B hml hv
  obtain ⟨rfl, hP, hE⟩ := hv
  have hts := atoms_spec (ws := Cond.code y cc nL ret :: wsL_law) B.pre
  rw [lg_entry_eq]
  exact body p e s m below meth c _ B.exec B.bytes hml B.returns (findClass_of_methodNamed B.named) (fun w h => hts w (List.mem_cons_of_mem _ h)) B.notSynchronized hP hE (lv_entry av hn)
theorem Ct.ofW {l : Launch} {y : MethodName} {cc : ByteArray} {nL : Nat} {ret : Option FieldType} {rm : Room} {G : Gv} {av : List Value} {wc : va_W} {post : Option Value → va_W → Prop} (hy : plainName y.cls = true) (hn : (lg_sl av).length ≤ nL)
    (body : ∀ (p : Program) (e : Env) (s : State) (m : MethodId) (below : List Frame) (meth : Method) (c : Code) (ls : Array Slot) (A : Nat → Prop), p.tables.exec = Jvm.exec → c.code = cc → c.maxLocals = nL → meth.sig.returnType = ret → s.vm.findClass y.cls = some m.cls → (∀ w ∈ wsL_law, w.before av.toArray s = true) → meth.locks = false → meth.name = y.name → va_P G.1 vwCl wc s.heap → va_D A wc → (∀ q : Nat, s.heap.size ≤ q → A q) → Ev G A s s.heap → va_S A s.heap s.heap [] → lv_has ls nL (lv_args 0 av) → WC p l e rm s m av below meth c G A post s.heap [] 0 0 (F0 m 0 ls [])) :
    Ct l y cc nL ret rm G av wc post := by
  intro sz
  refine Met.ofW (cc := cc) (maxL := nL) (ret := ret) hy rfl ?_
  intro p e s m args below meth c s₁ B hml hv
  obtain ⟨rfl, hsz, hP, hD, hE⟩ := hv
  subst hsz
  have hts := atoms_spec (ws := Cond.code y cc nL ret :: wsL_law) B.pre
  rw [lg_entry_eq]
  exact body p e s m below meth c _ (va_A wc s.heap.size) B.exec B.bytes hml B.returns (findClass_of_methodNamed B.named) (fun w h => hts w (List.mem_cons_of_mem _ h)) B.notSynchronized (name_of_methodNamed B.named B.method).1 hP hD.self (fun q h => Or.inr h) hE va_S.rf (lv_entry av hn)
section RET
variable {p : Program} {l : Launch} {e : Env} {rm : Room} {s : State} {m : MethodId} {av : List Value} {below : List Frame} {meth : Method} {c : Code} {cc : ByteArray} {pc : Nat} {ls : Array Slot}
theorem rd_iret {v : Value} (hx : p.tables.exec = Jvm.exec) (hb : c.code = cc) (hr : meth.sig.returnType = some .int) (hlk : meth.locks = false) {r : Int32} (hdg : decode cc pc = .ok (.ireturn, 1)) (hv : (.int r : Value) = v) : WR p l e rm s m av below meth c v (F0 m pc ls [.int r]) := by
  subst hv
  exact W.iret hx hb hr (fun t ht _ => ⟨rfl, ht⟩) (fun _ h => by cases h) hdg hlk
theorem rd_zret {v : Value} {ty : FieldType} (hx : p.tables.exec = Jvm.exec) (hb : c.code = cc) (hr : meth.sig.returnType = some ty) (hlk : meth.locks = false) {r : Int32} (hdg : decode cc pc = .ok (.ireturn, 1)) (hn : narrow ty (.int r) = .int r) (hv : (.int r : Value) = v) : WR p l e rm s m av below meth c v (F0 m pc ls [.int r]) := by
  subst hv
  exact W.zret hx hb hr hn (fun t ht _ => ⟨rfl, ht⟩) (fun _ h => by cases h) hdg hlk
theorem rd_lret {v : Value} (hx : p.tables.exec = Jvm.exec) (hb : c.code = cc) (hr : meth.sig.returnType = some .long) (hlk : meth.locks = false) {r : Int64} (hdg : decode cc pc = .ok (.lreturn, 1)) (hv : (.long r : Value) = v) : WR p l e rm s m av below meth c v (F0 m pc ls [.long r]) := by
  subst hv
  exact W.lret hx hb hr (fun t ht _ => ⟨rfl, ht⟩) (fun _ h => by cases h) hdg hlk
variable {G : Gv} {A : Nat → Prop} {post : Option Value → va_W → Prop} {H : Heap} {locs : List Loc} {w : va_W}
theorem ct_q {v : Option Value} (hpost : post v w) (hP : va_P G.1 vwCl w H) (hD : va_D A w) (hS : va_S A s.heap H locs) {a : Array Value} : ∀ t : State, t.heap = H → Qct G A post a s (.returned v) t := by
  intro t ht
  exact ⟨⟨v, w, rfl, hpost, by rw [ht]; exact hP, hD⟩, hS.F ht⟩
theorem ct_vret (hx : p.tables.exec = Jvm.exec) (hb : c.code = cc) (hr : meth.sig.returnType = none) (hlk : meth.locks = false) (hdg : decode cc pc = .ok (.return_, 1)) (hP : va_P G.1 vwCl w H) (hD : va_D A w) (hS : va_S A s.heap H locs) (hpost : post none w) : WC p l e rm s m av below meth c G A post H locs rm.cells rm.slots (F0 m pc ls []) :=
  W.vret hx hb hr (fun t ht _ => ct_q hpost hP hD hS t ht) hS.2.2 hdg hlk
theorem ct_iret (hx : p.tables.exec = Jvm.exec) (hb : c.code = cc) (hr : meth.sig.returnType = some .int) (hlk : meth.locks = false) {r : Int32} (hdg : decode cc pc = .ok (.ireturn, 1)) (hP : va_P G.1 vwCl w H) (hD : va_D A w) (hS : va_S A s.heap H locs) (hpost : post (some (.int r)) w) : WC p l e rm s m av below meth c G A post H locs rm.cells rm.slots (F0 m pc ls [.int r]) :=
  W.iret hx hb hr (fun t ht _ => ct_q hpost hP hD hS t ht) hS.2.2 hdg hlk
theorem ct_zret {ty : FieldType} (hx : p.tables.exec = Jvm.exec) (hb : c.code = cc) (hr : meth.sig.returnType = some ty) (hlk : meth.locks = false) {r : Int32} (hdg : decode cc pc = .ok (.ireturn, 1)) (hn : narrow ty (.int r) = .int r) (hP : va_P G.1 vwCl w H) (hD : va_D A w) (hS : va_S A s.heap H locs) (hpost : post (some (.int r)) w) : WC p l e rm s m av below meth c G A post H locs rm.cells rm.slots (F0 m pc ls [.int r]) :=
  W.zret hx hb hr hn (fun t ht _ => ct_q hpost hP hD hS t ht) hS.2.2 hdg hlk
end RET
/-! calls -/
section CALL
variable {p : Program} {l : Launch} {e : Env} {R : Room} {s : State} {m : MethodId} {args : Array Value} {below : List Frame} {meth : Method} {c : Code} {H : Heap} {locs : List Loc} {cells slots : Nat} {Q : State → Prop}
variable {cc cc' : ByteArray} {pc nL nL' n idx : Nat} {ls : Array Slot} {rest As : List Value} {G : Gv} {own C : String} {y : MethodName} {ret : Option FieldType} {rm : Room} {wc : va_W} {b : Nat}
/-- behind a call that writes nothing the heap is the same -/
theorem rd_back {v : Value} {a : Array Value} {g : JFrame} (hr : va_Run p l e R s m args below meth c H locs cells slots 0 0 g rest (Qrd v a) (fun _ => False)) (kk : W p l e R s m args below meth c H locs cells slots Q { g with pc := g.pc + 3, stack := v :: rest }) : W p l e R s m args below meth c H locs cells slots Q g := by
  intro T hT X
  obtain ⟨v', st₀, t, T', L, h0, X', hL, e1, e2, ⟨hv, hh⟩, st⟩ := hr T hT X
  cases hv
  obtain ⟨t2, a1, b1⟩ := kk T' (by rw [e1, hh, h0]) (Stand.forget X' (fun q h => (hL q h).elim))
  exact ⟨t2, st t2 a1, b1⟩
theorem cw_of (h : Cw own idx C y cc' nL' ret n args s) (hts : ∀ w ∈ wsL_law, w.before args s = true) (hR : rm.frames + 1 ≤ R.frames ∧ 8 + (nL' + 11) + rm.locals ≤ R.locals) : CallW R s args own C idx y cc' nL' ret (Cond.code y cc' nL' ret :: wsL_law) rm rm.cells rm.slots n :=
  ⟨⟨rfl, rfl, hR.1, hR.2, payU hts h.2.2.2.2.1, List.mem_cons_self, h.2.2.2.2.1, h.2.2.2.1, h.2.2.2.2.2.1, cnt_of h.2.2.2.2.2.2, h.1⟩, h.2.1, h.2.2.1⟩
theorem cs_of (h : Cs own idx y cc' nL' ret n args s) (hts : ∀ w ∈ wsL_law, w.before args s = true) (hR : rm.frames + 1 ≤ R.frames ∧ 8 + (nL' + 11) + rm.locals ≤ R.locals) : CallB R s args own idx y cc' nL' ret (Cond.code y cc' nL' ret :: wsL_law) rm rm.cells rm.slots n ∧ (Cond.static y).before args s = true :=
  ⟨⟨rfl, rfl, hR.1, hR.2, payU hts h.2.2.2.1, List.mem_cons_self, h.2.2.2.1, h.2.2.1, h.2.2.2.2.1, cnt_of h.2.2.2.2.2, h.1⟩, h.2.1⟩
theorem csn_of (h : Csn own idx y cc' nL' ret n args s) (hts : ∀ w ∈ wsL_law, w.before args s = true) (hN : ∀ w ∈ nestW, va_Nw w s) (hR : rm.frames + 1 ≤ R.frames ∧ 8 + (nL' + 11) + rm.locals ≤ R.locals) : va_CN R s args own idx y "OnlyWhatIsLost" cc' nL' ret (Cond.code y cc' nL' ret :: wsL_law) rm rm.cells rm.slots n ∧ (Cond.static y).before args s = true ∧ True :=
  ⟨⟨⟨rfl, rfl, hR.1, hR.2, payU hts h.2.2.2.1, List.mem_cons_self⟩, h.2.2.2.1, h.2.2.1, h.2.2.2.2.1, cnt_of h.2.2.2.2.2, va_Nw.use rfl (hN _ h.1)⟩, h.2.1, trivial⟩
theorem cin_of (h : Cin own idx y cc' nL' n args s) (hts : ∀ w ∈ wsL_law, w.before args s = true) (hN : ∀ w ∈ nestW, va_Nw w s) (hR : rm.frames + 1 ≤ R.frames ∧ 8 + (nL' + 11) + rm.locals ≤ R.locals) : va_CN R s args own idx y "OnlyWhatIsLost" cc' nL' none (Cond.code y cc' nL' none :: wsL_law) rm rm.cells rm.slots n ∧ y.name = "<init>" ∧ (Cond.instanceMethod y).before args s = true :=
  ⟨⟨⟨rfl, rfl, hR.1, hR.2, payU hts h.2.2.2.1, List.mem_cons_self⟩, h.2.2.2.1, h.2.2.1, h.2.2.2.2.1, cnt_of h.2.2.2.2.2.1, va_Nw.use rfl (hN _ h.1)⟩, h.2.2.2.2.2.2, h.2.1⟩
theorem ci_of (h : Ci own idx y cc' nL' n args s) (hts : ∀ w ∈ wsL_law, w.before args s = true) (hR : rm.frames + 1 ≤ R.frames ∧ 8 + (nL' + 11) + rm.locals ≤ R.locals) : CallB R s args own idx y cc' nL' none (Cond.code y cc' nL' none :: wsL_law) rm rm.cells rm.slots n ∧ y.name = "<init>" ∧ (Cond.instanceMethod y).before args s = true :=
  ⟨⟨rfl, rfl, hR.1, hR.2, payU hts h.2.2.2.1, List.mem_cons_self, h.2.2.2.1, h.2.2.1, h.2.2.2.2.1, cnt_of h.2.2.2.2.2.1, h.1⟩, h.2.2.2.2.2.2, h.2.1⟩
theorem rcv_of {ci : Nat} {q : vw_C} {fs : List Value} (hE : Ev G (fun _ => False) s H) (hP : va_P G.1 vwCl wc H) (h0 : wc[0]? = some (b, .inr (ci, fs))) (hc : vwCl[ci]? = some q) (hq : q.1 = C) : ∃ cell : Cell, H[b]? = some cell ∧ cell.vm.isStatics = false ∧ s.vm.findClass C = some cell.cls := by
  subst hq
  exact va_recv hE.1 hP hc h0
/-- a virtual call of a method that writes nothing -/
theorem rd_callV {v : Value} {f' L' ci : Nat} {q : vw_C} {fs : List Value} (hx : p.tables.exec = Jvm.exec) (hb : c.code = cc) (hml : c.maxLocals = nL) (hown : s.vm.findClass own = some m.cls) (hts : ∀ w ∈ wsL_law, w.before args s = true) (hE : Ev G (fun _ => False) s H) (hsz : ls.size = nL)
    (hC : Rd l y cc' nL' ret (rmz f' L') G (.ref b :: As) wc v) (hw : Cw own idx C y cc' nL' ret n args s) (hR : f' + 1 ≤ R.frames ∧ 8 + (nL' + 11) + L' ≤ R.locals) (hf : cells ≤ R.cells ∧ slots ≤ R.slots) (hn : As.length = n) (hP : va_P G.1 vwCl wc H) (h0 : wc[0]? = some (b, .inr (ci, fs))) (hc : vwCl[ci]? = some q) (hq : q.1 = C)
    {st0 : List Value} (hst : st0 = As.reverse ++ .ref b :: rest) (hro : (rest.map fun v => v.category).sum ≤ 8) (hdg : decode cc pc = .ok (.invokevirtual idx, 3))
    (kk : W p l e R s m args below meth c H locs cells slots Q (F0 m (pc + 3) ls (v :: rest))) : W p l e R s m args below meth c H locs cells slots Q (F0 m pc ls st0) := by
  subst hst
  exact rd_back (va_runV (As := As) (rest := rest) ⟨hx, hb, hml, hown, hts⟩ hC (cw_of (rm := rmz f' L') hw hts hR) ⟨prd_blind, rcv_of hE hP h0 hc hq, fun U hU hW => ⟨rfl, by rw [hU]; exact hP, by rw [hU]; exact hE.warm hW⟩⟩ rfl hn hsz rfl (lv_room hro) hdg hf) kk
theorem rd_callS {v : Value} {f' L' : Nat} (hx : p.tables.exec = Jvm.exec) (hb : c.code = cc) (hml : c.maxLocals = nL) (hown : s.vm.findClass own = some m.cls) (hts : ∀ w ∈ wsL_law, w.before args s = true) (hE : Ev G (fun _ => False) s H) (hsz : ls.size = nL)
    (hC : Rd l y cc' nL' ret (rmz f' L') G As wc v) (hw : Cs own idx y cc' nL' ret n args s) (hR : f' + 1 ≤ R.frames ∧ 8 + (nL' + 11) + L' ≤ R.locals) (hf : cells ≤ R.cells ∧ slots ≤ R.slots) (hn : As.length = n) (hP : va_P G.1 vwCl wc H)
    {st0 : List Value} (hst : st0 = As.reverse ++ rest) (hro : (rest.map fun v => v.category).sum ≤ 8) (hdg : decode cc pc = .ok (.invokestatic idx, 3))
    (kk : W p l e R s m args below meth c H locs cells slots Q (F0 m (pc + 3) ls (v :: rest))) : W p l e R s m args below meth c H locs cells slots Q (F0 m pc ls st0) := by
  subst hst
  exact rd_back (va_runS (As := As) (rest := rest) ⟨hx, hb, hml, hown, hts⟩ hC (cs_of (rm := rmz f' L') hw hts hR) ⟨prd_blind, fun U hU hW => ⟨rfl, by rw [hU]; exact hP, by rw [hU]; exact hE.warm hW⟩⟩ rfl hn hsz rfl (lv_room hro) hdg hf) kk
theorem rd_callN {v : Value} {f' L' : Nat} (hx : p.tables.exec = Jvm.exec) (hb : c.code = cc) (hml : c.maxLocals = nL) (hown : s.vm.findClass own = some m.cls) (hts : ∀ w ∈ wsL_law, w.before args s = true) (hE : Ev G (fun _ => False) s H) (hsz : ls.size = nL)
    (hC : Rd l y cc' nL' ret (rmz f' L') G As wc v) (hw : Csn own idx y cc' nL' ret n args s) (hR : f' + 1 ≤ R.frames ∧ 8 + (nL' + 11) + L' ≤ R.locals) (hf : cells ≤ R.cells ∧ slots ≤ R.slots) (hn : As.length = n) (hP : va_P G.1 vwCl wc H)
    {st0 : List Value} (hst : st0 = As.reverse ++ rest) (hro : (rest.map fun v => v.category).sum ≤ 8) (hdg : decode cc pc = .ok (.invokestatic idx, 3))
    (kk : W p l e R s m args below meth c H locs cells slots Q (F0 m (pc + 3) ls (v :: rest))) : W p l e R s m args below meth c H locs cells slots Q (F0 m pc ls st0) := by
  subst hst
  exact rd_back (va_runSN (As := As) (rest := rest) ⟨hx, hb, hml, hown, hts⟩ hC (csn_of (rm := rmz f' L') hw hts hE.2.1 hR) ⟨prd_blind, fun U hU hW => ⟨rfl, by rw [hU]; exact hP, by rw [hU]; exact hE.warm hW⟩⟩ rfl hn hsz rfl (lv_room hro) hdg hf) kk
/-- behind a call that writes: the caller's other cells, and what the callee's have become -/
theorem ct_back {A : Nat → Prop} {ws wr : va_W} {post : Option Value → va_W → Prop} {mc ms : Nat} {a : Array Value} {g : JFrame} (hr : va_Run p l e R s m args below meth c H locs cells slots mc ms g rest (Qct G (va_A wc H.size) post a) (va_A wc H.size))
    (hP : va_P G.1 vwCl ws H) (hD : va_D A ws) (hS : va_S A s.heap H locs) (hA : ∀ q : Nat, s.heap.size ≤ q → A q) (isC isR : List Nat) (hC : isC.map (fun i => ws[i]?) = wc.map some) (hR : isR.map (fun i => ws[i]?) = wr.map some) (hn : va_nd isR = true) (hdis : (isR.all (fun i => !(isC.contains i))) = true)
    (kk : ∀ (v : Option Value) (w : va_W) (H1 : Heap) (locs1 : List Loc), post v w → va_P G.1 vwCl (wr ++ w) H1 → va_D A (wr ++ w) → va_S A s.heap H1 locs1 → W p l e R s m args below meth c H1 locs1 (cells + mc) (slots + ms) Q { g with pc := g.pc + 3, stack := v.toList ++ rest }) : W p l e R s m args below meth c H locs cells slots Q g := by
  have hF := va_free (wc := wc) hD hS hA isC hC
  have hdis' : ∀ i ∈ isR, i ∉ isC := fun i hi hc => by
    have h1 := List.all_eq_true.mp hdis i hi
    simp [hc] at h1
  intro T hT X
  obtain ⟨v, st₀, t, T', L, h0, X', hL, e1, e2, ⟨⟨v', w, hv, hp, hPw, hDw⟩, hz, hk⟩, st⟩ := hr T hT X
  cases hv
  rw [h0] at hz hk
  have hk' : ∀ q : Nat, q < H.size → ¬ va_A wc H.size q → T'.heap[q]? = H[q]? := fun q h1 h2 => by rw [e1]; exact hk q h1 h2
  obtain ⟨hP2, hD2⟩ := va_join (wr := wr) (w1 := w) hP hD isC isR hC hR hn hdis' hk' hF (by rw [e1]; exact hPw) hDw
  obtain ⟨t2, a1, b1⟩ := kk v w T'.heap (locs ++ L) hp hP2 hD2
    ⟨Nat.le_trans hS.1 (by rw [e1]; exact hz), fun q h1 h2 => by rw [hk' q (Nat.lt_of_lt_of_le h1 hS.1) (fun z => h2 (hF q z))]; exact hS.2.1 q h1 h2, fun q hq => by
      rcases List.mem_append.mp hq with h | h
      · exact hS.2.2 q h
      · exact hF _ (hL q h)⟩ T' rfl X'
  exact ⟨t2, st t2 a1, b1⟩
/-- the callee's start out of the caller's world -/
theorem pct_of {A : Nat → Prop} {ws : va_W} {U : State} {av : List Value} (hP : va_P G.1 vwCl ws H) (hD : va_D A ws) (hS : va_S A s.heap H locs) (hA : ∀ q : Nat, s.heap.size ≤ q → A q) (hE : Ev G A s s.heap) (isC : List Nat) (hC : isC.map (fun i => ws[i]?) = wc.map some) (hnC : va_nd isC = true) (hU : U.heap = H) (hW : s.WarmedH U.vm) : va_Pc av (Pct G wc H.size) av.toArray U := by
  have hF := va_free (wc := wc) hD hS hA isC hC
  have hD1 : va_D A wc := hD.sub isC hnC hC
  have hP1 : va_P G.1 vwCl wc H := fun k q hk => by
    have h1 : (isC.map (fun i => ws[i]?))[k]? = some (some q) := by rw [hC, List.getElem?_map, hk]; rfl
    rw [List.getElem?_map] at h1
    cases hi : isC[k]? with
    | none => rw [hi] at h1; cases h1
    | some i => rw [hi] at h1; exact hP i q (Option.some.inj h1)
  refine ⟨rfl, by rw [hU], by rw [hU]; exact hP1, hD1.weaken (fun _ _ _ _ => trivial), ?_⟩
  rw [hU]
  exact (((hE.kept hS.2.1).narrow hF)).warm hW
theorem sub_P {ws : va_W} (hP : va_P G.1 vwCl ws H) (isC : List Nat) (hC : isC.map (fun i => ws[i]?) = wc.map some) : va_P G.1 vwCl wc H := fun k q hk => by
    have h1 : (isC.map (fun i => ws[i]?))[k]? = some (some q) := by rw [hC, List.getElem?_map, hk]; rfl
    rw [List.getElem?_map] at h1
    cases hi : isC[k]? with
    | none => rw [hi] at h1; cases h1
    | some i => rw [hi] at h1; exact hP i q (Option.some.inj h1)
/-- a virtual call of a method that writes; isC, isR: the callee's cells and the others by their places; pm: how the world behind it is read off the others and the callee's new cells -/
theorem ct_callV {v1 : Option Value} {w1 ws wr wn : va_W} {A : Nat → Prop} {ci : Nat} {q : vw_C} {fs : List Value} (hx : p.tables.exec = Jvm.exec) (hb : c.code = cc) (hml : c.maxLocals = nL) (hown : s.vm.findClass own = some m.cls) (hts : ∀ w ∈ wsL_law, w.before args s = true) (hE : Ev G A s s.heap) (hA : ∀ q : Nat, s.heap.size ≤ q → A q) (hsz : ls.size = nL)
    (hP : va_P G.1 vwCl ws H) (hD : va_D A ws) (hS : va_S A s.heap H locs)
    (hC : Ct l y cc' nL' ret rm G (.ref b :: As) wc (one v1 w1)) (hw : Cw own idx C y cc' nL' ret n args s) (hR : rm.frames + 1 ≤ R.frames ∧ 8 + (nL' + 11) + rm.locals ≤ R.locals) (hf : cells + rm.cells ≤ R.cells ∧ slots + rm.slots ≤ R.slots) (hn : As.length = n) (isC isR pm : List Nat) (hiC : isC.map (fun i => ws[i]?) = wc.map some) (hiR : isR.map (fun i => ws[i]?) = wr.map some) (hd : va_nd isC = true ∧ va_nd isR = true ∧ va_nd pm = true ∧ (isR.all (fun i => !(isC.contains i))) = true) (hpm : pm.map (fun i => (wr ++ w1)[i]?) = wn.map some) (h0 : wc[0]? = some (b, .inr (ci, fs))) (hc : vwCl[ci]? = some q) (hq : q.1 = C)
    {st0 : List Value} (hst : st0 = As.reverse ++ .ref b :: rest) (hro : (rest.map fun v => v.category).sum ≤ 8) (hdg : decode cc pc = .ok (.invokevirtual idx, 3))
    (kk : ∀ (H1 : Heap) (locs1 : List Loc), va_P G.1 vwCl wn H1 → va_D A wn → va_S A s.heap H1 locs1 → W p l e R s m args below meth c H1 locs1 (cells + rm.cells) (slots + rm.slots) Q (F0 m (pc + 3) ls (v1.toList ++ rest))) : W p l e R s m args below meth c H locs cells slots Q (F0 m pc ls st0) := by
  subst hst
  refine ct_back (va_runV (As := As) (rest := rest) ⟨hx, hb, hml, hown, hts⟩ (hC H.size) (cw_of hw hts hR) ⟨pct_blind, rcv_of (hE.at0 hS) (sub_P hP isC hiC) h0 hc hq, fun U hU hW => pct_of hP hD hS hA hE isC hiC hd.1 hU hW⟩ rfl hn hsz rfl (lv_room hro) hdg hf) hP hD hS hA isC isR hiC hiR hd.2.1 hd.2.2.2 ?_
  intro v w H1 locs1 hpo hP1 hD1 hS1
  obtain ⟨rfl, rfl⟩ := hpo
  exact kk H1 locs1 (sub_P hP1 pm hpm) (hD1.sub pm hd.2.2.1 hpm) hS1
/-- the same, with an end that isn't told by one world -/
theorem ct_callVx {post : Option Value → va_W → Prop} {ws wr : va_W} {A : Nat → Prop} {ci : Nat} {q : vw_C} {fs : List Value} (hx : p.tables.exec = Jvm.exec) (hb : c.code = cc) (hml : c.maxLocals = nL) (hown : s.vm.findClass own = some m.cls) (hts : ∀ w ∈ wsL_law, w.before args s = true) (hE : Ev G A s s.heap) (hA : ∀ q : Nat, s.heap.size ≤ q → A q) (hsz : ls.size = nL)
    (hP : va_P G.1 vwCl ws H) (hD : va_D A ws) (hS : va_S A s.heap H locs)
    (hC : Ct l y cc' nL' ret rm G (.ref b :: As) wc post) (hw : Cw own idx C y cc' nL' ret n args s) (hR : rm.frames + 1 ≤ R.frames ∧ 8 + (nL' + 11) + rm.locals ≤ R.locals) (hf : cells + rm.cells ≤ R.cells ∧ slots + rm.slots ≤ R.slots) (hn : As.length = n) (isC isR : List Nat) (hiC : isC.map (fun i => ws[i]?) = wc.map some) (hiR : isR.map (fun i => ws[i]?) = wr.map some) (hd : va_nd isC = true ∧ va_nd isR = true ∧ (isR.all (fun i => !(isC.contains i))) = true) (h0 : wc[0]? = some (b, .inr (ci, fs))) (hc : vwCl[ci]? = some q) (hq : q.1 = C)
    {st0 : List Value} (hst : st0 = As.reverse ++ .ref b :: rest) (hro : (rest.map fun v => v.category).sum ≤ 8) (hdg : decode cc pc = .ok (.invokevirtual idx, 3))
    (kk : ∀ (v : Option Value) (w : va_W) (H1 : Heap) (locs1 : List Loc), post v w → va_P G.1 vwCl (wr ++ w) H1 → va_D A (wr ++ w) → va_S A s.heap H1 locs1 → W p l e R s m args below meth c H1 locs1 (cells + rm.cells) (slots + rm.slots) Q (F0 m (pc + 3) ls (v.toList ++ rest))) : W p l e R s m args below meth c H locs cells slots Q (F0 m pc ls st0) := by
  subst hst
  exact ct_back (va_runV (As := As) (rest := rest) ⟨hx, hb, hml, hown, hts⟩ (hC H.size) (cw_of hw hts hR) ⟨pct_blind, rcv_of (hE.at0 hS) (sub_P hP isC hiC) h0 hc hq, fun U hU hW => pct_of hP hD hS hA hE isC hiC hd.1 hU hW⟩ rfl hn hsz rfl (lv_room hro) hdg hf) hP hD hS hA isC isR hiC hiR hd.2.1 hd.2.2 kk
/-- a constructor of a nest mate -/
theorem ct_callI {post : Option Value → va_W → Prop} {ws wr : va_W} {A : Nat → Prop} (hx : p.tables.exec = Jvm.exec) (hb : c.code = cc) (hml : c.maxLocals = nL) (hown : s.vm.findClass own = some m.cls) (hts : ∀ w ∈ wsL_law, w.before args s = true) (hE : Ev G A s s.heap) (hA : ∀ q : Nat, s.heap.size ≤ q → A q) (hsz : ls.size = nL)
    (hP : va_P G.1 vwCl ws H) (hD : va_D A ws) (hS : va_S A s.heap H locs)
    (hC : Ct l y cc' nL' none rm G (.ref b :: As) wc post) (hw : Cin own idx y cc' nL' n args s) (hR : rm.frames + 1 ≤ R.frames ∧ 8 + (nL' + 11) + rm.locals ≤ R.locals) (hf : cells + rm.cells ≤ R.cells ∧ slots + rm.slots ≤ R.slots) (hn : As.length = n) (isC isR : List Nat) (hiC : isC.map (fun i => ws[i]?) = wc.map some) (hiR : isR.map (fun i => ws[i]?) = wr.map some) (hd : va_nd isC = true ∧ va_nd isR = true ∧ (isR.all (fun i => !(isC.contains i))) = true)
    {st0 : List Value} (hst : st0 = As.reverse ++ .ref b :: rest) (hro : (rest.map fun v => v.category).sum ≤ 8) (hdg : decode cc pc = .ok (.invokespecial idx, 3))
    (kk : ∀ (v : Option Value) (w : va_W) (H1 : Heap) (locs1 : List Loc), post v w → va_P G.1 vwCl (wr ++ w) H1 → va_D A (wr ++ w) → va_S A s.heap H1 locs1 → W p l e R s m args below meth c H1 locs1 (cells + rm.cells) (slots + rm.slots) Q (F0 m (pc + 3) ls (v.toList ++ rest))) : W p l e R s m args below meth c H locs cells slots Q (F0 m pc ls st0) := by
  subst hst
  exact ct_back (va_runIN (As := As) (rest := rest) ⟨hx, hb, hml, hown, hts⟩ (hC H.size) (cin_of hw hts hE.2.1 hR) ⟨pct_blind, fun U hU hW => pct_of hP hD hS hA hE isC hiC hd.1 hU hW⟩ rfl hn hsz rfl (lv_room hro) hdg hf) hP hD hS hA isC isR hiC hiR hd.2.1 hd.2.2 kk
/-- a constructor that anyone may call -/
theorem ct_callK {post : Option Value → va_W → Prop} {ws wr : va_W} {A : Nat → Prop} (hx : p.tables.exec = Jvm.exec) (hb : c.code = cc) (hml : c.maxLocals = nL) (hown : s.vm.findClass own = some m.cls) (hts : ∀ w ∈ wsL_law, w.before args s = true) (hE : Ev G A s s.heap) (hA : ∀ q : Nat, s.heap.size ≤ q → A q) (hsz : ls.size = nL)
    (hP : va_P G.1 vwCl ws H) (hD : va_D A ws) (hS : va_S A s.heap H locs)
    (hC : Ct l y cc' nL' none rm G (.ref b :: As) wc post) (hw : Ci own idx y cc' nL' n args s) (hR : rm.frames + 1 ≤ R.frames ∧ 8 + (nL' + 11) + rm.locals ≤ R.locals) (hf : cells + rm.cells ≤ R.cells ∧ slots + rm.slots ≤ R.slots) (hn : As.length = n) (isC isR : List Nat) (hiC : isC.map (fun i => ws[i]?) = wc.map some) (hiR : isR.map (fun i => ws[i]?) = wr.map some) (hd : va_nd isC = true ∧ va_nd isR = true ∧ (isR.all (fun i => !(isC.contains i))) = true)
    {st0 : List Value} (hst : st0 = As.reverse ++ .ref b :: rest) (hro : (rest.map fun v => v.category).sum ≤ 8) (hdg : decode cc pc = .ok (.invokespecial idx, 3))
    (kk : ∀ (v : Option Value) (w : va_W) (H1 : Heap) (locs1 : List Loc), post v w → va_P G.1 vwCl (wr ++ w) H1 → va_D A (wr ++ w) → va_S A s.heap H1 locs1 → W p l e R s m args below meth c H1 locs1 (cells + rm.cells) (slots + rm.slots) Q (F0 m (pc + 3) ls (v.toList ++ rest))) : W p l e R s m args below meth c H locs cells slots Q (F0 m pc ls st0) := by
  subst hst
  exact ct_back (va_runI (As := As) (rest := rest) ⟨hx, hb, hml, hown, hts⟩ (hC H.size) (ci_of hw hts hR) ⟨pct_blind, fun U hU hW => pct_of hP hD hS hA hE isC hiC hd.1 hU hW⟩ rfl hn hsz rfl (lv_room hro) hdg hf) hP hD hS hA isC isR hiC hiR hd.2.1 hd.2.2 kk
end CALL
/-! truth as an int; an int as a place in a row -/
def zb (b : Bool) : Int32 := if b then 1 else 0
theorem zb_t : zb true = 1 := rfl
theorem zb_f : zb false = 0 := rfl
theorem zb_0 {b : Bool} : zb b = 0 ↔ b = false := by cases b <;> simp [zb]
theorem zb_1 {b : Bool} : zb b = 1 ↔ b = true := by cases b <;> simp [zb]
theorem zb_n0 {b : Bool} : ¬ zb b = 0 ↔ b = true := by cases b <;> simp [zb]
theorem zb_nar (b : Bool) : narrow .boolean (.int (zb b)) = .int (zb b) := by cases b <;> rfl
def inB (t : Int32) (n : Nat) : Bool := decide (0 ≤ t.toInt ∧ t.toInt < n)
theorem inB_iff {t : Int32} {n : Nat} : inB t n = true ↔ vp_in t n := by rw [inB, decide_eq_true_iff, vp_in_iff]
theorem inB_neg {t : Int32} {n : Nat} (h : t < 0) : inB t n = false := by
  cases hb : inB t n with
  | false => rfl
  | true => exact absurd (Or.inl h) (inB_iff.mp hb)
theorem inB_of {t : Int32} {n : Nat} (hn : n < 2 ^ 31) (h : ¬ t < 0) : inB t n = true ↔ ¬ nI n ≤ t := by
  obtain ⟨j, hj, rfl⟩ := nI_of h
  rw [nI_leI hn hj, inB, decide_eq_true_iff, nI_toInt hj]
  omega
theorem inB_ge {t : Int32} {n : Nat} (hn : n < 2 ^ 31) (h : nI n ≤ t) : inB t n = false := by
  by_cases h0 : t < 0
  · exact inB_neg h0
  · cases hb : inB t n with
    | false => rfl
    | true => exact absurd h ((inB_of hn h0).mp hb)
theorem inB_yes {t : Int32} {n : Nat} (hn : n < 2 ^ 31) (h : ¬ t < 0) (h2 : ¬ nI n ≤ t) : inB t n = true := (inB_of hn h).mpr h2
theorem inB_nI {k n : Nat} (hk : k < 2 ^ 31) : inB (nI k) n = decide (k < n) := by
  have h : inB (nI k) n = true ↔ k < n := by rw [inB, decide_eq_true_iff, nI_toInt hk]; omega
  by_cases hkn : k < n
  · rw [h.mpr hkn]; simp [hkn]
  · cases hb : inB (nI k) n with
    | false => simp [hkn]
    | true => exact absurd (h.mp hb) hkn
theorem vp_in_mono {t : Int32} {n N : Nat} (h : vp_in t n) (hn : n ≤ N) : vp_in t N := fun z => h (z.elim Or.inl (fun q => Or.inr (Nat.le_trans hn q)))
theorem inB_in {t : Int32} {n N : Nat} (h : inB t n = true) (hn : n ≤ N) : vp_in t N := vp_in_mono (inB_iff.mp h) hn
theorem inB_nat {t : Int32} {n : Nat} (h : inB t n = true) (hn : n < 2 ^ 31) : ∃ j : Nat, j < n ∧ t = nI j := vp_in_of (inB_iff.mp h) hn
abbrev ix (t : Int32) : Nat := t.toNatClampNeg
theorem ix_nI {k : Nat} (hk : k < 2 ^ 31) : (nI k).toNatClampNeg = k := nI_clamp hk
theorem lt_of_nle {k n : Nat} (hk : k < 2 ^ 31) (hn : n < 2 ^ 31) (h : ¬ nI n ≤ nI k) : k < n := by
  rw [nI_leI hn hk] at h
  omega
theorem le_of_le {k n : Nat} (hk : k < 2 ^ 31) (hn : n < 2 ^ 31) (h : nI n ≤ nI k) : n ≤ k := (nI_leI hn hk).mp h
/-- what a loop that goes to its end has done in k rounds -/
def it {σ : Type} (f : Nat → σ → σ) (s : σ) : Nat → σ
  | 0 => s
  | k + 1 => f k (it f s k)
theorem it_0 {σ : Type} (f : Nat → σ → σ) (s : σ) : it f s 0 = s := rfl
theorem it_s {σ : Type} (f : Nat → σ → σ) (s : σ) (k : Nat) : it f s (k + 1) = f k (it f s k) := rfl
theorem it_rel {σ τ : Type} (r : Nat → σ → τ → Prop) {f : Nat → σ → σ} {g : Nat → τ → τ} {s : σ} {t : τ} {n : Nat} (h0 : r 0 s t) (hs : ∀ k, k < n → ∀ a b, r k a b → r (k + 1) (f k a) (g k b)) : ∀ k, k ≤ n → r k (it f s k) (it g t k)
  | 0, _ => h0
  | k + 1, h => hs k (by omega) _ _ (it_rel r h0 hs k (by omega))
theorem it_cong {σ : Type} {f g : Nat → σ → σ} {s : σ} {n : Nat} (h : ∀ k, k < n → ∀ a, f k a = g k a) : it f s n = it g s n :=
  it_rel (fun _ a b => a = b) rfl (fun k hk a b e => by rw [e]; exact h k hk b) n (Nat.le_refl n)
theorem it_inv {σ : Type} (I : Nat → σ → Prop) {f : Nat → σ → σ} {s : σ} {n : Nat} (h0 : I 0 s) (hs : ∀ k, k < n → ∀ a, I k a → I (k + 1) (f k a)) : ∀ k, k ≤ n → I k (it f s k)
  | 0, _ => h0
  | k + 1, h => hs k (by omega) _ (it_inv I h0 hs k (by omega))
