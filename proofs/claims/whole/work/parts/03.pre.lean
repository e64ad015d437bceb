-- ===== the words of a method: its code, and all words of the tables =====
abbrev ws_ (y : MethodName) (c : ByteArray) (n : Nat) (ret : Option FieldType) : List Cond := .code y c n ret :: lw_all
theorem lw_good : GoodIn lw_all lw_all := fun w h => ⟨h, good_of_word (List.mem_filter.mp h).2⟩
theorem ws_good {y : MethodName} {c : ByteArray} {n : Nat} {ret : Option FieldType} (hc : Cond.code y c n ret ∈ lw_all) : GoodIn lw_all (ws_ y c n ret) := fun w h => by
  rcases List.mem_cons.mp h with rfl | h
  · exact lw_good _ hc
  · exact lw_good _ h
-- ===== classes, worlds =====
theorem in_X0 : ∀ w ∈ u_ws RX0 TX0 8, w ∈ lw_all := List.forall_mem_cons.mpr ⟨q73, List.forall_mem_cons.mpr ⟨q75, List.forall_mem_cons.mpr ⟨q77, List.forall_mem_cons.mpr ⟨q79, List.forall_mem_cons.mpr ⟨q81, List.forall_mem_cons.mpr ⟨q83, List.forall_mem_cons.mpr ⟨q85, List.forall_mem_cons.mpr ⟨q87, fun _ h => absurd h List.not_mem_nil⟩⟩⟩⟩⟩⟩⟩⟩
theorem in_X1 : ∀ w ∈ u_ws RX1 TX1 2, w ∈ lw_all := List.forall_mem_cons.mpr ⟨q58, List.forall_mem_cons.mpr ⟨q60, fun _ h => absurd h List.not_mem_nil⟩⟩
theorem in_X2 : ∀ w ∈ u_ws RX2 TX2 12, w ∈ lw_all := List.forall_mem_cons.mpr ⟨q113, List.forall_mem_cons.mpr ⟨q115, List.forall_mem_cons.mpr ⟨q117, List.forall_mem_cons.mpr ⟨q119, List.forall_mem_cons.mpr ⟨q121, List.forall_mem_cons.mpr ⟨q123, List.forall_mem_cons.mpr ⟨q125, List.forall_mem_cons.mpr ⟨q127, List.forall_mem_cons.mpr ⟨q129, List.forall_mem_cons.mpr ⟨q131, List.forall_mem_cons.mpr ⟨q133, List.forall_mem_cons.mpr ⟨q135, fun _ h => absurd h List.not_mem_nil⟩⟩⟩⟩⟩⟩⟩⟩⟩⟩⟩⟩
theorem in_X3 : ∀ w ∈ u_ws RX3 TX3 6, w ∈ lw_all := List.forall_mem_cons.mpr ⟨q147, List.forall_mem_cons.mpr ⟨q149, List.forall_mem_cons.mpr ⟨q151, List.forall_mem_cons.mpr ⟨q153, List.forall_mem_cons.mpr ⟨q155, List.forall_mem_cons.mpr ⟨q157, fun _ h => absurd h List.not_mem_nil⟩⟩⟩⟩⟩⟩
abbrev classes : List vw_C := [(RX0, TX0, 8), (RX1, TX1, 2), (RX2, TX2, 12), (RX3, TX3, 6), (RX4, TX4, 19)]
/-- the class ids of the arrays: int[], long[] -/
abbrev tysX (cy : Nat → ClassId) : List (ClassId × FieldType) := [(cy 0, .int), (cy 1, .long)]
def NW (U : State) : Prop := va_Nw (Jvm.Cond.methodLinkNest "PegshoreHouse" (9 : Nat) ({ cls := "PegshoreHouse$Board", name := "<init>", desc := "()V" } : Jvm.MethodName) "PegshoreHouse") U ∧ va_Nw (Jvm.Cond.fieldLinkNest "PegshoreHouse" (44 : Nat) "PegshoreHouse$Board" "kind" "C" "PegshoreHouse") U ∧ va_Nw (Jvm.Cond.fieldLinkNest "PegshoreHouse" (187 : Nat) "PegshoreHouse$Walk" "size" "I" "PegshoreHouse") U ∧ va_Nw (Jvm.Cond.fieldLinkNest "PegshoreHouse" (189 : Nat) "PegshoreHouse$Walk" "deadCount" "I" "PegshoreHouse") U ∧ va_Nw (Jvm.Cond.fieldLinkNest "PegshoreHouse" (192 : Nat) "PegshoreHouse$Walk" "fewestPegs" "I" "PegshoreHouse") U ∧ va_Nw (Jvm.Cond.fieldLinkNest "PegshoreHouse" (202 : Nat) "PegshoreHouse$Walk" "touched" "I" "PegshoreHouse") U ∧ va_Nw (Jvm.Cond.fieldLinkNest "PegshoreHouse" (266 : Nat) "PegshoreHouse$Walk" "jumpSum" "I" "PegshoreHouse") U
theorem NW.warm {s U : State} (hW : s.WarmedH U.vm) (h : NW s) : NW U := ⟨(va_Nw.warmM hW h.1), (va_Nw.warmF hW h.2.1), (va_Nw.warmF hW h.2.2.1), (va_Nw.warmF hW h.2.2.2.1), (va_Nw.warmF hW h.2.2.2.2.1), (va_Nw.warmF hW h.2.2.2.2.2.1), (va_Nw.warmF hW h.2.2.2.2.2.2)⟩
theorem NW.same {u U : State} (hv : u.vm = U.vm) (h : NW u) : NW U := ⟨(va_Nw.same rfl hv h.1), (va_Nw.same rfl hv h.2.1), (va_Nw.same rfl hv h.2.2.1), (va_Nw.same rfl hv h.2.2.2.1), (va_Nw.same rfl hv h.2.2.2.2.1), (va_Nw.same rfl hv h.2.2.2.2.2.1), (va_Nw.same rfl hv h.2.2.2.2.2.2)⟩
def kwX (dC : Nat → ClassId) (dI : Nat → Nat → Nat) (cy : Nat → ClassId) (U : State) : Prop := va_K (dC, dI) classes (tysX cy) U ∧ NW U
theorem kwX.warm {dC : Nat → ClassId} {dI : Nat → Nat → Nat} {cy : Nat → ClassId} {s U : State} (hW : s.WarmedH U.vm) (h : kwX dC dI cy s) : kwX dC dI cy U := ⟨va_K.moved hW.alike h.1, h.2.warm hW⟩
theorem kwX.calling {dC : Nat → ClassId} {dI : Nat → Nat → Nat} {cy : Nat → ClassId} {U : State} {g : JFrame} {mk : MethodId} {a : Array Value} (h : kwX dC dI cy U) : kwX dC dI cy (U.calling g mk a) := ⟨va_K.moved (u := U) (U := U.calling g mk a) (Vm.Alike.refl U.vm) h.1, h.2.same rfl⟩
/-- the state of the class' side: scalars, int rows, the ways -/
abbrev SX : Type := (Nat → Int32) × (Nat → Nat → Int32) × (Nat → Int64)
def sI (σ : SX) (k : Nat) (v : Int32) : SX := (fun j => bif Nat.beq j k then v else σ.1 j, σ.2)
def sA (σ : SX) (k : Nat) (f : Nat → Int32) : SX := (σ.1, fun j => bif Nat.beq j k then f else σ.2.1 j, σ.2.2)
def sJ (σ : SX) (f : Nat → Int64) : SX := (σ.1, σ.2.1, f)
def wR (a0 a1 : Nat) (cy : Nat → ClassId) (cap : Nat) (f : Nat → Int32) (n : Int32) : va_W := [(a0, .inr (1, [.ref a1, .int n])), (a1, .inl (cy 0, cap, .inl f))]
def wB (h : Nat → Nat) (cy : Nat → ClassId) (σ : SX) : va_W := [(h 0, .inr (0, [.int (σ.1 0), .int (σ.1 1), .ref (h 1), .ref (h 2), .ref (h 4), .ref (h 6), .ref (h 8), .ref (h 10)])), (h 1, .inl (cy 0, 25, .inl (σ.2.1 0))), (h 2, .inr (1, [.ref (h 3), .int (σ.1 2)])), (h 3, .inl (cy 0, 13, .inl (σ.2.1 1))), (h 4, .inr (1, [.ref (h 5), .int (σ.1 3)])), (h 5, .inl (cy 0, 104, .inl (σ.2.1 2))), (h 6, .inr (1, [.ref (h 7), .int (σ.1 4)])), (h 7, .inl (cy 0, 104, .inl (σ.2.1 3))), (h 8, .inr (1, [.ref (h 9), .int (σ.1 5)])), (h 9, .inl (cy 0, 104, .inl (σ.2.1 4))), (h 10, .inr (1, [.ref (h 11), .int (σ.1 6)])), (h 11, .inl (cy 0, 104, .inl (σ.2.1 5)))]
def wW (h : Nat → Nat) (cy : Nat → ClassId) (σ : SX) : va_W := [(h 0, .inr (0, [.int (σ.1 0), .int (σ.1 1), .ref (h 1), .ref (h 2), .ref (h 4), .ref (h 6), .ref (h 8), .ref (h 10)])), (h 1, .inl (cy 0, 25, .inl (σ.2.1 0))), (h 2, .inr (1, [.ref (h 3), .int (σ.1 2)])), (h 3, .inl (cy 0, 13, .inl (σ.2.1 1))), (h 4, .inr (1, [.ref (h 5), .int (σ.1 3)])), (h 5, .inl (cy 0, 104, .inl (σ.2.1 2))), (h 6, .inr (1, [.ref (h 7), .int (σ.1 4)])), (h 7, .inl (cy 0, 104, .inl (σ.2.1 3))), (h 8, .inr (1, [.ref (h 9), .int (σ.1 5)])), (h 9, .inl (cy 0, 104, .inl (σ.2.1 4))), (h 10, .inr (1, [.ref (h 11), .int (σ.1 6)])), (h 11, .inl (cy 0, 104, .inl (σ.2.1 5))), (h 12, .inr (2, [.ref (h 0), .ref (h 13), .ref (h 14), .ref (h 15), .int (σ.1 7), .int (σ.1 8), .int (σ.1 9), .int (σ.1 10), .int (σ.1 11), .int (σ.1 12), .int (σ.1 13), .int (σ.1 14)])), (h 13, .inl (cy 0, 8192, .inl (σ.2.1 6))), (h 14, .inl (cy 1, 8192, .inr (.inl σ.2.2))), (h 15, .inl (cy 0, 10240, .inl (σ.2.1 7)))]
def wH (h : Nat → Nat) (cy : Nat → ClassId) (σ : SX) : va_W := [(h 0, .inr (0, [.int (σ.1 0), .int (σ.1 1), .ref (h 1), .ref (h 2), .ref (h 4), .ref (h 6), .ref (h 8), .ref (h 10)])), (h 1, .inl (cy 0, 25, .inl (σ.2.1 0))), (h 2, .inr (1, [.ref (h 3), .int (σ.1 2)])), (h 3, .inl (cy 0, 13, .inl (σ.2.1 1))), (h 4, .inr (1, [.ref (h 5), .int (σ.1 3)])), (h 5, .inl (cy 0, 104, .inl (σ.2.1 2))), (h 6, .inr (1, [.ref (h 7), .int (σ.1 4)])), (h 7, .inl (cy 0, 104, .inl (σ.2.1 3))), (h 8, .inr (1, [.ref (h 9), .int (σ.1 5)])), (h 9, .inl (cy 0, 104, .inl (σ.2.1 4))), (h 10, .inr (1, [.ref (h 11), .int (σ.1 6)])), (h 11, .inl (cy 0, 104, .inl (σ.2.1 5))), (h 12, .inr (2, [.ref (h 0), .ref (h 13), .ref (h 14), .ref (h 15), .int (σ.1 7), .int (σ.1 8), .int (σ.1 9), .int (σ.1 10), .int (σ.1 11), .int (σ.1 12), .int (σ.1 13), .int (σ.1 14)])), (h 13, .inl (cy 0, 8192, .inl (σ.2.1 6))), (h 14, .inl (cy 1, 8192, .inr (.inl σ.2.2))), (h 15, .inl (cy 0, 10240, .inl (σ.2.1 7))), (h 16, .inr (3, [.ref (h 0), .ref (h 12), .ref (h 17), .ref (h 19), .int (σ.1 15), .int (σ.1 16)])), (h 17, .inr (1, [.ref (h 18), .int (σ.1 17)])), (h 18, .inl (cy 0, 12, .inl (σ.2.1 8))), (h 19, .inr (1, [.ref (h 20), .int (σ.1 18)])), (h 20, .inl (cy 0, 12, .inl (σ.2.1 9)))]
-- ===== a method's body =====
def Cx (p : Program) (s : State) (m : MethodId) (args : Array Value) (meth : Method) (c : Code) (own : String) (cc : ByteArray) (nL : Nat) (ret : Option FieldType) : Prop :=
  p.tables.exec = Jvm.exec ∧ c.code = cc ∧ meth.sig.returnType = ret ∧ c.maxLocals = nL ∧ s.vm.findClass own = some m.cls ∧ (∀ w ∈ lw_all, w.before args s = true) ∧ meth.locks = false
theorem Met.ofCx {l : Launch} {y : MethodName} {rm : Room} {Pc' : State → Prop} {Qc : Array Value → State → Outcome → State → Prop} {mc ms : Nat} {free : Addr → Prop} {cc : ByteArray} {nL : Nat} {ret : Option FieldType} {av : List Value} {own : String}
    (hy : plainName y.cls = true) (ho : y.cls = own) (hn : (lg_sl av).length ≤ nL)
    (body : ∀ (p : Program) (e : Env) (s : State) (m : MethodId) (below : List Frame) (meth : Method) (c : Code), Cx p s m av.toArray meth c own cc nL ret → Pc' s → ∀ ls : Array Slot, lv_has ls nL (lv_args 0 av) →
      W p l e rm s m av.toArray below meth c s.heap [] 0 0 (MQ below Qc av.toArray s mc ms free) (F0 m 0 ls [])) :
    Met l y (ws_ y cc nL ret) rm (va_Pc av Pc') Qc mc ms free := by
  refine Met.ofW (cc := cc) (maxL := nL) (ret := ret) hy rfl ?_
  intro p e s m args below meth c s₁ B hml hv
  obtain ⟨rfl, hv⟩ := hv
  have hts := atoms_spec (ws := ws_ y cc nL ret) B.pre
  have hC : Cx p s m av.toArray meth c own cc nL ret := ⟨B.exec, B.bytes, B.returns, hml, by rw [← ho]; exact findClass_of_methodNamed B.named, fun w h => hts w (List.mem_cons_of_mem _ h), B.notSynchronized⟩
  rw [lg_entry_eq]
  exact body p e s m below meth c hC hv _ (lv_entry av hn)
/-- what a call needs to know of its method -/
def KV (C : String) (y : MethodName) (bytes : ByteArray) (maxL : Nat) (ret : Option FieldType) (n : Nat) : Prop :=
  Cond.instanceMethod y ∈ lw_all ∧ Cond.selects C y y ∈ lw_all ∧ Cond.initialized y.cls ∈ lw_all ∧ Cond.code y bytes maxL ret ∈ lw_all ∧ (y.cls ≠ "java/lang/invoke/MethodHandle" ∧ y.cls ≠ "java/lang/invoke/VarHandle" ∧ (parseMethodDescriptor y.desc).map (fun d => d.parameters.length) = some n)
def KS (y : MethodName) (bytes : ByteArray) (maxL : Nat) (ret : Option FieldType) (n : Nat) : Prop :=
  Cond.static y ∈ lw_all ∧ Cond.initialized y.cls ∈ lw_all ∧ Cond.code y bytes maxL ret ∈ lw_all ∧ (y.cls ≠ "java/lang/invoke/MethodHandle" ∧ y.cls ≠ "java/lang/invoke/VarHandle" ∧ (parseMethodDescriptor y.desc).map (fun d => d.parameters.length) = some n)
section CALLS
variable {p : Program} {l : Launch} {e : Env} {R : Room} {s : State} {m : MethodId} {args : Array Value} {below : List Frame} {meth : Method} {c : Code} {H : Heap} {locs : List Loc} {cells slots : Nat} {Q : State → Prop}
  {cc bytes : ByteArray} {nL maxL index n pc : Nat} {own Cn : String} {y : MethodName} {ret rt : Option FieldType} {rm : Room} {ls : Array Slot} {As rest st0 : List Value} {b ci N : Nat} {T : u_T} {fs : List Value} {wc : va_W} {dC : Nat → ClassId} {dI : Nat → Nat → Nat} {cy : Nat → ClassId}
theorem cbV (hts : ∀ w ∈ lw_all, w.before args s = true) (k : KV Cn y bytes maxL ret n) (hlink : Cond.methodLink own index y ∈ lw_all) {mc ms : Nat} (hrm : rm.cells = mc ∧ rm.slots = ms) (hR : rm.frames + 1 ≤ R.frames ∧ 8 + (maxL + 11) + rm.locals ≤ R.locals) :
    CallW R s args own Cn index y bytes maxL ret (ws_ y bytes maxL ret) rm mc ms n :=
  ⟨callB_of n hts (ws_good k.2.2.2.1) rfl hrm.1 hrm.2 (hts _ k.2.2.1) (hts _ hlink) k.2.2.2.2 hR, hts _ k.1, hts _ k.2.1⟩
theorem cbS (hts : ∀ w ∈ lw_all, w.before args s = true) (k : KS y bytes maxL ret n) (hlink : Cond.methodLink own index y ∈ lw_all) {mc ms : Nat} (hrm : rm.cells = mc ∧ rm.slots = ms) (hR : rm.frames + 1 ≤ R.frames ∧ 8 + (maxL + 11) + rm.locals ≤ R.locals) :
    CallB R s args own index y bytes maxL ret (ws_ y bytes maxL ret) rm mc ms n ∧ (Cond.static y).before args s = true :=
  ⟨callB_of n hts (ws_good k.2.2.1) rfl hrm.1 hrm.2 (hts _ k.2.1) (hts _ hlink) k.2.2.2 hR, hts _ k.1⟩
theorem preP (q0 : Nat) (hK : kwX dC dI cy s) (hP : va_P (dC, dI) classes wc H) (he : wc[q0]? = some (b, .inr (ci, fs))) (hcl : classes[ci]? = some (Cn, T, N)) :
    PreV s H Cn b (va_Pc (.ref b :: As) (fun U => va_P (dC, dI) classes wc U.heap ∧ kwX dC dI cy U)) As :=
  ⟨fun a U g mk q => ⟨q.1, q.2.1, q.2.2.calling⟩, va_recv hK.1 hP hcl he, fun U hU hW => ⟨rfl, by rw [hU]; exact hP, hK.warm hW⟩⟩
/-- a call of a method that only reads -/
theorem cpVi {P : Int32 → Prop} (q0 : Nat) (hC : Cx p s m args meth c own cc nL rt) (hK : kwX dC dI cy s) (hP : va_P (dC, dI) classes wc H) (he : wc[q0]? = some (b, .inr (ci, fs))) (hcl : classes[ci]? = some (Cn, T, N))
    (hM : Met l y (ws_ y bytes maxL ret) rm (va_Pc (.ref b :: As) (fun U => va_P (dC, dI) classes wc U.heap ∧ kwX dC dI cy U)) (vp_Si P) 0 0 (fun _ => False)) (k : KV Cn y bytes maxL ret n) (hlink : Cond.methodLink own index y ∈ lw_all)
    (hrm : rm.cells = 0 ∧ rm.slots = 0) (hR : rm.frames + 1 ≤ R.frames ∧ 8 + (maxL + 11) + rm.locals ≤ R.locals) (hl : ls.size = nL) (hn : As.length = n) (hst : st0 = As.reverse ++ .ref b :: rest) (hr : (rest.map fun v => v.category).sum ≤ 8) (hdg : decode cc pc = .ok (.invokevirtual index, 3)) (hf : cells ≤ R.cells ∧ slots ≤ R.slots)
    (kk : ∀ r : Int32, P r → W p l e R s m args below meth c H locs cells slots Q (F0 m (pc + 3) ls (.int r :: rest))) : W p l e R s m args below meth c H locs cells slots Q (F0 m pc ls st0) :=
  vp_callSi (W.runV (b := b) (As := As) (rest := rest) ⟨hC.1, hC.2.1, hC.2.2.2.1, hC.2.2.2.2.1, hC.2.2.2.2.2.1⟩ hM (cbV hC.2.2.2.2.2.1 k hlink hrm hR) (preP q0 hK hP he hcl) rfl hn hl hst (lv_room hr) hdg hf) kk
theorem cpVl {P : Int64 → Prop} (q0 : Nat) (hC : Cx p s m args meth c own cc nL rt) (hK : kwX dC dI cy s) (hP : va_P (dC, dI) classes wc H) (he : wc[q0]? = some (b, .inr (ci, fs))) (hcl : classes[ci]? = some (Cn, T, N))
    (hM : Met l y (ws_ y bytes maxL ret) rm (va_Pc (.ref b :: As) (fun U => va_P (dC, dI) classes wc U.heap ∧ kwX dC dI cy U)) (vp_Sl P) 0 0 (fun _ => False)) (k : KV Cn y bytes maxL ret n) (hlink : Cond.methodLink own index y ∈ lw_all)
    (hrm : rm.cells = 0 ∧ rm.slots = 0) (hR : rm.frames + 1 ≤ R.frames ∧ 8 + (maxL + 11) + rm.locals ≤ R.locals) (hl : ls.size = nL) (hn : As.length = n) (hst : st0 = As.reverse ++ .ref b :: rest) (hr : (rest.map fun v => v.category).sum ≤ 8) (hdg : decode cc pc = .ok (.invokevirtual index, 3)) (hf : cells ≤ R.cells ∧ slots ≤ R.slots)
    (kk : ∀ r : Int64, P r → W p l e R s m args below meth c H locs cells slots Q (F0 m (pc + 3) ls (.long r :: rest))) : W p l e R s m args below meth c H locs cells slots Q (F0 m pc ls st0) :=
  vp_callSl (W.runV (b := b) (As := As) (rest := rest) ⟨hC.1, hC.2.1, hC.2.2.2.1, hC.2.2.2.2.1, hC.2.2.2.2.2.1⟩ hM (cbV hC.2.2.2.2.2.1 k hlink hrm hR) (preP q0 hK hP he hcl) rfl hn hl hst (lv_room hr) hdg hf) kk
/-- a call of a static method that looks at no heap -/
theorem cpSi {P : Int32 → Prop} (hC : Cx p s m args meth c own cc nL rt) 
    (hM : Met l y (ws_ y bytes maxL ret) rm (va_Pc As (fun _ => True)) (vp_Si P) 0 0 (fun _ => False)) (k : KS y bytes maxL ret n) (hlink : Cond.methodLink own index y ∈ lw_all)
    (hrm : rm.cells = 0 ∧ rm.slots = 0) (hR : rm.frames + 1 ≤ R.frames ∧ 8 + (maxL + 11) + rm.locals ≤ R.locals) (hl : ls.size = nL) (hn : As.length = n) (hst : st0 = As.reverse ++ rest) (hr : (rest.map fun v => v.category).sum ≤ 8) (hdg : decode cc pc = .ok (.invokestatic index, 3)) (hf : cells ≤ R.cells ∧ slots ≤ R.slots)
    (kk : ∀ r : Int32, P r → W p l e R s m args below meth c H locs cells slots Q (F0 m (pc + 3) ls (.int r :: rest))) : W p l e R s m args below meth c H locs cells slots Q (F0 m pc ls st0) :=
  vp_callSi (W.runS (As := As) (rest := rest) ⟨hC.1, hC.2.1, hC.2.2.2.1, hC.2.2.2.2.1, hC.2.2.2.2.2.1⟩ hM (cbS hC.2.2.2.2.2.1 k hlink hrm hR) ⟨fun a U g mk q => q, fun U hU hW => ⟨rfl, trivial⟩⟩ rfl hn hl hst (lv_room hr) hdg hf) kk
end CALLS
def bz (v : Int32) : Prop := narrow .boolean (.int v) = .int v
def jmin (x y : Int32) : Int32 := if y < x then y else x
def jmax (x y : Int32) : Int32 := if x < y then y else x
def jabs (x : Int32) : Int32 := if 0 ≤ x then x else 0 - x
/-- what a call of the board's alone, or of the walk's alone, leaves of a house -/
def mgX0 (σ u : SX) : SX := (fun j => bif Nat.blt j 7 then u.1 j else σ.1 j, fun j => bif Nat.blt j 6 then u.2.1 j else σ.2.1 j, σ.2.2)
def mgX2 (σ u : SX) : SX := (fun j => bif Nat.blt j 15 then u.1 j else σ.1 j, fun j => bif Nat.blt j 8 then u.2.1 j else σ.2.1 j, u.2.2)
section WCALLS
variable {p : Program} {l : Launch} {e : Env} {R : Room} {s : State} {m : MethodId} {args : Array Value} {below : List Frame} {meth : Method} {c : Code} {H H0 : Heap} {locs : List Loc} {cells slots : Nat} {Q : State → Prop}
  {cc bytes : ByteArray} {nL maxL index n pc : Nat} {own Cn : String} {y : MethodName} {ret rt : Option FieldType} {rm : Room} {ls : Array Slot} {As rest st0 : List Value} {b ci N : Nat} {T : u_T} {fs : List Value} {wc : va_W} {dC : Nat → ClassId} {dI : Nat → Nat → Nat} {cy : Nat → ClassId} {A0 A1 : Nat → Prop} {S : Type} {wn : S → va_W}
theorem preW (q0 : Nat) (hK : kwX dC dI cy s) (hP : va_P (dC, dI) classes wc H) (hD : va_D A1 wc) (he : wc[q0]? = some (b, .inr (ci, fs))) (hcl : classes[ci]? = some (Cn, T, N)) :
    PreV s H Cn b (va_Pc (.ref b :: As) (fun U => U.heap.size = H.size ∧ va_P (dC, dI) classes wc U.heap ∧ kwX dC dI cy U ∧ va_D (fun _ => True) wc)) As :=
  ⟨fun a U g mk q => ⟨q.1, q.2.1, q.2.2.1, q.2.2.2.1.calling, q.2.2.2.2⟩, va_recv hK.1 hP hcl he, fun U hU hW => ⟨rfl, by rw [hU], by rw [hU]; exact hP, hK.warm hW, hD.weaken (fun _ _ _ _ => trivial)⟩⟩
/-- a call of a method that writes in its own world -/
theorem cwVv {P : S → Prop} (q0 : Nat) (hC : Cx p s m args meth c own cc nL rt) (hK : kwX dC dI cy s) (hP : va_P (dC, dI) classes wc H) (hD : va_D A1 wc) (he : wc[q0]? = some (b, .inr (ci, fs))) (hcl : classes[ci]? = some (Cn, T, N)) (hS : va_S A0 H0 H locs) (hF : ∀ q, va_A wc H.size q → A0 q)
    (hM : Met l y (ws_ y bytes maxL ret) rm (va_Pc (.ref b :: As) (fun U => U.heap.size = H.size ∧ va_P (dC, dI) classes wc U.heap ∧ kwX dC dI cy U ∧ va_D (fun _ => True) wc)) (va_Qv P (fun (u : S) t => va_P (dC, dI) classes (wn u) t.heap ∧ kwX dC dI cy t ∧ va_D (va_A wc H.size) (wn u)) (va_A wc H.size)) 0 0 (va_A wc H.size)) (k : KV Cn y bytes maxL ret n) (hlink : Cond.methodLink own index y ∈ lw_all)
    (hrm : rm.cells = 0 ∧ rm.slots = 0) (hR : rm.frames + 1 ≤ R.frames ∧ 8 + (maxL + 11) + rm.locals ≤ R.locals) (hl : ls.size = nL) (hn : As.length = n) (hst : st0 = As.reverse ++ .ref b :: rest) (hr : (rest.map fun v => v.category).sum ≤ 8) (hdg : decode cc pc = .ok (.invokevirtual index, 3)) (hf : cells ≤ R.cells ∧ slots ≤ R.slots)
    (kk : ∀ (u : S) (H1 : Heap) (locs1 : List Loc), P u → va_P (dC, dI) classes (wn u) H1 → va_D (va_A wc H.size) (wn u) → (∀ q : Nat, q < H.size → ¬ va_A wc H.size q → H1[q]? = H[q]?) → va_S A0 H0 H1 locs1 → W p l e R s m args below meth c H1 locs1 cells slots Q (F0 m (pc + 3) ls rest)) : W p l e R s m args below meth c H locs cells slots Q (F0 m pc ls st0) :=
  va_callv (va_runV (b := b) (As := As) (rest := rest) ⟨hC.1, hC.2.1, hC.2.2.2.1, hC.2.2.2.2.1, hC.2.2.2.2.2.1⟩ hM (cbV hC.2.2.2.2.2.1 k hlink hrm hR) (preW q0 hK hP hD he hcl) rfl hn hl hst (lv_room hr) hdg hf) hS (fun q _ h => hF q h) hF (fun u t H1 locs1 ht hvm hw hB hz1 hk1 hS1 => kk u H1 locs1 hw (by rw [← ht]; exact hB.1) hB.2.2 hk1 hS1)
theorem cwVi {P : Int32 → S → Prop} (q0 : Nat) (hC : Cx p s m args meth c own cc nL rt) (hK : kwX dC dI cy s) (hP : va_P (dC, dI) classes wc H) (hD : va_D A1 wc) (he : wc[q0]? = some (b, .inr (ci, fs))) (hcl : classes[ci]? = some (Cn, T, N)) (hS : va_S A0 H0 H locs) (hF : ∀ q, va_A wc H.size q → A0 q)
    (hM : Met l y (ws_ y bytes maxL ret) rm (va_Pc (.ref b :: As) (fun U => U.heap.size = H.size ∧ va_P (dC, dI) classes wc U.heap ∧ kwX dC dI cy U ∧ va_D (fun _ => True) wc)) (va_Qi P (fun (u : S) t => va_P (dC, dI) classes (wn u) t.heap ∧ kwX dC dI cy t ∧ va_D (va_A wc H.size) (wn u)) (va_A wc H.size)) 0 0 (va_A wc H.size)) (k : KV Cn y bytes maxL ret n) (hlink : Cond.methodLink own index y ∈ lw_all)
    (hrm : rm.cells = 0 ∧ rm.slots = 0) (hR : rm.frames + 1 ≤ R.frames ∧ 8 + (maxL + 11) + rm.locals ≤ R.locals) (hl : ls.size = nL) (hn : As.length = n) (hst : st0 = As.reverse ++ .ref b :: rest) (hr : (rest.map fun v => v.category).sum ≤ 8) (hdg : decode cc pc = .ok (.invokevirtual index, 3)) (hf : cells ≤ R.cells ∧ slots ≤ R.slots)
    (kk : ∀ (r : Int32) (u : S) (H1 : Heap) (locs1 : List Loc), P r u → va_P (dC, dI) classes (wn u) H1 → va_D (va_A wc H.size) (wn u) → (∀ q : Nat, q < H.size → ¬ va_A wc H.size q → H1[q]? = H[q]?) → va_S A0 H0 H1 locs1 → W p l e R s m args below meth c H1 locs1 cells slots Q (F0 m (pc + 3) ls (.int r :: rest))) : W p l e R s m args below meth c H locs cells slots Q (F0 m pc ls st0) :=
  va_calli (va_runV (b := b) (As := As) (rest := rest) ⟨hC.1, hC.2.1, hC.2.2.2.1, hC.2.2.2.2.1, hC.2.2.2.2.2.1⟩ hM (cbV hC.2.2.2.2.2.1 k hlink hrm hR) (preW q0 hK hP hD he hcl) rfl hn hl hst (lv_room hr) hdg hf) hS (fun q _ h => hF q h) hF (fun r u t H1 locs1 ht hvm hw hB hz1 hk1 hS1 => kk r u H1 locs1 hw (by rw [← ht]; exact hB.1) hB.2.2 hk1 hS1)
end WCALLS
