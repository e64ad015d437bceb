-- ===== methods that throw: one world, one exception a call =====
abbrev exN : List String := ["java/lang/RuntimeException", "java/lang/Exception"]
def strsX : List (Nat × String) := [(39, "no such kind"), (279, "no such cell"), (64, "a hole already"), (73, "13 holes already"), (90, "no hole"), (283, "no such hole"), (286, "a peg without a hole"), (290, "this jump cannot be made"), (142, "no such jump"), (147, "no jump was made"), (182, "no jump keeps the end"), (195, "more than 10 holes"), (200, "the end cannot be come to"), (205, "no peg"), (207, "weight out of range"), (222, "the weights are a proof"), (288, "no such colouring"), (239, "no jump wins"), (241, "12 holes are told"), (249, "the row has a fault"), (251, "the row has no fault"), (259, "no holes")]
def XS (sa : Nat → Nat) (U : State) : Prop := ∀ (k : Nat) (q : Nat × String), strsX[k]? = some q → vk_R RX3 q.1 q.2 (sa k) U
theorem XS.warm {sa : Nat → Nat} {s U : State} (hW : s.WarmedH U.vm) (h : XS sa s) : XS sa U := fun k q hq => vk_R.warm hW (h k q hq)
theorem XS.calling {sa : Nat → Nat} {U : State} {g : JFrame} {mk : MethodId} {a : Array Value} (h : XS sa U) : XS sa (U.calling g mk a) := fun k q hq => vk_R.same rfl (h k q hq)
def XZ (A : Nat → Prop) (U : State) (H : Heap) : Prop := vx_Zq Bundle.tN "UNASSIGNED_STACK" Bundle.steD A U H ∧ vx_Zq Bundle.tN "SUPPRESSED_SENTINEL" Bundle.listD A U H
theorem XZ.moved {A : Nat → Prop} {u U : State} {H : Heap} (hvm : u.vm.Alike U.vm) (h : XZ A u H) : XZ A U H := ⟨h.1.moved hvm, h.2.moved hvm⟩
theorem XZ.kept {A : Nat → Prop} {U : State} {H H1 : Heap} (h : XZ A U H) (hq : ∀ a : Nat, a < H.size → ¬ A a → H1[a]? = H[a]?) : XZ A U H1 := ⟨h.1.kept hq, h.2.kept hq⟩
theorem XZ.narrow {A B : Nat → Prop} {U : State} {H : Heap} (h : XZ A U H) (hAB : ∀ q, B q → A q) : XZ B U H := ⟨h.1.narrow hAB, h.2.narrow hAB⟩
def AtW (own : String) (ik ic : Nat) (cls : String) : Prop :=
  Cond.classLink own ik cls ∈ lw_all ∧ Cond.initialized cls ∈ lw_all ∧ (∀ w ∈ vx_atS own ic cls exN, w ∈ tables_1) ∧ (∀ w ∈ (vx_atS own ic cls exN).filter (fun w => !goodWord w), w ∈ nwB) ∧ (∀ w ∈ Cond.classLink own ik cls :: Cond.initialized cls :: vx_atS own ic cls exN, vx_ot w = true) ∧ Bundle.fit cls = true
theorem AtW.all {own cls : String} {ik ic : Nat} (h : AtW own ik ic cls) {args : Array Value} {s : State} (hts : ∀ w ∈ lw_all, w.before args s = true) (hN : NW s) : ∀ w ∈ vx_atS own ic cls exN, w.before args s = true :=
  vx_hat (B := nwB) (fun w hw => hts w (lw_all_of (h.2.2.1 w (List.mem_filter.mp hw).1) (List.mem_filter.mp hw).2)) h.2.2.2.1 (fun w hw => hN.words w hw)
def AtN (own : String) (ik ic ix : Nat) (rx : ByteArray) : Prop :=
  Cond.classLink own ik nsE ∈ lw_all ∧ Cond.initialized nsE ∈ lw_all ∧ (∀ w ∈ (nsW own ic ix rx).filter vx_no, w ∈ tables_1) ∧ (∀ w ∈ ((nsW own ic ix rx).filter vx_no).filter (fun w => !goodWord w), w ∈ nwB) ∧ (∀ w ∈ Cond.classLink own ik nsE :: Cond.initialized nsE :: (nsW own ic ix rx).filter vx_no, vx_ot w = true) ∧
  decode rx 0 = .ok (.aload_n 0, 1) ∧ decode rx 1 = .ok (.aload_n 1, 1) ∧ decode rx 2 = .ok (.invokespecial ix, 3) ∧ decode rx 5 = .ok (.return_, 1)
theorem at_37_41 : AtW RX3 37 41 "java/lang/IllegalArgumentException" := ⟨q397, q12, by decide +kernel, by decide +kernel, by decide +kernel, by decide +kernel⟩
theorem at_62_66 : AtW RX3 62 66 "java/lang/UnsupportedOperationException" := ⟨q513, q21, by decide +kernel, by decide +kernel, by decide +kernel, by decide +kernel⟩
theorem at_71_75 : AtW RX3 71 75 "java/lang/IllegalStateException" := ⟨q529, q22, by decide +kernel, by decide +kernel, by decide +kernel, by decide +kernel⟩
theorem at_95_97 : AtN RX3 95 97 13 prog_44_method_4_code := ⟨q574, q24, by decide +kernel, by decide +kernel, by decide +kernel, by decide +kernel, by decide +kernel, by decide +kernel, by decide +kernel⟩
theorem at_257_261 : AtW RX3 257 261 "java/lang/ArithmeticException" := ⟨q882, q34, by decide +kernel, by decide +kernel, by decide +kernel, by decide +kernel⟩
theorem at_281_285 : AtW RX3 281 285 "java/lang/IndexOutOfBoundsException" := ⟨q624, q25, by decide +kernel, by decide +kernel, by decide +kernel, by decide +kernel⟩
section THROWS
variable {p : Program} {l : Launch} {e : Env} {R : Room} {s : State} {m : MethodId} {args : Array Value} {below : List Frame} {meth : Method} {c : Code} {H : Heap} {locs : List Loc} {cells slots : Nat}
  {cc bytes : ByteArray} {nL maxL index n pc mc ms mc0 ms0 : Nat} {own Cn cls text : String} {y : MethodName} {ret rt : Option FieldType} {rm : Room} {ls : Array Slot} {As rest st0 : List Value} {b ci N : Nat} {T : u_T} {fs : List Value} {wc : va_W} {dC : Nat → ClassId} {dI : Nat → Nat → Nat} {cy : Nat → ClassId} {sa : Nat → Nat} {A : Nat → Prop} {S : Type} {wn : S → va_W} {X : String → S → Prop} {u : S} {ik ic is k : Nat} {Qc : Array Value → State → Outcome → State → Prop}
theorem kept_new {ws : va_W} {H H1 : Heap} (hP : va_P (dC, dI) classes ws H) (h : ∀ q : Nat, q < H.size → H1[q]? = H[q]?) : va_P (dC, dI) classes ws H1 := hP.kept (fun k q hq => h q.1 (hP k q hq).lt)
theorem thrX (hS : va_S A s.heap H locs) (hP : va_P (dC, dI) classes (wn u) H) (hD : va_D A (wn u)) (hF : X cls u) {t : State} (h1 : H.size ≤ t.heap.size) (h2 : ∀ q : Nat, q < H.size → t.heap[q]? = H[q]?) :
    vx_X (fun v : String × S => X v.1 v.2) (fun E v t => E = v.1 ∧ va_P (dC, dI) classes (wn v.2) t.heap ∧ va_D A (wn v.2)) A cls s t :=
  ⟨(cls, u), hF, ⟨rfl, kept_new hP h2, hD⟩, Nat.le_trans hS.1 h1, fun q hq hA => (h2 q (Nat.lt_of_lt_of_le hq hS.1)).trans (hS.2.1 q hq hA)⟩
theorem thrS (hC : Cx p s m args meth c own cc nL rt) (hno : ∀ x ∈ c.exceptionTable.toList, False) (hl9 : l.stackTraces = false) (hKN : NW s) (hR3 : own = RX3) (hXS : XS sa s) (hXZ : XZ A s s.heap) (hS : va_S A s.heap H locs) (hl : ls.size = nL) (hP : va_P (dC, dI) classes (wn u) H) (hD : va_D A (wn u)) (k : Nat) (hstr : strsX[k]? = some (is, text)) (hat : AtW own ik ic cls)
    (d0 : decode cc pc = .ok (.new ik, 3)) (d3 : decode cc (pc + 3) = .ok (.dup, 1)) (d4 : decode cc (pc + 4) = .ok (.ldc is, 2)) (d6 : decode cc (pc + 6) = .ok (.invokespecial ic, 3)) (d9 : decode cc (pc + 9) = .ok (.athrow, 1))
    (hRf : 5 < R.frames) (hRl : (rest.map fun v => v.category).sum + 82 ≤ R.locals) (hRc : cells + 1 ≤ R.cells) (hRs : slots + 6 ≤ R.slots) (hc : cells + 1 ≤ mc) (hs : slots + 6 ≤ ms) (hF : X cls u) :
    W p l e R s m args below meth c H locs cells slots (vx_MQ below Qc (vx_X (fun v : String × S => X v.1 v.2) (fun E v t => E = v.1 ∧ va_P (dC, dI) classes (wn v.2) t.heap ∧ va_D A (wn v.2)) A) args s mc ms A) (F0 m pc ls rest) := by
  obtain ⟨hx, hb, hr, hml, hown, hts, hlocks⟩ := hC
  subst hR3
  exact vx_throwS (names := exN) hx hb hl9 hown hat.2.2.2.2.2 (by decide +kernel) (hts _ hat.1) (hts _ hat.2.1) (hXS k (is, text) hstr) (hat.all hts hKN) hat.2.2.2.2.1 hXZ.1 hXZ.2 hS (hl.trans hml.symm) d0 d3 d4 d6 d9 (fun x hx => (hno x hx).elim) hRf hRl hRc hRs hlocks (fun t _ h1 h2 => thrX hS hP hD hF h1 h2) hS.2.2 hc hs
theorem thrN (hC : Cx p s m args meth c own cc nL rt) (hno : ∀ x ∈ c.exceptionTable.toList, False) (hl9 : l.stackTraces = false) (hKN : NW s) (hR3 : own = RX3) (hXS : XS sa s) (hXZ : XZ A s s.heap) (hS : va_S A s.heap H locs) (hl : ls.size = nL) (hP : va_P (dC, dI) classes (wn u) H) (hD : va_D A (wn u)) (k : Nat) (hstr : strsX[k]? = some (is, text)) {ix : Nat} {rx : ByteArray} (hat : AtN own ik ic ix rx)
    (d0 : decode cc pc = .ok (.new ik, 3)) (d3 : decode cc (pc + 3) = .ok (.dup, 1)) (d4 : decode cc (pc + 4) = .ok (.ldc is, 2)) (d6 : decode cc (pc + 6) = .ok (.invokespecial ic, 3)) (d9 : decode cc (pc + 9) = .ok (.athrow, 1))
    (hRf : 5 < R.frames) (hRl : (rest.map fun v => v.category).sum + 82 ≤ R.locals) (hRc : cells + 1 ≤ R.cells) (hRs : slots + 6 ≤ R.slots) (hc : cells + 1 ≤ mc) (hs : slots + 6 ≤ ms) (hF : X nsE u) :
    W p l e R s m args below meth c H locs cells slots (vx_MQ below Qc (vx_X (fun v : String × S => X v.1 v.2) (fun E v t => E = v.1 ∧ va_P (dC, dI) classes (wn v.2) t.heap ∧ va_D A (wn v.2)) A) args s mc ms A) (F0 m pc ls rest) := by
  obtain ⟨hx, hb, hr, hml, hown, hts, hlocks⟩ := hC
  subst hR3
  exact nsThrowS hx hb hl9 hat.2.2.2.2.2.1 hat.2.2.2.2.2.2.1 hat.2.2.2.2.2.2.2.1 hat.2.2.2.2.2.2.2.2 hown (hts _ hat.1) (hts _ hat.2.1) (hXS k (is, text) hstr)
    (vx_hat (B := nwB) (fun w hw => hts w (lw_all_of (hat.2.2.1 w (List.mem_filter.mp hw).1) (List.mem_filter.mp hw).2)) hat.2.2.2.1 (fun w hw => hKN.words w hw)) hat.2.2.2.2.1 hXZ.1 hXZ.2 hS (hl.trans hml.symm) d0 d3 d4 d6 d9 (fun x hx => (hno x hx).elim) hRf hRl hRc hRs hlocks (fun t _ h1 h2 => thrX hS hP hD hF h1 h2) hS.2.2 hc hs
theorem thrSW (hC : Cx p s m args meth c own cc nL rt) (hno : ∀ x ∈ c.exceptionTable.toList, False) (hl9 : l.stackTraces = false) (hKN : NW s) (hR3 : own = RX3) (hXS : XS sa s) (hXZ : XZ A s s.heap) (hS : va_S A s.heap H locs) (hl : ls.size = nL) (hP : va_P (dC, dI) classes (wn u) H) (hD : va_D A (wn u)) (k : Nat) (hstr : strsX[k]? = some (is, text)) (hat : AtW own ik ic cls)
    (d0 : decode cc pc = .ok (.new ik, 3)) (d3 : decode cc (pc + 3) = .ok (.dup, 1)) (d4 : decode cc (pc + 4) = .ok (.ldc_w is, 3)) (d6 : decode cc (pc + 7) = .ok (.invokespecial ic, 3)) (d9 : decode cc (pc + 10) = .ok (.athrow, 1))
    (hRf : 5 < R.frames) (hRl : (rest.map fun v => v.category).sum + 82 ≤ R.locals) (hRc : cells + 1 ≤ R.cells) (hRs : slots + 6 ≤ R.slots) (hc : cells + 1 ≤ mc) (hs : slots + 6 ≤ ms) (hF : X cls u) :
    W p l e R s m args below meth c H locs cells slots (vx_MQ below Qc (vx_X (fun v : String × S => X v.1 v.2) (fun E v t => E = v.1 ∧ va_P (dC, dI) classes (wn v.2) t.heap ∧ va_D A (wn v.2)) A) args s mc ms A) (F0 m pc ls rest) := by
  obtain ⟨hx, hb, hr, hml, hown, hts, hlocks⟩ := hC
  subst hR3
  exact vx_throwSW (names := exN) hx hb hl9 hown hat.2.2.2.2.2 (by decide +kernel) (hts _ hat.1) (hts _ hat.2.1) (hXS k (is, text) hstr) (hat.all hts hKN) hat.2.2.2.2.1 hXZ.1 hXZ.2 hS (hl.trans hml.symm) d0 d3 d4 d6 d9 (fun x hx => (hno x hx).elim) hRf hRl hRc hRs hlocks (fun t _ h1 h2 => thrX hS hP hD hF h1 h2) hS.2.2 hc hs
/-- what a method that may throw begins with -/
def PcT (dC : Nat → ClassId) (dI : Nat → Nat → Nat) (cy : Nat → ClassId) (sa : Nat → Nat) (wc : va_W) (sz : Nat) (U : State) : Prop := U.heap.size = sz ∧ va_P (dC, dI) classes wc U.heap ∧ kwX dC dI cy U ∧ va_D (fun _ => True) wc ∧ XS sa U ∧ XZ (va_A wc sz) U U.heap
abbrev QxT (dC : Nat → ClassId) (dI : Nat → Nat → Nat) {S : Type} (wn : S → va_W) (X : String → S → Prop) (A : Nat → Prop) : String → State → State → Prop := vx_X (fun v : String × S => X v.1 v.2) (fun E v t => E = v.1 ∧ va_P (dC, dI) classes (wn v.2) t.heap ∧ va_D A (wn v.2)) A
theorem preT (q0 : Nat) (hK : kwX dC dI cy s) (hP : va_P (dC, dI) classes wc H) (hD : va_D A wc) (he : wc[q0]? = some (b, .inr (ci, fs))) (hcl : classes[ci]? = some (Cn, T, N)) (hXS : XS sa s) (hXZ : XZ A s s.heap) (hS : va_S A s.heap H locs) (hF : ∀ q, va_A wc H.size q → A q) :
    PreV s H Cn b (va_Pc (.ref b :: As) (PcT dC dI cy sa wc H.size)) As :=
  ⟨fun a U g mk q => ⟨q.1, q.2.1, q.2.2.1, q.2.2.2.1.calling, q.2.2.2.2.1, q.2.2.2.2.2.1.calling, q.2.2.2.2.2.2.moved (u := U) (U := U.calling g mk a) (Vm.Alike.refl U.vm)⟩, va_recv hK.1 hP hcl he,
   fun U hU hW => ⟨rfl, by rw [hU], by rw [hU]; exact hP, hK.warm hW, hD.weaken (fun _ _ _ _ => trivial), hXS.warm hW, by rw [hU]; exact ((hXZ.kept hS.2.1).narrow hF).moved hW.alike⟩⟩
theorem preTS (hK : kwX dC dI cy s) (hXS : XS sa s) (hXZ : XZ A s s.heap) (hS : va_S A s.heap H locs) (hF : ∀ q, va_A [] H.size q → A q) :
    PreS s H (va_Pc As (PcT dC dI cy sa [] H.size)) As :=
  ⟨fun a U g mk q => ⟨q.1, q.2.1, q.2.2.1, q.2.2.2.1.calling, q.2.2.2.2.1, q.2.2.2.2.2.1.calling, q.2.2.2.2.2.2.moved (u := U) (U := U.calling g mk a) (Vm.Alike.refl U.vm)⟩,
   fun U hU hW => ⟨rfl, by rw [hU], fun k q h => by simp at h, hK.warm hW, ⟨fun i j p q h => by simp at h, fun k q h => by simp at h⟩, hXS.warm hW, by rw [hU]; exact ((hXZ.kept hS.2.1).narrow hF).moved hW.alike⟩⟩
theorem vx_Met.ofCx {Pc' : State → Prop} {XC : String → State → State → Prop} {free : Addr → Prop} {av : List Value}
    (hy : plainName y.cls = true) (ho : y.cls = own) (hn : (lg_sl av).length ≤ nL)
    (body : ∀ (p : Program) (e : Env) (s : State) (m : MethodId) (below : List Frame) (meth : Method) (c : Code), Cx p s m av.toArray meth c own cc nL ret → (∀ x ∈ c.exceptionTable.toList, False) → Pc' s → ∀ ls : Array Slot, lv_has ls nL (lv_args 0 av) →
      W p l e rm s m av.toArray below meth c s.heap [] 0 0 (vx_MQ below Qc XC av.toArray s mc ms free) (F0 m 0 ls [])) :
    vx_Met l y (ws_ y cc nL ret) rm (va_Pc av Pc') Qc XC mc ms free := by
  refine vx_ofW (cc := cc) (maxL := nL) (ret := ret) hy rfl ?_
  intro p e s m args below meth c s₁ B hml hno hv
  obtain ⟨rfl, hv⟩ := hv
  have hts := atoms_spec (ws := ws_ y cc nL ret) B.pre
  have hC : Cx p s m av.toArray meth c own cc nL ret := ⟨B.exec, B.bytes, B.returns, hml, by rw [← ho]; exact findClass_of_methodNamed B.named, fun w h => hts w (List.mem_cons_of_mem _ h), B.notSynchronized⟩
  rw [lg_entry_eq]
  exact body p e s m below meth c hC hno hv _ (lv_entry av hn)
/-- a call, in the same world, of a method that may throw; what it throws goes on -/
theorem cxVv {P : S → Prop} (q0 : Nat) (hC : Cx p s m args meth c own cc nL rt) (hno : ∀ x ∈ c.exceptionTable.toList, False) (hK : kwX dC dI cy s) (hXS : XS sa s) (hXZ : XZ A s s.heap) (hP : va_P (dC, dI) classes wc H) (hD : va_D A wc) (he : wc[q0]? = some (b, .inr (ci, fs))) (hcl : classes[ci]? = some (Cn, T, N)) (hS : va_S A s.heap H locs) (hF : ∀ q, va_A wc H.size q → A q)
    (hM : vx_Met l y (ws_ y bytes maxL ret) rm (va_Pc (.ref b :: As) (PcT dC dI cy sa wc H.size)) (va_Qv P (fun (u : S) t => va_P (dC, dI) classes (wn u) t.heap ∧ va_D (va_A wc H.size) (wn u)) (va_A wc H.size)) (QxT dC dI wn X (va_A wc H.size)) mc ms (va_A wc H.size)) (k : KV Cn y bytes maxL ret n) (hlink : Cond.methodLink own index y ∈ lw_all)
    (hrm : rm.cells = mc ∧ rm.slots = ms) (hR : rm.frames + 1 ≤ R.frames ∧ 8 + (maxL + 11) + rm.locals ≤ R.locals) (hl : ls.size = nL) (hn : As.length = n) (hst : st0 = As.reverse ++ .ref b :: rest) (hr : (rest.map fun v => v.category).sum ≤ 8) (hdg : decode cc pc = .ok (.invokevirtual index, 3)) (hf : cells + mc ≤ R.cells ∧ slots + ms ≤ R.slots) (hm0 : cells + mc ≤ mc0 ∧ slots + ms ≤ ms0)
    (kk : ∀ (u : S) (H1 : Heap) (locs1 : List Loc), P u → va_P (dC, dI) classes (wn u) H1 → va_D A (wn u) → va_S A s.heap H1 locs1 → W p l e R s m args below meth c H1 locs1 (cells + mc) (slots + ms) (vx_MQ below Qc (QxT dC dI wn X A) args s mc0 ms0 A) (F0 m (pc + 3) ls rest)) :
    W p l e R s m args below meth c H locs cells slots (vx_MQ below Qc (QxT dC dI wn X A) args s mc0 ms0 A) (F0 m pc ls st0) :=
  vx_callv (vx_runV (b := b) (As := As) (rest := rest) ⟨hC.1, hC.2.1, hC.2.2.2.1, hC.2.2.2.2.1, hC.2.2.2.2.2.1⟩ hM (cbV hC.2.2.2.2.2.1 k hlink hrm hR) (preT q0 hK hP hD he hcl hXS hXZ hS hF) rfl hn hl hst (lv_room hr) hdg hf) hS (fun q _ h => hF q h) hF (fun q _ h => hF q h)
    (fun E ce q9 v t H1 locs1 ht hvm hpx hB hz1 hk1 hS1 hce hcv hcl9 => by
      obtain ⟨rfl, hB1, hB2⟩ := hB
      refine vx_out (fun x hx => (hno x hx).elim) hC.2.2.2.2.2.2 hce hcv hcl9 (fun t2 ht2 hal => ⟨v, hpx, ⟨rfl, by rw [ht2, ← ht]; exact hB1, hB2.weaken (fun _ q _ h => hF q.1 h)⟩, hS1.F ht2⟩) hS1.2.2 hm0.1 hm0.2)
    (fun u t H1 locs1 ht hvm hw hB hz1 hk1 hS1 => kk u H1 locs1 hw (by rw [← ht]; exact hB.1) (hB.2.weaken (fun _ q _ h => hF q.1 h)) hS1)
theorem cxVi {P : Int32 → S → Prop} (q0 : Nat) (hC : Cx p s m args meth c own cc nL rt) (hno : ∀ x ∈ c.exceptionTable.toList, False) (hK : kwX dC dI cy s) (hXS : XS sa s) (hXZ : XZ A s s.heap) (hP : va_P (dC, dI) classes wc H) (hD : va_D A wc) (he : wc[q0]? = some (b, .inr (ci, fs))) (hcl : classes[ci]? = some (Cn, T, N)) (hS : va_S A s.heap H locs) (hF : ∀ q, va_A wc H.size q → A q)
    (hM : vx_Met l y (ws_ y bytes maxL ret) rm (va_Pc (.ref b :: As) (PcT dC dI cy sa wc H.size)) (va_Qi P (fun (u : S) t => va_P (dC, dI) classes (wn u) t.heap ∧ va_D (va_A wc H.size) (wn u)) (va_A wc H.size)) (QxT dC dI wn X (va_A wc H.size)) mc ms (va_A wc H.size)) (k : KV Cn y bytes maxL ret n) (hlink : Cond.methodLink own index y ∈ lw_all)
    (hrm : rm.cells = mc ∧ rm.slots = ms) (hR : rm.frames + 1 ≤ R.frames ∧ 8 + (maxL + 11) + rm.locals ≤ R.locals) (hl : ls.size = nL) (hn : As.length = n) (hst : st0 = As.reverse ++ .ref b :: rest) (hr : (rest.map fun v => v.category).sum ≤ 8) (hdg : decode cc pc = .ok (.invokevirtual index, 3)) (hf : cells + mc ≤ R.cells ∧ slots + ms ≤ R.slots) (hm0 : cells + mc ≤ mc0 ∧ slots + ms ≤ ms0)
    (kk : ∀ (r : Int32) (u : S) (H1 : Heap) (locs1 : List Loc), P r u → va_P (dC, dI) classes (wn u) H1 → va_D A (wn u) → va_S A s.heap H1 locs1 → W p l e R s m args below meth c H1 locs1 (cells + mc) (slots + ms) (vx_MQ below Qc (QxT dC dI wn X A) args s mc0 ms0 A) (F0 m (pc + 3) ls (.int r :: rest))) :
    W p l e R s m args below meth c H locs cells slots (vx_MQ below Qc (QxT dC dI wn X A) args s mc0 ms0 A) (F0 m pc ls st0) :=
  vx_calli (vx_runV (b := b) (As := As) (rest := rest) ⟨hC.1, hC.2.1, hC.2.2.2.1, hC.2.2.2.2.1, hC.2.2.2.2.2.1⟩ hM (cbV hC.2.2.2.2.2.1 k hlink hrm hR) (preT q0 hK hP hD he hcl hXS hXZ hS hF) rfl hn hl hst (lv_room hr) hdg hf) hS (fun q _ h => hF q h) hF (fun q _ h => hF q h)
    (fun E ce q9 v t H1 locs1 ht hvm hpx hB hz1 hk1 hS1 hce hcv hcl9 => by
      obtain ⟨rfl, hB1, hB2⟩ := hB
      refine vx_out (fun x hx => (hno x hx).elim) hC.2.2.2.2.2.2 hce hcv hcl9 (fun t2 ht2 hal => ⟨v, hpx, ⟨rfl, by rw [ht2, ← ht]; exact hB1, hB2.weaken (fun _ q _ h => hF q.1 h)⟩, hS1.F ht2⟩) hS1.2.2 hm0.1 hm0.2)
    (fun r u t H1 locs1 ht hvm hw hB hz1 hk1 hS1 => kk r u H1 locs1 hw (by rw [← ht]; exact hB.1) (hB.2.weaken (fun _ q _ h => hF q.1 h)) hS1)
/-- .. of a static one that looks at no heap -/
theorem cxSv {P : Prop} (hC : Cx p s m args meth c own cc nL rt) (hno : ∀ x ∈ c.exceptionTable.toList, False) (hK : kwX dC dI cy s) (hXS : XS sa s) (hXZ : XZ A s s.heap) (hP : va_P (dC, dI) classes (wn u) H) (hD : va_D A (wn u)) (hS : va_S A s.heap H locs) (hA : ∀ q : Nat, s.heap.size ≤ q → A q)
    (hM : vx_Met l y (ws_ y bytes maxL ret) rm (va_Pc As (PcT dC dI cy sa [] H.size)) (va_Qv (fun _ => P) (fun (_ : Unit) t => va_P (dC, dI) classes [] t.heap ∧ va_D (va_A [] H.size) []) (va_A [] H.size)) (QxT dC dI (fun _ : Unit => []) (fun E _ => X E u) (va_A [] H.size)) mc ms (va_A [] H.size)) (k : KS y bytes maxL ret n) (hlink : Cond.methodLink own index y ∈ lw_all)
    (hrm : rm.cells = mc ∧ rm.slots = ms) (hR : rm.frames + 1 ≤ R.frames ∧ 8 + (maxL + 11) + rm.locals ≤ R.locals) (hl : ls.size = nL) (hn : As.length = n) (hst : st0 = As.reverse ++ rest) (hr : (rest.map fun v => v.category).sum ≤ 8) (hdg : decode cc pc = .ok (.invokestatic index, 3)) (hf : cells + mc ≤ R.cells ∧ slots + ms ≤ R.slots) (hm0 : cells + mc ≤ mc0 ∧ slots + ms ≤ ms0)
    (kk : ∀ (H1 : Heap) (locs1 : List Loc), P → va_P (dC, dI) classes (wn u) H1 → va_S A s.heap H1 locs1 → W p l e R s m args below meth c H1 locs1 (cells + mc) (slots + ms) (vx_MQ below Qc (QxT dC dI wn X A) args s mc0 ms0 A) (F0 m (pc + 3) ls rest)) :
    W p l e R s m args below meth c H locs cells slots (vx_MQ below Qc (QxT dC dI wn X A) args s mc0 ms0 A) (F0 m pc ls st0) := by
  have hF : ∀ q, va_A [] H.size q → A q := fun q h => by
    rcases h with ⟨k, e, h⟩ | h
    · simp at h
    · exact hA q (Nat.le_trans hS.1 h)
  have hn0 : ∀ q : Nat, q < H.size → ¬ va_A [] H.size q := fun q h1 h => by
    rcases h with ⟨k, e, h⟩ | h
    · simp at h
    · omega
  refine vx_callv (vx_runS (As := As) (rest := rest) ⟨hC.1, hC.2.1, hC.2.2.2.1, hC.2.2.2.2.1, hC.2.2.2.2.2.1⟩ hM (cbS hC.2.2.2.2.2.1 k hlink hrm hR) (preTS hK hXS hXZ hS hF) rfl hn hl hst (lv_room hr) hdg hf) hS (fun q _ h => hF q h) hF (fun q _ h => hF q h)
    (fun E ce q9 v t H1 locs1 ht hvm hpx hB hz1 hk1 hS1 hce hcv hcl9 => ?_)
    (fun u9 t H1 locs1 ht hvm hw hB hz1 hk1 hS1 => kk H1 locs1 hw (kept_new hP (fun q h => hk1 q h (hn0 q h))) hS1)
  obtain ⟨rfl, -⟩ := hB
  exact vx_out (fun x hx => (hno x hx).elim) hC.2.2.2.2.2.2 hce hcv hcl9 (fun t2 ht2 hal => ⟨(v.1, u), hpx, ⟨rfl, by rw [ht2]; exact kept_new hP (fun q h => hk1 q h (hn0 q h)), hD⟩, hS1.F ht2⟩) hS1.2.2 hm0.1 hm0.2
end THROWS
