-- ===== the law's own methods: calls that may throw, and what catches =====
def ncL : List (String × String) := [("java/lang/UnsupportedOperationException", "java/lang/IllegalArgumentException"), ("java/lang/IllegalStateException", "java/lang/IllegalArgumentException"), ("java/util/NoSuchElementException", "java/lang/IllegalArgumentException"), ("java/lang/IndexOutOfBoundsException", "java/lang/IllegalArgumentException"), ("java/lang/ArithmeticException", "java/lang/IllegalArgumentException"), ("java/lang/IllegalArgumentException", "java/lang/UnsupportedOperationException"), ("java/lang/IllegalStateException", "java/lang/UnsupportedOperationException"), ("java/util/NoSuchElementException", "java/lang/UnsupportedOperationException"), ("java/lang/IndexOutOfBoundsException", "java/lang/UnsupportedOperationException"), ("java/lang/ArithmeticException", "java/lang/UnsupportedOperationException"), ("java/lang/IllegalArgumentException", "java/lang/IllegalStateException"), ("java/lang/UnsupportedOperationException", "java/lang/IllegalStateException"), ("java/util/NoSuchElementException", "java/lang/IllegalStateException"), ("java/lang/IndexOutOfBoundsException", "java/lang/IllegalStateException"), ("java/lang/ArithmeticException", "java/lang/IllegalStateException"), ("java/lang/IllegalArgumentException", "java/util/NoSuchElementException"), ("java/lang/UnsupportedOperationException", "java/util/NoSuchElementException"), ("java/lang/IllegalStateException", "java/util/NoSuchElementException"), ("java/lang/IndexOutOfBoundsException", "java/util/NoSuchElementException"), ("java/lang/ArithmeticException", "java/util/NoSuchElementException"), ("java/lang/IllegalArgumentException", "java/lang/IndexOutOfBoundsException"), ("java/lang/UnsupportedOperationException", "java/lang/IndexOutOfBoundsException"), ("java/lang/IllegalStateException", "java/lang/IndexOutOfBoundsException"), ("java/util/NoSuchElementException", "java/lang/IndexOutOfBoundsException"), ("java/lang/ArithmeticException", "java/lang/IndexOutOfBoundsException"), ("java/lang/IllegalArgumentException", "java/lang/ArithmeticException"), ("java/lang/UnsupportedOperationException", "java/lang/ArithmeticException"), ("java/lang/IllegalStateException", "java/lang/ArithmeticException"), ("java/util/NoSuchElementException", "java/lang/ArithmeticException"), ("java/lang/IndexOutOfBoundsException", "java/lang/ArithmeticException")]
def NCL (U : State) : Prop := ∀ x ∈ ncL, va_Nc x.1 x.2 U
theorem NCL.moved {u U : State} (hvm : u.vm.Alike U.vm) (h : NCL u) : NCL U := fun x hx => (h x hx).moved hvm
def wsH (y : MethodName) (cc : ByteArray) (nL : Nat) (ret : Option FieldType) (hh : List (Nat × Nat × Nat × Nat)) : List Cond := Cond.codeWith y cc nL ret hh :: lw_all
/-- the house and the law's row of one long -/
abbrev wO (h : Nat → Nat) (cy : Nat → ClassId) (o : Nat) (σ : SX) (f : Nat → Int64) : va_W := wH h cy σ ++ [(o, .inl (cy 1, 1, .inr (.inl f)))]
def PcW (dC : Nat → ClassId) (dI : Nat → Nat → Nat) (cy : Nat → ClassId) (sa : Nat → Nat) (wc : va_W) (sz : Nat) (U : State) : Prop := PcT dC dI cy sa wc sz U ∧ NCL U
section LAWM
variable {p : Program} {l : Launch} {e : Env} {R : Room} {s : State} {m : MethodId} {args : Array Value} {below : List Frame} {meth : Method} {c : Code} {H : Heap} {locs : List Loc} {cells slots : Nat} {Q : State → Prop}
  {cc bytes : ByteArray} {nL maxL index n pc mc ms : Nat} {own : String} {y : MethodName} {ret rt : Option FieldType} {rm : Room} {ls : Array Slot} {As rest st0 : List Value} {b ci N : Nat} {T : u_T} {Cn : String} {fs : List Value} {dC : Nat → ClassId} {dI : Nat → Nat → Nat} {cy : Nat → ClassId} {sa : Nat → Nat} {A : Nat → Prop} {V r x : va_W}
theorem Met.ofWH {ws ws' : List Cond} {Pc : Array Value → State → Prop} {Qc : Array Value → State → Outcome → State → Prop} {free : Addr → Prop} {hh : List (Nat × Nat × Nat × Nat)}
    (hy : plainName y.cls = true) (hw : ws = Cond.codeWith y cc maxL ret hh :: ws')
    (body : ∀ p e s m args below meth c s₁, BodyLoose p l y (headSpec ws rm) cc maxL ret e s m args below meth c s₁ → c.maxLocals = maxL → c.exceptionTable.toList.map (fun h => (h.startPc, h.endPc, h.handlerPc, h.catchType)) = hh → Pc args s →
      W p l e (headSpec ws rm).room s m args below meth c s.heap [] 0 0 (MQ below Qc args s mc ms free) (entryFrame m args maxL)) : Met l y ws rm Pc Qc mc ms free := by
  refine MetFree.of_bodyS (code := cc) (maxLocals := maxL) (ret := ret) hy ?_ ?_
  · intro args s m h hn
    obtain ⟨m9, meth, c, hn9, h1, h2, h3, h4, -, h5, h6, -⟩ := Cond.codeWith_spec (atoms_spec (ws := ws) h _ (by rw [hw]; exact List.mem_cons_self))
    cases hn.symm.trans hn9
    exact ⟨meth, c, h1, h2, h3, h4, h5, h6⟩
  · intro p e s m args below meth c s₁ B hml hP _
    have hh0 : s₁.heap = s.heap := by rw [B.state]; rfl
    obtain ⟨m9, meth9, c9, hn9, g1, g2, -, -, g3, -, -, -⟩ := Cond.codeWith_spec (atoms_spec (ws := ws) B.pre _ (by rw [hw]; exact List.mem_cons_self))
    cases B.named.symm.trans hn9
    cases B.method.symm.trans g1
    have hc : meth.code = some c := by
      have h := B.here.code
      rw [State.code?_eq, B.method₁] at h
      exact h
    cases hc.symm.trans g2
    obtain ⟨t, a1, o, b1, b2, b3⟩ := body p e s m args below meth c s₁ B hml g3 hP s₁ hh0 (Stand.of_body B)
    exact ⟨t, o, a1, b1, b2, ⟨b3.1, b3.2⟩⟩
theorem Met.ofCxH {Pc' : State → Prop} {Qc : Array Value → State → Outcome → State → Prop} {free : Addr → Prop} {av : List Value} {hh : List (Nat × Nat × Nat × Nat)}
    (hy : plainName y.cls = true) (ho : y.cls = own) (hn : (lg_sl av).length ≤ nL)
    (body : ∀ (p : Program) (e : Env) (s : State) (m : MethodId) (below : List Frame) (meth : Method) (c : Code), Cx p s m av.toArray meth c own cc nL ret → c.exceptionTable.toList.map (fun h => (h.startPc, h.endPc, h.handlerPc, h.catchType)) = hh → Pc' s → ∀ ls : Array Slot, lv_has ls nL (lv_args 0 av) →
      W p l e rm s m av.toArray below meth c s.heap [] 0 0 (MQ below Qc av.toArray s mc ms free) (F0 m 0 ls [])) :
    Met l y (wsH y cc nL ret hh) rm (va_Pc av Pc') Qc mc ms free := by
  refine Met.ofWH (cc := cc) (maxL := nL) (ret := ret) (hh := hh) hy rfl ?_
  intro p e s m args below meth c s₁ B hml htab hv
  obtain ⟨rfl, hv⟩ := hv
  have hts := atoms_spec (ws := wsH y cc nL ret hh) B.pre
  have hC : Cx p s m av.toArray meth c own cc nL ret := ⟨B.exec, B.bytes, B.returns, hml, by rw [← ho]; exact findClass_of_methodNamed B.named, fun w h => hts w (List.mem_cons_of_mem _ h), B.notSynchronized⟩
  rw [lg_entry_eq]
  exact body p e s m below meth c hC htab hv _ (lv_entry av hn)
/-- the row k of the table catches -/
theorem lwCatch {E : String} {ce : Cell} {q9 : Addr} {hh : List (Nat × Nat × Nat × Nat)} (hown : s.vm.findClass own = some m.cls) (htab : c.exceptionTable.toList.map (fun h => (h.startPc, h.endPc, h.handlerPc, h.catchType)) = hh) (k : Nat) {e0 e1 hp ct : Nat} (hk : hh[k]? = some (e0, e1, hp, ct)) (hcov : e0 ≤ pc ∧ pc < e1) (hct : ct ≠ 0)
    (hlink : (Cond.classLink own ct E).before args s = true) (hcast : (Cond.castable E E).before args s = true) (hpre : ∀ w ∈ hh.take k, w.2.2.2 ≠ 0 ∧ ∃ nm, (Cond.classLink own w.2.2.2 nm).before args s = true ∧ va_Nc E nm s)
    (hcell : H[q9]? = some ce) (hv : ce.vm = .none) (hcl : s.vm.findClass E = some ce.cls)
    (kk : W p l e R s m args below meth c H locs cells slots Q (F0 m hp ls [.ref q9])) : vx_W p l e R s m args below meth c H locs cells slots Q (F0 m pc ls rest) q9 := by
  subst htab
  rw [List.getElem?_map] at hk
  cases hx : c.exceptionTable.toList[k]? with
  | none => rw [hx] at hk; cases hk
  | some z =>
    rw [hx] at hk
    obtain ⟨h1, h2⟩ := List.getElem?_eq_some_iff.mp hx
    have hz : (z.startPc, z.endPc, z.handlerPc, z.catchType) = (e0, e1, hp, ct) := Option.some.inj hk
    simp only [Prod.mk.injEq] at hz
    obtain ⟨z1, z2, z3, z4⟩ := hz
    have hsplit : c.exceptionTable.toList = c.exceptionTable.toList.take k ++ z :: c.exceptionTable.toList.drop (k + 1) := by
      rw [← h2, ← List.drop_eq_getElem_cons h1, List.take_append_drop]
    refine vx_catch (name := E) (E := E) hown (c.exceptionTable.toList.take k) z (c.exceptionTable.toList.drop (k + 1)) hsplit (fun w hw => ?_) (by unfold covers; simp [z1, z2, hcov.1, hcov.2]) (by rw [z4]; exact hct) (by rw [z4]; exact hlink) hcast hcell hv hcl (by rw [z3]; exact kk)
    refine Or.inr ?_
    obtain ⟨g1, nm, g2, g3⟩ := hpre (w.startPc, w.endPc, w.handlerPc, w.catchType) (by rw [← List.map_take]; exact List.mem_map.mpr ⟨w, hw, rfl⟩)
    exact ⟨g1, nm, g2, g3⟩
theorem lwCall {S : Type} {P : Int32 → S → Prop} {X : String → S → Prop} {wn : S → va_W} (q0 : Nat) (hp : V.Perm (x ++ r)) (hC : Cx p s m args meth c own cc nL rt) (hK : kwX dC dI cy s) (hXS : XS sa s) (hXZ : XZ A s s.heap) (hP : va_P (dC, dI) classes V H) (hD : va_D A V) (he : x[q0]? = some (b, .inr (ci, fs))) (hcl : classes[ci]? = some (Cn, T, N)) (hS : va_S A s.heap H locs) (hA : ∀ q, s.heap.size ≤ q → A q)
    (hM : vx_Met l y (ws_ y bytes maxL ret) rm (va_Pc (.ref b :: As) (PcT dC dI cy sa x H.size)) (va_Qi P (fun (u : S) t => va_P (dC, dI) classes (wn u) t.heap ∧ va_D (va_A x H.size) (wn u)) (va_A x H.size)) (QxT dC dI wn X (va_A x H.size)) mc ms (va_A x H.size)) (k : KV Cn y bytes maxL ret n) (hlink : Cond.methodLink own index y ∈ lw_all)
    (hrm : rm.cells = mc ∧ rm.slots = ms) (hR : rm.frames + 1 ≤ R.frames ∧ 8 + (maxL + 11) + rm.locals ≤ R.locals) (hl : ls.size = nL) (hn : As.length = n) (hst : st0 = As.reverse ++ .ref b :: rest) (hr : (rest.map fun v => v.category).sum ≤ 8) (hdg : decode cc pc = .ok (.invokevirtual index, 3)) (hf : cells + mc ≤ R.cells ∧ slots + ms ≤ R.slots)
    (kx : ∀ (E : String) (ce : Cell) (q9 : Addr) (u : S) (H1 : Heap) (locs1 : List Loc), X E u → va_P (dC, dI) classes (wn u ++ r) H1 → va_D A (wn u ++ r) → va_S A s.heap H1 locs1 → H1[q9]? = some ce → ce.vm = .none → s.vm.findClass E = some ce.cls → vx_W p l e R s m args below meth c H1 locs1 (cells + mc) (slots + ms) Q (F0 m pc ls rest) q9)
    (kk : ∀ (r9 : Int32) (u : S) (H1 : Heap) (locs1 : List Loc), P r9 u → va_P (dC, dI) classes (wn u ++ r) H1 → va_D A (wn u ++ r) → va_S A s.heap H1 locs1 → W p l e R s m args below meth c H1 locs1 (cells + mc) (slots + ms) Q (F0 m (pc + 3) ls (.int r9 :: rest))) :
    W p l e R s m args below meth c H locs cells slots Q (F0 m pc ls st0) := by
  have hF := fw_free hp hD hS hA
  exact vx_calli (vx_runV (b := b) (As := As) (rest := rest) ⟨hC.1, hC.2.1, hC.2.2.2.1, hC.2.2.2.2.1, hC.2.2.2.2.2.1⟩ hM (cbV hC.2.2.2.2.2.1 k hlink hrm hR) (preT q0 hK (fw_get hp hP) (fw_getD hp hD) he hcl hXS hXZ hS hF) rfl hn hl hst (lv_room hr) hdg hf) hS (fun q _ h => hF q h) hF (fun q _ h => hF q h)
    (fun E ce q9 v t H1 locs1 ht hvm hpx hB hz1 hk1 hS1 hce hcv hcl9 => by
      obtain ⟨rfl, hB1, hB2⟩ := hB
      rw [ht] at hB1
      obtain ⟨g1, g2⟩ := fw_join hp hP hD hk1 hF hB1 hB2
      exact kx v.1 ce q9 v.2 H1 locs1 hpx g1 g2 hS1 hce hcv hcl9)
    (fun r9 u t H1 locs1 ht hvm hw hB hz1 hk1 hS1 => by
      obtain ⟨hB1, hB2⟩ := hB
      rw [ht] at hB1
      obtain ⟨g1, g2⟩ := fw_join hp hP hD hk1 hF hB1 hB2
      exact kk r9 u H1 locs1 hw g1 g2 hS1)
end LAWM
