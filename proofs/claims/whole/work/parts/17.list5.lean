def PcZ (t2 tc : Nat) (ad : Nat → Nat) (U : State) : Prop := ZL t2 tc ad (fun _ => False) U U.heap
section ZCALLS
variable {p : Program} {l : Launch} {e : Env} {R : Room} {s : State} {m : MethodId} {args : Array Value} {below : List Frame} {meth : Method} {c : Code} {H : Heap} {locs : List Loc} {cells slots : Nat} {Q : State → Prop}
  {cc bytes : ByteArray} {nL maxL index n pc count : Nat} {own Cn : String} {x y : MethodName} {ret rt : Option FieldType} {rm : Room} {ls : Array Slot} {As rest st0 : List Value} {b ci N t2 tc : Nat} {T : u_T} {fs : List Value} {wc : va_W} {dC : Nat → ClassId} {dI : Nat → Nat → Nat} {cy : Nat → ClassId} {ad : Nat → Nat} {A A1 : Nat → Prop}
theorem preZ (hZ : ZL t2 tc ad A s s.heap) (hS : va_S A s.heap H locs) : PreS s H (va_Pc As (PcZ t2 tc ad)) As :=
  ⟨fun a U g mk q => ⟨q.1, ZL.moved (u := U) (U := U.calling g mk a) (Vm.Alike.refl U.vm) q.2⟩, fun U hU hW => ⟨rfl, by
    show ZL t2 tc ad (fun _ => False) U U.heap
    rw [hU]; exact ((hZ.kept hS.2.1).narrow (fun _ h => h.elim)).moved hW.alike⟩⟩
theorem csQ {q : Nat} (hr9 : CallRun p l e R s m args below meth c H locs cells slots 0 0 (F0 m pc ls st0) rest (vp_Sq0 q As.toArray) (fun _ => False))
    (kk : W p l e R s m args below meth c H locs cells slots Q (F0 m (pc + 3) ls (.ref q :: rest))) : W p l e R s m args below meth c H locs cells slots Q (F0 m pc ls st0) := by
  intro T hT X
  obtain ⟨v, st₀, t, T', L, h0, X', hL, e1, ⟨hv, hh⟩, st⟩ := hr9 T hT X
  cases hv
  obtain ⟨t2, a1, b1⟩ := kk T' (by rw [e1, hh, h0]) (Stand.forget X' (fun q h => (hL q h).elim))
  exact ⟨t2, st t2 a1, b1⟩
theorem csFQ {q : Nat} (hr9 : va_Run5 p l e R s m args below meth c H locs cells slots 0 0 (F0 m pc ls st0) rest (vp_Sq0 q As.toArray) (fun _ => False))
    (kk : W p l e R s m args below meth c H locs cells slots Q (F0 m (pc + 5) ls (.ref q :: rest))) : W p l e R s m args below meth c H locs cells slots Q (F0 m pc ls st0) := by
  intro T hT X
  obtain ⟨v, st₀, t, T', L, h0, X', hL, e1, -, ⟨hv, hh⟩, st⟩ := hr9 T hT X
  cases hv
  obtain ⟨t2, a1, b1⟩ := kk T' (by rw [e1, hh, h0]) (Stand.forget X' (fun q h => (hL q h).elim))
  exact ⟨t2, st t2 a1, b1⟩
/-- Integer.valueOf and the like -/
theorem czSq {q : Nat} (hC : Cx p s m args meth c own cc nL rt) (hZ : ZL t2 tc ad A s s.heap) (hS : va_S A s.heap H locs)
    (hM : Met l y (ws_ y bytes maxL ret) rm (va_Pc As (PcZ t2 tc ad)) (vp_Sq0 q) 0 0 (fun _ => False)) (k : KS y bytes maxL ret n) (hlink : Cond.methodLink own index y ∈ lw_all)
    (hrm : rm.cells = 0 ∧ rm.slots = 0) (hR : rm.frames + 1 ≤ R.frames ∧ 8 + (maxL + 11) + rm.locals ≤ R.locals) (hl : ls.size = nL) (hn : As.length = n) (hst : st0 = As.reverse ++ rest) (hr : (rest.map fun v => v.category).sum ≤ 8) (hdg : decode cc pc = .ok (.invokestatic index, 3)) (hf : cells ≤ R.cells ∧ slots ≤ R.slots)
    (kk : W p l e R s m args below meth c H locs cells slots Q (F0 m (pc + 3) ls (.ref q :: rest))) : W p l e R s m args below meth c H locs cells slots Q (F0 m pc ls st0) :=
  csQ (As := As) (W.runS (As := As) (rest := rest) ⟨hC.1, hC.2.1, hC.2.2.2.1, hC.2.2.2.2.1, hC.2.2.2.2.2.1⟩ hM (cbS hC.2.2.2.2.2.1 k hlink hrm hR) (preZ hZ hS) rfl hn hl hst (lv_room hr) hdg hf) kk
/-- the number of a box -/
theorem czVi {P : Int32 → Prop} {q : Nat} (hC : Cx p s m args meth c own cc nL rt) (hZ : ZL t2 tc ad A s s.heap) (hS : va_S A s.heap H locs) (hq : q < 256)
    (hM : Met l y (ws_ y bytes maxL ret) rm (va_Pc [.ref (ad q)] (PcZ t2 tc ad)) (vp_Si P) 0 0 (fun _ => False)) (k : KV "java/lang/Integer" y bytes maxL ret 0) (hlink : Cond.methodLink own index y ∈ lw_all)
    (hrm : rm.cells = 0 ∧ rm.slots = 0) (hR : rm.frames + 1 ≤ R.frames ∧ 8 + (maxL + 11) + rm.locals ≤ R.locals) (hl : ls.size = nL) (hr : (rest.map fun v => v.category).sum ≤ 8) (hdg : decode cc pc = .ok (.invokevirtual index, 3)) (hf : cells ≤ R.cells ∧ slots ≤ R.slots)
    (kk : ∀ r : Int32, P r → W p l e R s m args below meth c H locs cells slots Q (F0 m (pc + 3) ls (.int r :: rest))) : W p l e R s m args below meth c H locs cells slots Q (F0 m pc ls (.ref (ad q) :: rest)) :=
  vp_callSi (W.runV (b := ad q) (As := []) (rest := rest) ⟨hC.1, hC.2.1, hC.2.2.2.1, hC.2.2.2.2.1, hC.2.2.2.2.2.1⟩ hM (cbV hC.2.2.2.2.2.1 k hlink hrm hR) ⟨(preZ (As := [.ref (ad q)]) hZ hS).1, box_at hZ hS hq, (preZ (As := [.ref (ad q)]) hZ hS).2⟩ rfl rfl hl rfl (lv_room hr) hdg hf) kk
/-- a call that reads and answers nothing -/
theorem cpVu (q0 : Nat) (hC : Cx p s m args meth c own cc nL rt) (hK : kwX dC dI cy s) (hP : va_P (dC, dI) classes wc H) (he : wc[q0]? = some (b, .inr (ci, fs))) (hcl : classes[ci]? = some (Cn, T, N))
    (hM : Met l y (ws_ y bytes maxL ret) rm (va_Pc (.ref b :: As) (fun U => va_P (dC, dI) classes wc U.heap ∧ kwX dC dI cy U)) (va_Sv (fun _ => True)) 0 0 (fun _ => False)) (k : KV Cn y bytes maxL ret n) (hlink : Cond.methodLink own index y ∈ lw_all)
    (hrm : rm.cells = 0 ∧ rm.slots = 0) (hR : rm.frames + 1 ≤ R.frames ∧ 8 + (maxL + 11) + rm.locals ≤ R.locals) (hl : ls.size = nL) (hn : As.length = n) (hst : st0 = As.reverse ++ .ref b :: rest) (hr : (rest.map fun v => v.category).sum ≤ 8) (hdg : decode cc pc = .ok (.invokevirtual index, 3)) (hf : cells ≤ R.cells ∧ slots ≤ R.slots)
    (kk : W p l e R s m args below meth c H locs cells slots Q (F0 m (pc + 3) ls rest)) : W p l e R s m args below meth c H locs cells slots Q (F0 m pc ls st0) :=
  va_csv (W.runV (b := b) (As := As) (rest := rest) ⟨hC.1, hC.2.1, hC.2.2.2.1, hC.2.2.2.2.1, hC.2.2.2.2.2.1⟩ hM (cbV hC.2.2.2.2.2.1 k hlink hrm hR) (preP q0 hK hP he hcl) rfl hn hl hst (lv_room hr) hdg hf) (fun _ => kk)
end ZCALLS
theorem vb_c_nI (k : Nat) : vb_c (k + 128) = nI k := by
  unfold vb_c nI
  rw [show Int32.ofNat (k + 128) = Int32.ofNat k + Int32.ofNat 128 from Int32.ofNat_add k 128]
  exact Int32.add_sub_cancel _ _
/-- a list that is walked: the walker's cell -/
abbrev wI (it a i : Nat) (lr mc : Int32) : Nat × va_E := (it, .inr (6, [.int (nI i), .int lr, .int mc, .ref a]))

theorem dJ6_valueOf_2dffe_0 : decode cJ6_valueOf_2dffe 0 = .ok (.iload_n 0, 1) := by decide +kernel
theorem dJ6_valueOf_2dffe_1 : decode cJ6_valueOf_2dffe 1 = .ok (.bipush (-128), 2) := by decide +kernel
theorem dJ6_valueOf_2dffe_3 : decode cJ6_valueOf_2dffe 3 = .ok (.if_icmp .lt 20, 3) := by decide +kernel
theorem dJ6_valueOf_2dffe_6 : decode cJ6_valueOf_2dffe 6 = .ok (.iload_n 0, 1) := by decide +kernel
theorem dJ6_valueOf_2dffe_7 : decode cJ6_valueOf_2dffe 7 = .ok (.getstatic 191, 3) := by decide +kernel
theorem dJ6_valueOf_2dffe_10 : decode cJ6_valueOf_2dffe 10 = .ok (.if_icmp .gt 13, 3) := by decide +kernel
theorem dJ6_valueOf_2dffe_13 : decode cJ6_valueOf_2dffe 13 = .ok (.getstatic 195, 3) := by decide +kernel
theorem dJ6_valueOf_2dffe_16 : decode cJ6_valueOf_2dffe 16 = .ok (.iload_n 0, 1) := by decide +kernel
theorem dJ6_valueOf_2dffe_17 : decode cJ6_valueOf_2dffe 17 = .ok (.sipush 128, 3) := by decide +kernel
theorem dJ6_valueOf_2dffe_20 : decode cJ6_valueOf_2dffe 20 = .ok (.iadd, 1) := by decide +kernel
theorem dJ6_valueOf_2dffe_21 : decode cJ6_valueOf_2dffe 21 = .ok (.aaload, 1) := by decide +kernel
theorem dJ6_valueOf_2dffe_22 : decode cJ6_valueOf_2dffe 22 = .ok (.areturn, 1) := by decide +kernel
theorem dJ6_valueOf_2dffe_23 : decode cJ6_valueOf_2dffe 23 = .ok (.new 1, 3) := by decide +kernel
theorem dJ6_valueOf_2dffe_26 : decode cJ6_valueOf_2dffe 26 = .ok (.dup, 1) := by decide +kernel
theorem dJ6_valueOf_2dffe_27 : decode cJ6_valueOf_2dffe 27 = .ok (.iload_n 0, 1) := by decide +kernel
theorem dJ6_valueOf_2dffe_28 : decode cJ6_valueOf_2dffe 28 = .ok (.invokespecial 199, 3) := by decide +kernel
theorem dJ6_valueOf_2dffe_31 : decode cJ6_valueOf_2dffe 31 = .ok (.areturn, 1) := by decide +kernel
theorem k_J6_valueOf_2dffe : KS yJ6_valueOf_2dffe cJ6_valueOf_2dffe 1 (some (.object "java/lang/Integer")) 1 := ⟨q1235, q15, q1236, by decide +kernel⟩
theorem nI_nlt_neg (k : Nat) (hk : k < 128) : ¬ nI k < (-128) := by
  have : ∀ k : Fin 128, ¬ nI k.1 < (-128) := by decide
  exact this ⟨k, hk⟩
theorem nI_n127 (k : Nat) (hk : k < 128) : ¬ 127 < nI k := by
  have : ∀ k : Fin 128, ¬ 127 < nI k.1 := by decide
  exact this ⟨k, hk⟩
set_option maxHeartbeats 4000000 in
set_option maxRecDepth 100000 in
theorem m_J6_valueOf_2dffe (l : Launch) (t2 tc : Nat) (ad : Nat → Nat) (k : Nat) (hk : k < 128) : Met l yJ6_valueOf_2dffe (ws_ yJ6_valueOf_2dffe cJ6_valueOf_2dffe 1 (some (.object "java/lang/Integer"))) ({ frames := 0, cells := 0, slots := 0, locals := 0 } : Room) (va_Pc [.int (nI k)] (PcZ t2 tc ad)) (vp_Sq0 (ad (k + 128))) 0 0 (fun _ => False) := by
  refine Met.ofCx (own := RJ6) (by decide) rfl (Nat.le_of_ble_eq_true rfl) ?_
  intro p e9 s m below meth c hC hv ls hl
  obtain ⟨hx, hb, hr, hml, hown, hts, hlocks⟩ := hC
  have hl : lv_has ls 1 [(0, .int (nI k))] := hl
  have hZ : ZL t2 tc ad (fun _ => False) s s.heap := hv
  have hS : va_S (fun _ => False) s.heap s.heap [] := va_S.rf
  refine lv_iload_n hx hb dJ6_valueOf_2dffe_0 rfl (lv_at hl 0 rfl) ?_
  refine lv_bipush (v := (-128)) hx hb dJ6_valueOf_2dffe_1 (by decide) ?_
  refine lv_icmp_lt (tgt := 23) hx hb dJ6_valueOf_2dffe_3 (by decide) (fun cz => absurd cz ((nI_nlt_neg k hk))) (fun cz => ?_)
  refine lv_iload_n hx hb dJ6_valueOf_2dffe_6 rfl (lv_at hl 0 rfl) ?_
  refine va_gets hx hb hZ.2.2.1 hS hown (hts _ q1237) (fun _ h9 => h9) dJ6_valueOf_2dffe_7 ?_
  refine lv_icmp_gt (tgt := 23) hx hb dJ6_valueOf_2dffe_10 (by decide) (fun cz => absurd cz ((nI_n127 k hk))) (fun cz => ?_)
  refine va_gets hx hb hZ.2.2.2.1 hS hown (hts _ q1239) (fun _ h9 => h9) dJ6_valueOf_2dffe_13 ?_
  refine lv_iload_n hx hb dJ6_valueOf_2dffe_16 rfl (lv_at hl 0 rfl) ?_
  refine lv_sipush (v := 128) hx hb dJ6_valueOf_2dffe_17 (by decide) ?_
  refine lv_iadd hx hb dJ6_valueOf_2dffe_20 ?_
  rw [show nI k + 128 = nI (k + 128) from nI_add k 128]
  refine vb_tq hx hb hZ.2.2.2.2.1 hS (vp_in_nI (by omega) (by omega)) (v := .ref (ad (k + 128))) (by rw [nI_clamp (by omega)]) dJ6_valueOf_2dffe_21 ?_
  exact W.aret (v := .ref (ad (k + 128))) hx hb hr (Or.inl ⟨_, rfl⟩) (Or.inr ⟨_, rfl⟩) (fun t ht hW => ⟨rfl, ht⟩) (fun q hq => absurd hq List.not_mem_nil) dJ6_valueOf_2dffe_22
theorem dJ6_intValue_8abf5_0 : decode cJ6_intValue_8abf5 0 = .ok (.aload_n 0, 1) := by decide +kernel
theorem dJ6_intValue_8abf5_1 : decode cJ6_intValue_8abf5 1 = .ok (.getfield 205, 3) := by decide +kernel
theorem dJ6_intValue_8abf5_4 : decode cJ6_intValue_8abf5 4 = .ok (.ireturn, 1) := by decide +kernel
theorem k_J6_intValue_8abf5 : KV RJ6 yJ6_intValue_8abf5 cJ6_intValue_8abf5 1 (some .int) 0 := ⟨q1378, q1379, q15, q1380, by decide +kernel⟩
set_option maxHeartbeats 4000000 in
set_option maxRecDepth 100000 in
theorem m_J6_intValue_8abf5 (l : Launch) (t2 tc : Nat) (ad : Nat → Nat) (k : Nat) (hk : k < 128) : Met l yJ6_intValue_8abf5 (ws_ yJ6_intValue_8abf5 cJ6_intValue_8abf5 1 (some .int)) ({ frames := 0, cells := 0, slots := 0, locals := 0 } : Room) (va_Pc [.ref (ad (k + 128))] (PcZ t2 tc ad)) (vp_Si (fun r => r = nI k)) 0 0 (fun _ => False) := by
  refine Met.ofCx (own := RJ6) (by decide) rfl (Nat.le_of_ble_eq_true rfl) ?_
  intro p e9 s m below meth c hC hv ls hl
  obtain ⟨hx, hb, hr, hml, hown, hts, hlocks⟩ := hC
  have hl : lv_has ls 1 [(0, .ref (ad (k + 128)))] := hl
  have hZ : ZL t2 tc ad (fun _ => False) s s.heap := hv
  have hS : va_S (fun _ => False) s.heap s.heap [] := va_S.rf
  refine lv_aload_n hx hb dJ6_intValue_8abf5_0 rfl (lv_at hl 0 rfl) ?_
  refine vk_getf hx hb (v := .int (nI k)) (by rw [← vb_c_nI k]; exact hZ.2.2.2.2.2.2 (k + 128) (by omega)) hS hown (hts _ q1250) (fun _ h9 => h9) dJ6_intValue_8abf5_1 ?_
  exact W.iret (v := nI k) hx hb hr (fun t ht hW => ⟨nI k, rfl, rfl, ht⟩) (fun q hq => absurd hq List.not_mem_nil) dJ6_intValue_8abf5_4
theorem dJx35411_init_45d68_0 : decode cJx35411_init_45d68 0 = .ok (.aload_n 0, 1) := by decide +kernel
theorem dJx35411_init_45d68_1 : decode cJx35411_init_45d68 1 = .ok (.aload_n 1, 1) := by decide +kernel
theorem dJx35411_init_45d68_2 : decode cJx35411_init_45d68 2 = .ok (.putfield 1, 3) := by decide +kernel
theorem dJx35411_init_45d68_5 : decode cJx35411_init_45d68 5 = .ok (.aload_n 0, 1) := by decide +kernel
theorem dJx35411_init_45d68_6 : decode cJx35411_init_45d68 6 = .ok (.invokespecial 7, 3) := by decide +kernel
theorem dJx35411_init_45d68_9 : decode cJx35411_init_45d68 9 = .ok (.aload_n 0, 1) := by decide +kernel
theorem dJx35411_init_45d68_10 : decode cJx35411_init_45d68 10 = .ok (.iconst (-1), 1) := by decide +kernel
theorem dJx35411_init_45d68_11 : decode cJx35411_init_45d68 11 = .ok (.putfield 13, 3) := by decide +kernel
theorem dJx35411_init_45d68_14 : decode cJx35411_init_45d68 14 = .ok (.aload_n 0, 1) := by decide +kernel
theorem dJx35411_init_45d68_15 : decode cJx35411_init_45d68 15 = .ok (.aload_n 0, 1) := by decide +kernel
theorem dJx35411_init_45d68_16 : decode cJx35411_init_45d68 16 = .ok (.getfield 1, 3) := by decide +kernel
theorem dJx35411_init_45d68_19 : decode cJx35411_init_45d68 19 = .ok (.getfield 17, 3) := by decide +kernel
theorem dJx35411_init_45d68_22 : decode cJx35411_init_45d68 22 = .ok (.putfield 22, 3) := by decide +kernel
theorem dJx35411_init_45d68_25 : decode cJx35411_init_45d68 25 = .ok (.return_, 1) := by decide +kernel
set_option maxHeartbeats 4000000 in
set_option maxRecDepth 100000 in
theorem m_Jx35411_init_45d68 (l : Launch) (dC : Nat → ClassId) (dI : Nat → Nat → Nat) (cy : Nat → ClassId) (it a rv sz : Nat) (mc sv : Int32) : Met l yJx35411_init_45d68 (ws_ yJx35411_init_45d68 cJx35411_init_45d68 2 none) ({ frames := 1, cells := 0, slots := 0, locals := 32 } : Room) (va_Pc [.ref it, .ref a] (PcI dC dI cy ([(it, .inr (6, [.int 0, .int 0, .int 0, .null])), (a, .inr (5, [.int mc, .ref rv, .int sv]))]) sz)) (va_Qv (fun (_ : Unit) => True) (fun _ t => va_P (dC, dI) classes ([(it, .inr (6, [.int 0, .int (-1), .int mc, .ref a])), (a, .inr (5, [.int mc, .ref rv, .int sv]))]) t.heap ∧ va_D (va_A ([(it, .inr (6, [.int 0, .int 0, .int 0, .null])), (a, .inr (5, [.int mc, .ref rv, .int sv]))]) sz) ([(it, .inr (6, [.int 0, .int (-1), .int mc, .ref a])), (a, .inr (5, [.int mc, .ref rv, .int sv]))])) (va_A ([(it, .inr (6, [.int 0, .int 0, .int 0, .null])), (a, .inr (5, [.int mc, .ref rv, .int sv]))]) sz)) 0 0 (va_A ([(it, .inr (6, [.int 0, .int 0, .int 0, .null])), (a, .inr (5, [.int mc, .ref rv, .int sv]))]) sz) := by
  refine Met.ofCxN (own := RJx35411) (by decide) rfl rfl (Nat.le_of_ble_eq_true rfl) ?_
  intro p e9 s m below meth c hC hin hv ls hl
  obtain ⟨hx, hb, hr, hml, hown, hts, hlocks⟩ := hC
  have hl : lv_has ls 2 [(0, .ref it), (1, .ref a)] := hl
  obtain ⟨hsz, hP, hK, hD0⟩ := hv
  subst hsz
  have hD := hD0.self (sz := s.heap.size)
  generalize hAe : va_A ([(it, .inr (6, [.int 0, .int 0, .int 0, .null])), (a, .inr (5, [.int mc, .ref rv, .int sv]))]) s.heap.size = A at hD ⊢
  have hA : ∀ q : Nat, s.heap.size ≤ q → A q := fun q h => by rw [← hAe]; exact Or.inr h
  have hS : va_S A s.heap s.heap [] := va_S.rf
  clear hAe
  refine lv_aload_n hx hb dJx35411_init_45d68_0 rfl (lv_at hl 0 rfl) ?_
  refine lv_aload_n hx hb dJx35411_init_45d68_1 rfl (lv_at hl 1 rfl) ?_
  refine va_putF (D := (dC, dI)) (ci := 6) (v := .ref a) (ty := .object "java/util/ArrayList") (C := RJx35411) (T := TJx35411) (N := 4) hx hb hts in_Jx35411 tyJx35411 tyJx35411_ok nmJx35411 hown hK.1 hP hD hS 0 rfl rfl 3 (by decide) (hts _ q1766) (fun _ h9 => h9) rfl hin rfl (by decide +kernel) rfl rfl (Nat.le_of_ble_eq_true rfl) dJx35411_init_45d68_2 (fun H locs hP hD hS => ?_)
  have hP : va_P (dC, dI) classes ([(it, .inr (6, [.int 0, .int 0, .int 0, .ref a])), (a, .inr (5, [.int mc, .ref rv, .int sv]))]) H := hP
  have hD : va_D A ([(it, .inr (6, [.int 0, .int 0, .int 0, .ref a])), (a, .inr (5, [.int mc, .ref rv, .int sv]))]) := hD
  refine lv_aload_n hx hb dJx35411_init_45d68_5 rfl (lv_at hl 0 rfl) ?_
  refine W.objInit hx hb hown (hts _ q1762) (hts _ q42) (hts _ q43) rfl (by rw [hml]; exact hl.1) rfl dJx35411_init_45d68_6 (Nat.le_of_ble_eq_true rfl) (Nat.le_of_ble_eq_true rfl) ?_
  refine W.eq (g2 := F0 m 9 ls []) rfl ?_
  refine lv_aload_n hx hb dJx35411_init_45d68_9 rfl (lv_at hl 0 rfl) ?_
  refine lv_iconst (v := (-1)) hx hb dJx35411_init_45d68_10 (by decide) ?_
  refine va_put (D := (dC, dI)) (ci := 6) (v := .int (-1)) (ty := .int) (C := RJx35411) (T := TJx35411) (N := 4) hx hb hts in_Jx35411 tyJx35411 tyJx35411_ok nmJx35411 hown hK.1 hP hD hS 0 rfl rfl 1 (by decide) (hts _ q1764) (fun _ h9 => h9) rfl (by decide +kernel) rfl rfl (Nat.le_of_ble_eq_true rfl) dJx35411_init_45d68_11 (fun H locs hP hD hS => ?_)
  have hP : va_P (dC, dI) classes ([(it, .inr (6, [.int 0, .int (-1), .int 0, .ref a])), (a, .inr (5, [.int mc, .ref rv, .int sv]))]) H := hP
  have hD : va_D A ([(it, .inr (6, [.int 0, .int (-1), .int 0, .ref a])), (a, .inr (5, [.int mc, .ref rv, .int sv]))]) := hD
  refine lv_aload_n hx hb dJx35411_init_45d68_14 rfl (lv_at hl 0 rfl) ?_
  refine lv_aload_n hx hb dJx35411_init_45d68_15 rfl (lv_at hl 0 rfl) ?_
  refine va_get (D := (dC, dI)) (ci := 6) (v := .ref a) (C := RJx35411) (T := TJx35411) (N := 4) hx hb hts in_Jx35411 hown hK.1 hP 0 rfl rfl 3 (by decide) (hts _ q1766) (fun _ h9 => h9) rfl dJx35411_init_45d68_16 ?_
  refine va_get (D := (dC, dI)) (ci := 5) (v := .int mc) (C := RJx4a65c) (T := TJx4a65c) (N := 3) hx hb hts in_Jx4a65c hown hK.1 hP 1 rfl rfl 0 (by decide) (hts _ q914) (u_same (hts _ q915)) rfl dJx35411_init_45d68_19 ?_
  refine va_put (D := (dC, dI)) (ci := 6) (v := .int mc) (ty := .int) (C := RJx35411) (T := TJx35411) (N := 4) hx hb hts in_Jx35411 tyJx35411 tyJx35411_ok nmJx35411 hown hK.1 hP hD hS 0 rfl rfl 2 (by decide) (hts _ q1765) (fun _ h9 => h9) rfl (by decide +kernel) rfl rfl (Nat.le_of_ble_eq_true rfl) dJx35411_init_45d68_22 (fun H locs hP hD hS => ?_)
  have hP : va_P (dC, dI) classes ([(it, .inr (6, [.int 0, .int (-1), .int mc, .ref a])), (a, .inr (5, [.int mc, .ref rv, .int sv]))]) H := hP
  have hD : va_D A ([(it, .inr (6, [.int 0, .int (-1), .int mc, .ref a])), (a, .inr (5, [.int mc, .ref rv, .int sv]))]) := hD
  exact W.vret hx hb hr (fun t ht hW => ⟨⟨(), rfl, trivial, by rw [ht]; exact hP, hD⟩, hS.F ht⟩) hS.2.2 dJx35411_init_45d68_25
theorem dJx4a65c_iterator_32c93_0 : decode cJx4a65c_iterator_32c93 0 = .ok (.new 267, 3) := by decide +kernel
theorem dJx4a65c_iterator_32c93_3 : decode cJx4a65c_iterator_32c93 3 = .ok (.dup, 1) := by decide +kernel
theorem dJx4a65c_iterator_32c93_4 : decode cJx4a65c_iterator_32c93 4 = .ok (.aload_n 0, 1) := by decide +kernel
theorem dJx4a65c_iterator_32c93_5 : decode cJx4a65c_iterator_32c93 5 = .ok (.invokespecial 269, 3) := by decide +kernel
theorem dJx4a65c_iterator_32c93_8 : decode cJx4a65c_iterator_32c93 8 = .ok (.areturn, 1) := by decide +kernel
theorem k_Jx4a65c_iterator_32c93 : KF RJx4a65c ⟨"java/util/List", "iterator", "()Ljava/util/Iterator;"⟩ yJx4a65c_iterator_32c93 cJx4a65c_iterator_32c93 1 (some (.object "java/util/Iterator")) 0 := ⟨q1752, q1754, q8, q1756, by decide +kernel⟩
set_option maxHeartbeats 4000000 in
set_option maxRecDepth 100000 in
theorem m_Jx4a65c_iterator_32c93 (l : Launch) (dC : Nat → ClassId) (dI : Nat → Nat → Nat) (cy : Nat → ClassId) (ad : Nat → Nat) (t2 tc a sz : Nat) (u : LST) (hu : okL u) : Met l yJx4a65c_iterator_32c93 (ws_ yJx4a65c_iterator_32c93 cJx4a65c_iterator_32c93 1 (some (.object "java/util/Iterator"))) ({ frames := 2, cells := 1, slots := 4, locals := 60 } : Room) (va_Pc [.ref a] (PcL dC dI cy t2 tc ad (wl ad cy t2 a u) sz)) (va_Qr (fun _ : Unit => True) (fun _ q t => va_P (dC, dI) classes (wI q a 0 (-1) u.2.2.2.1 :: wl ad cy t2 a u) t.heap ∧ va_D (va_A (wl ad cy t2 a u) sz) (wI q a 0 (-1) u.2.2.2.1 :: wl ad cy t2 a u)) (va_A (wl ad cy t2 a u) sz)) 1 4 (va_A (wl ad cy t2 a u) sz) := by
  obtain ⟨al, e, cap, mc, v, n⟩ := u
  cases al
  · have hz : n = 0 := hu.2.2.2 rfl
    subst hz
    refine Met.ofCx (own := RJx4a65c) (by decide) rfl (Nat.le_of_ble_eq_true rfl) ?_
    intro p e9 s m below meth c hC hv ls hl
    obtain ⟨hx, hb, hr, hml, hown, hts, hlocks⟩ := hC
    have hl : lv_has ls 1 [(0, .ref a)] := hl
    obtain ⟨hsz, hP, hK, hD0, hZ⟩ := hv
    subst hsz
    have hD := hD0.self (sz := s.heap.size)
    generalize hAe : va_A (wl ad cy t2 a (false, e, cap, mc, v, 0)) s.heap.size = A at hD hZ ⊢
    have hA : ∀ q : Nat, s.heap.size ≤ q → A q := fun q h => by rw [← hAe]; exact Or.inr h
    have hS : va_S A s.heap s.heap [] := va_S.rf
    clear hAe
    have hP : va_P (dC, dI) classes ([(a, .inr (5, [.int mc, .ref t2, .int 0]))]) s.heap := hP
    have hD : va_D A ([(a, .inr (5, [.int mc, .ref t2, .int 0]))]) := hD
    refine va_new (ci := 6) (fs := [.int 0, .int 0, .int 0, .null]) (C := RJx35411) (T := TJx35411) (N := 4) hx hb hts in_Jx35411 tyJx35411 tyJx35411_ok hown (hts _ q1757) (hts _ q1758) (hts _ q33) hK.1 hP hD hS hA rfl (fun j hj => by rcases (show j = 0 ∨ j = 1 ∨ j = 2 ∨ j = 3 by omega) with rfl | rfl | rfl | rfl <;> rfl) (Nat.le_of_ble_eq_true rfl) (Nat.le_of_ble_eq_true rfl) dJx4a65c_iterator_32c93_0 (fun it H hP hD hS => ?_)
    have hP : va_P (dC, dI) classes ([(a, .inr (5, [.int mc, .ref t2, .int 0])), (it, .inr (6, [.int 0, .int 0, .int 0, .null]))]) H := hP
    have hD : va_D A ([(a, .inr (5, [.int mc, .ref t2, .int 0])), (it, .inr (6, [.int 0, .int 0, .int 0, .null]))]) := hD
    refine lv_dup hx hb dJx4a65c_iterator_32c93_3 rfl ?_
    refine lv_aload_n hx hb dJx4a65c_iterator_32c93_4 rfl (lv_at hl 0 rfl) ?_
    have hPc := hP.sub (ws' := [(it, .inr (6, [.int 0, .int 0, .int 0, .null])), (a, .inr (5, [.int mc, .ref t2, .int 0]))]) [1, 0] rfl
    have hDc := hD.sub (ws' := [(it, .inr (6, [.int 0, .int 0, .int 0, .null])), (a, .inr (5, [.int mc, .ref t2, .int 0]))]) [1, 0] (by decide) rfl
    have hFc := va_free (wc := [(it, .inr (6, [.int 0, .int 0, .int 0, .null])), (a, .inr (5, [.int mc, .ref t2, .int 0]))]) hD hS hA [1, 0] rfl
    refine va_callv (va_runI (As := [.ref a]) (rest := [.ref it]) ⟨hx, hb, hml, hown, hts⟩ (m_Jx35411_init_45d68 l dC dI cy _ _ t2 _ mc 0) (cwI 1 hts (ws_good q1761) rfl rfl rfl (hts _ q33) (hts _ q1759) (hts _ q1760) rfl (by decide +kernel) ⟨Nat.le_of_ble_eq_true rfl, Nat.le_of_ble_eq_true rfl⟩) (preI hK hPc hDc) rfl rfl hl.1 rfl (lv_room (Nat.le_of_ble_eq_true rfl)) dJx4a65c_iterator_32c93_5 ⟨Nat.le_of_ble_eq_true rfl, Nat.le_of_ble_eq_true rfl⟩) hS (fun q _ h => hFc q h) hFc (fun u9 t H1 locs ht hvm hw hB hz1 hk1 hS => ?_)
    obtain ⟨hP1, hD1⟩ := hB
    rw [ht] at hP1
    obtain ⟨hP, hD⟩ := va_join (wr := []) (w1 := [(it, .inr (6, [.int 0, .int (-1), .int mc, .ref a])), (a, .inr (5, [.int mc, .ref t2, .int 0]))]) hP hD [1, 0] [] rfl rfl (by decide) (by decide) hk1 hFc hP1 hD1
    generalize H1 = H at hP hS ⊢
    have hP : va_P (dC, dI) classes ([(it, .inr (6, [.int 0, .int (-1), .int mc, .ref a])), (a, .inr (5, [.int mc, .ref t2, .int 0]))]) H := hP
    have hD : va_D A ([(it, .inr (6, [.int 0, .int (-1), .int mc, .ref a])), (a, .inr (5, [.int mc, .ref t2, .int 0]))]) := hD
    have hP9 := hP.sub (ws' := [(it, .inr (6, [.int 0, .int (-1), .int mc, .ref a])), (a, .inr (5, [.int mc, .ref t2, .int 0]))]) [0, 1] rfl
    have hD9 := hD.sub (ws' := [(it, .inr (6, [.int 0, .int (-1), .int mc, .ref a])), (a, .inr (5, [.int mc, .ref t2, .int 0]))]) [0, 1] (by decide) rfl
    exact W.aret (v := .ref it) hx hb hr (Or.inl ⟨_, rfl⟩) (Or.inr ⟨_, rfl⟩) (fun t ht hW => ⟨⟨(), it, rfl, trivial, by rw [ht]; exact hP9, hD9⟩, hS.F ht⟩) hS.2.2 dJx4a65c_iterator_32c93_8
  · skip
    refine Met.ofCx (own := RJx4a65c) (by decide) rfl (Nat.le_of_ble_eq_true rfl) ?_
    intro p e9 s m below meth c hC hv ls hl
    obtain ⟨hx, hb, hr, hml, hown, hts, hlocks⟩ := hC
    have hl : lv_has ls 1 [(0, .ref a)] := hl
    obtain ⟨hsz, hP, hK, hD0, hZ⟩ := hv
    subst hsz
    have hD := hD0.self (sz := s.heap.size)
    generalize hAe : va_A (wl ad cy t2 a (true, e, cap, mc, v, n)) s.heap.size = A at hD hZ ⊢
    have hA : ∀ q : Nat, s.heap.size ≤ q → A q := fun q h => by rw [← hAe]; exact Or.inr h
    have hS : va_S A s.heap s.heap [] := va_S.rf
    clear hAe
    have hP : va_P (dC, dI) classes ([(a, .inr (5, [.int mc, .ref e, .int (nI n)])), (e, .inl (cy 4, cap, .inr (.inr (.inr (.inr (lf ad v n))))))]) s.heap := hP
    have hD : va_D A ([(a, .inr (5, [.int mc, .ref e, .int (nI n)])), (e, .inl (cy 4, cap, .inr (.inr (.inr (.inr (lf ad v n))))))]) := hD
    refine va_new (ci := 6) (fs := [.int 0, .int 0, .int 0, .null]) (C := RJx35411) (T := TJx35411) (N := 4) hx hb hts in_Jx35411 tyJx35411 tyJx35411_ok hown (hts _ q1757) (hts _ q1758) (hts _ q33) hK.1 hP hD hS hA rfl (fun j hj => by rcases (show j = 0 ∨ j = 1 ∨ j = 2 ∨ j = 3 by omega) with rfl | rfl | rfl | rfl <;> rfl) (Nat.le_of_ble_eq_true rfl) (Nat.le_of_ble_eq_true rfl) dJx4a65c_iterator_32c93_0 (fun it H hP hD hS => ?_)
    have hP : va_P (dC, dI) classes ([(a, .inr (5, [.int mc, .ref e, .int (nI n)])), (e, .inl (cy 4, cap, .inr (.inr (.inr (.inr (lf ad v n)))))), (it, .inr (6, [.int 0, .int 0, .int 0, .null]))]) H := hP
    have hD : va_D A ([(a, .inr (5, [.int mc, .ref e, .int (nI n)])), (e, .inl (cy 4, cap, .inr (.inr (.inr (.inr (lf ad v n)))))), (it, .inr (6, [.int 0, .int 0, .int 0, .null]))]) := hD
    refine lv_dup hx hb dJx4a65c_iterator_32c93_3 rfl ?_
    refine lv_aload_n hx hb dJx4a65c_iterator_32c93_4 rfl (lv_at hl 0 rfl) ?_
    have hPc := hP.sub (ws' := [(it, .inr (6, [.int 0, .int 0, .int 0, .null])), (a, .inr (5, [.int mc, .ref e, .int (nI n)]))]) [2, 0] rfl
    have hDc := hD.sub (ws' := [(it, .inr (6, [.int 0, .int 0, .int 0, .null])), (a, .inr (5, [.int mc, .ref e, .int (nI n)]))]) [2, 0] (by decide) rfl
    have hFc := va_free (wc := [(it, .inr (6, [.int 0, .int 0, .int 0, .null])), (a, .inr (5, [.int mc, .ref e, .int (nI n)]))]) hD hS hA [2, 0] rfl
    refine va_callv (va_runI (As := [.ref a]) (rest := [.ref it]) ⟨hx, hb, hml, hown, hts⟩ (m_Jx35411_init_45d68 l dC dI cy _ _ e _ mc (nI n)) (cwI 1 hts (ws_good q1761) rfl rfl rfl (hts _ q33) (hts _ q1759) (hts _ q1760) rfl (by decide +kernel) ⟨Nat.le_of_ble_eq_true rfl, Nat.le_of_ble_eq_true rfl⟩) (preI hK hPc hDc) rfl rfl hl.1 rfl (lv_room (Nat.le_of_ble_eq_true rfl)) dJx4a65c_iterator_32c93_5 ⟨Nat.le_of_ble_eq_true rfl, Nat.le_of_ble_eq_true rfl⟩) hS (fun q _ h => hFc q h) hFc (fun u9 t H1 locs ht hvm hw hB hz1 hk1 hS => ?_)
    obtain ⟨hP1, hD1⟩ := hB
    rw [ht] at hP1
    obtain ⟨hP, hD⟩ := va_join (wr := [(e, .inl (cy 4, cap, .inr (.inr (.inr (.inr (lf ad v n))))))]) (w1 := [(it, .inr (6, [.int 0, .int (-1), .int mc, .ref a])), (a, .inr (5, [.int mc, .ref e, .int (nI n)]))]) hP hD [2, 0] [1] rfl rfl (by decide) (by decide) hk1 hFc hP1 hD1
    generalize H1 = H at hP hS ⊢
    have hP : va_P (dC, dI) classes ([(e, .inl (cy 4, cap, .inr (.inr (.inr (.inr (lf ad v n)))))), (it, .inr (6, [.int 0, .int (-1), .int mc, .ref a])), (a, .inr (5, [.int mc, .ref e, .int (nI n)]))]) H := hP
    have hD : va_D A ([(e, .inl (cy 4, cap, .inr (.inr (.inr (.inr (lf ad v n)))))), (it, .inr (6, [.int 0, .int (-1), .int mc, .ref a])), (a, .inr (5, [.int mc, .ref e, .int (nI n)]))]) := hD
    have hP9 := hP.sub (ws' := [(it, .inr (6, [.int 0, .int (-1), .int mc, .ref a])), (a, .inr (5, [.int mc, .ref e, .int (nI n)])), (e, .inl (cy 4, cap, .inr (.inr (.inr (.inr (lf ad v n))))))]) [1, 2, 0] rfl
    have hD9 := hD.sub (ws' := [(it, .inr (6, [.int 0, .int (-1), .int mc, .ref a])), (a, .inr (5, [.int mc, .ref e, .int (nI n)])), (e, .inl (cy 4, cap, .inr (.inr (.inr (.inr (lf ad v n))))))]) [1, 2, 0] (by decide) rfl
    exact W.aret (v := .ref it) hx hb hr (Or.inl ⟨_, rfl⟩) (Or.inr ⟨_, rfl⟩) (fun t ht hW => ⟨⟨(), it, rfl, trivial, by rw [ht]; exact hP9, hD9⟩, hS.F ht⟩) hS.2.2 dJx4a65c_iterator_32c93_8
theorem dJx35411_hasNext_aae02_0 : decode cJx35411_hasNext_aae02 0 = .ok (.aload_n 0, 1) := by decide +kernel
theorem dJx35411_hasNext_aae02_1 : decode cJx35411_hasNext_aae02 1 = .ok (.getfield 25, 3) := by decide +kernel
theorem dJx35411_hasNext_aae02_4 : decode cJx35411_hasNext_aae02 4 = .ok (.aload_n 0, 1) := by decide +kernel
theorem dJx35411_hasNext_aae02_5 : decode cJx35411_hasNext_aae02 5 = .ok (.getfield 1, 3) := by decide +kernel
theorem dJx35411_hasNext_aae02_8 : decode cJx35411_hasNext_aae02 8 = .ok (.getfield 28, 3) := by decide +kernel
theorem dJx35411_hasNext_aae02_11 : decode cJx35411_hasNext_aae02 11 = .ok (.if_icmp .eq 7, 3) := by decide +kernel
theorem dJx35411_hasNext_aae02_14 : decode cJx35411_hasNext_aae02 14 = .ok (.iconst 1, 1) := by decide +kernel
theorem dJx35411_hasNext_aae02_15 : decode cJx35411_hasNext_aae02 15 = .ok (.goto 4, 3) := by decide +kernel
theorem dJx35411_hasNext_aae02_18 : decode cJx35411_hasNext_aae02 18 = .ok (.iconst 0, 1) := by decide +kernel
theorem dJx35411_hasNext_aae02_19 : decode cJx35411_hasNext_aae02 19 = .ok (.ireturn, 1) := by decide +kernel
theorem k_Jx35411_hasNext_aae02 : KF RJx35411 ⟨"java/util/Iterator", "hasNext", "()Z"⟩ yJx35411_hasNext_aae02 cJx35411_hasNext_aae02 1 (some .boolean) 0 := ⟨q1781, q1783, q33, q1785, by decide +kernel⟩
set_option maxHeartbeats 4000000 in
set_option maxRecDepth 100000 in
theorem m_Jx35411_hasNext_aae02 (l : Launch) (dC : Nat → ClassId) (dI : Nat → Nat → Nat) (cy : Nat → ClassId) (ad : Nat → Nat) (t2 a : Nat) (it i : Nat) (lr mc9 : Int32) (u : LST) (hu : okL u) (hi : i ≤ u.2.2.2.2.2) (P : Int32 → Prop) (h1 : i < u.2.2.2.2.2 → P 1) (h0 : i = u.2.2.2.2.2 → P 0) : Met l yJx35411_hasNext_aae02 (ws_ yJx35411_hasNext_aae02 cJx35411_hasNext_aae02 1 (some .boolean)) ({ frames := 0, cells := 0, slots := 0, locals := 0 } : Room) (va_Pc [.ref it] (fun U => va_P (dC, dI) classes (wI it a i lr mc9 :: wl ad cy t2 a u) U.heap ∧ kwX dC dI cy U)) (vp_Si P) 0 0 (fun _ => False) := by
  obtain ⟨al, e, cap, mc, v, n⟩ := u
  have hn12 : n ≤ 12 := hu.1
  have hi : i ≤ n := hi
  cases al
  · have hz : n = 0 := hu.2.2.2 rfl
    subst hz
    have hz : i = 0 := by omega
    subst hz
    refine Met.ofCx (own := RJx35411) (by decide) rfl (Nat.le_of_ble_eq_true rfl) ?_
    intro p e9 s m below meth c hC hv ls hl
    obtain ⟨hx, hb, hr, hml, hown, hts, hlocks⟩ := hC
    have hl : lv_has ls 1 [(0, .ref it)] := hl
    obtain ⟨hP, hK⟩ := hv
    have hP : va_P (dC, dI) classes ([(it, .inr (6, [.int (nI 0), .int lr, .int mc9, .ref a])), (a, .inr (5, [.int mc, .ref t2, .int 0]))]) s.heap := hP
    refine lv_aload_n hx hb dJx35411_hasNext_aae02_0 rfl (lv_at hl 0 rfl) ?_
    refine va_get (D := (dC, dI)) (ci := 6) (v := .int (nI 0)) (C := RJx35411) (T := TJx35411) (N := 4) hx hb hts in_Jx35411 hown hK.1 hP 0 rfl rfl 0 (by decide) (hts _ q1763) (fun _ h9 => h9) rfl dJx35411_hasNext_aae02_1 ?_
    refine lv_aload_n hx hb dJx35411_hasNext_aae02_4 rfl (lv_at hl 0 rfl) ?_
    refine va_get (D := (dC, dI)) (ci := 6) (v := .ref a) (C := RJx35411) (T := TJx35411) (N := 4) hx hb hts in_Jx35411 hown hK.1 hP 0 rfl rfl 3 (by decide) (hts _ q1766) (fun _ h9 => h9) rfl dJx35411_hasNext_aae02_5 ?_
    refine va_getN (D := (dC, dI)) (ci := 5) (v := .int 0) (C := RJx4a65c) (T := TJx4a65c) (N := 3) hx hb hts in_Jx4a65c hown hK.1 hP 1 rfl rfl 2 (by decide) (va_Nw.use rfl hK.2.2.2.2.2.2.2.2.1) (fun _ h9 => h9) rfl dJx35411_hasNext_aae02_8 ?_
    refine lv_icmp_eq (tgt := 18) hx hb dJx35411_hasNext_aae02_11 (by decide) (fun cz => ?_) (fun cz => absurd (rfl) cz)
    refine lv_iconst (v := 0) hx hb dJx35411_hasNext_aae02_18 (by decide) ?_
    exact W.zret (v := 0) hx hb hr rfl (fun t ht hW => ⟨0, rfl, h0 rfl, ht⟩) (fun q hq => absurd hq List.not_mem_nil) dJx35411_hasNext_aae02_19
  · rcases Nat.lt_or_ge i n with hlt | hge
    · skip
      refine Met.ofCx (own := RJx35411) (by decide) rfl (Nat.le_of_ble_eq_true rfl) ?_
      intro p e9 s m below meth c hC hv ls hl
      obtain ⟨hx, hb, hr, hml, hown, hts, hlocks⟩ := hC
      have hl : lv_has ls 1 [(0, .ref it)] := hl
      obtain ⟨hP, hK⟩ := hv
      have hP : va_P (dC, dI) classes ([(it, .inr (6, [.int (nI i), .int lr, .int mc9, .ref a])), (a, .inr (5, [.int mc, .ref e, .int (nI n)])), (e, .inl (cy 4, cap, .inr (.inr (.inr (.inr (lf ad v n))))))]) s.heap := hP
      refine lv_aload_n hx hb dJx35411_hasNext_aae02_0 rfl (lv_at hl 0 rfl) ?_
      refine va_get (D := (dC, dI)) (ci := 6) (v := .int (nI i)) (C := RJx35411) (T := TJx35411) (N := 4) hx hb hts in_Jx35411 hown hK.1 hP 0 rfl rfl 0 (by decide) (hts _ q1763) (fun _ h9 => h9) rfl dJx35411_hasNext_aae02_1 ?_
      refine lv_aload_n hx hb dJx35411_hasNext_aae02_4 rfl (lv_at hl 0 rfl) ?_
      refine va_get (D := (dC, dI)) (ci := 6) (v := .ref a) (C := RJx35411) (T := TJx35411) (N := 4) hx hb hts in_Jx35411 hown hK.1 hP 0 rfl rfl 3 (by decide) (hts _ q1766) (fun _ h9 => h9) rfl dJx35411_hasNext_aae02_5 ?_
      refine va_getN (D := (dC, dI)) (ci := 5) (v := .int (nI n)) (C := RJx4a65c) (T := TJx4a65c) (N := 3) hx hb hts in_Jx4a65c hown hK.1 hP 1 rfl rfl 2 (by decide) (va_Nw.use rfl hK.2.2.2.2.2.2.2.2.1) (fun _ h9 => h9) rfl dJx35411_hasNext_aae02_8 ?_
      refine lv_icmp_eq (tgt := 18) hx hb dJx35411_hasNext_aae02_11 (by decide) (fun cz => absurd cz ((fun z => absurd ((nI_eq (by omega) (by omega)).mp z) (by omega)))) (fun cz => ?_)
      refine lv_iconst (v := 1) hx hb dJx35411_hasNext_aae02_14 (by decide) ?_
      refine lv_goto (tgt := 19) hx hb dJx35411_hasNext_aae02_15 (by decide) ?_
      exact W.zret (v := 1) hx hb hr rfl (fun t ht hW => ⟨1, rfl, h1 hlt, ht⟩) (fun q hq => absurd hq List.not_mem_nil) dJx35411_hasNext_aae02_19
    · have hz : i = n := by omega
      subst hz
      refine Met.ofCx (own := RJx35411) (by decide) rfl (Nat.le_of_ble_eq_true rfl) ?_
      intro p e9 s m below meth c hC hv ls hl
      obtain ⟨hx, hb, hr, hml, hown, hts, hlocks⟩ := hC
      have hl : lv_has ls 1 [(0, .ref it)] := hl
      obtain ⟨hP, hK⟩ := hv
      have hP : va_P (dC, dI) classes ([(it, .inr (6, [.int (nI i), .int lr, .int mc9, .ref a])), (a, .inr (5, [.int mc, .ref e, .int (nI i)])), (e, .inl (cy 4, cap, .inr (.inr (.inr (.inr (lf ad v i))))))]) s.heap := hP
      refine lv_aload_n hx hb dJx35411_hasNext_aae02_0 rfl (lv_at hl 0 rfl) ?_
      refine va_get (D := (dC, dI)) (ci := 6) (v := .int (nI i)) (C := RJx35411) (T := TJx35411) (N := 4) hx hb hts in_Jx35411 hown hK.1 hP 0 rfl rfl 0 (by decide) (hts _ q1763) (fun _ h9 => h9) rfl dJx35411_hasNext_aae02_1 ?_
      refine lv_aload_n hx hb dJx35411_hasNext_aae02_4 rfl (lv_at hl 0 rfl) ?_
      refine va_get (D := (dC, dI)) (ci := 6) (v := .ref a) (C := RJx35411) (T := TJx35411) (N := 4) hx hb hts in_Jx35411 hown hK.1 hP 0 rfl rfl 3 (by decide) (hts _ q1766) (fun _ h9 => h9) rfl dJx35411_hasNext_aae02_5 ?_
      refine va_getN (D := (dC, dI)) (ci := 5) (v := .int (nI i)) (C := RJx4a65c) (T := TJx4a65c) (N := 3) hx hb hts in_Jx4a65c hown hK.1 hP 1 rfl rfl 2 (by decide) (va_Nw.use rfl hK.2.2.2.2.2.2.2.2.1) (fun _ h9 => h9) rfl dJx35411_hasNext_aae02_8 ?_
      refine lv_icmp_eq (tgt := 18) hx hb dJx35411_hasNext_aae02_11 (by decide) (fun cz => ?_) (fun cz => absurd (rfl) cz)
      refine lv_iconst (v := 0) hx hb dJx35411_hasNext_aae02_18 (by decide) ?_
      exact W.zret (v := 0) hx hb hr rfl (fun t ht hW => ⟨0, rfl, h0 rfl, ht⟩) (fun q hq => absurd hq List.not_mem_nil) dJx35411_hasNext_aae02_19
theorem dJx35411_checkForComodification_da8c8_0 : decode cJx35411_checkForComodification_da8c8 0 = .ok (.aload_n 0, 1) := by decide +kernel
theorem dJx35411_checkForComodification_da8c8_1 : decode cJx35411_checkForComodification_da8c8 1 = .ok (.getfield 1, 3) := by decide +kernel
theorem dJx35411_checkForComodification_da8c8_4 : decode cJx35411_checkForComodification_da8c8 4 = .ok (.getfield 17, 3) := by decide +kernel
theorem dJx35411_checkForComodification_da8c8_7 : decode cJx35411_checkForComodification_da8c8 7 = .ok (.aload_n 0, 1) := by decide +kernel
theorem dJx35411_checkForComodification_da8c8_8 : decode cJx35411_checkForComodification_da8c8 8 = .ok (.getfield 22, 3) := by decide +kernel
theorem dJx35411_checkForComodification_da8c8_11 : decode cJx35411_checkForComodification_da8c8 11 = .ok (.if_icmp .eq 11, 3) := by decide +kernel
theorem dJx35411_checkForComodification_da8c8_14 : decode cJx35411_checkForComodification_da8c8 14 = .ok (.new 41, 3) := by decide +kernel
theorem dJx35411_checkForComodification_da8c8_17 : decode cJx35411_checkForComodification_da8c8 17 = .ok (.dup, 1) := by decide +kernel
theorem dJx35411_checkForComodification_da8c8_18 : decode cJx35411_checkForComodification_da8c8 18 = .ok (.invokespecial 43, 3) := by decide +kernel
theorem dJx35411_checkForComodification_da8c8_21 : decode cJx35411_checkForComodification_da8c8 21 = .ok (.athrow, 1) := by decide +kernel
theorem dJx35411_checkForComodification_da8c8_22 : decode cJx35411_checkForComodification_da8c8 22 = .ok (.return_, 1) := by decide +kernel
theorem k_Jx35411_checkForComodification_da8c8 : KV RJx35411 yJx35411_checkForComodification_da8c8 cJx35411_checkForComodification_da8c8 1 none 0 := ⟨q1796, q1797, q33, q1798, by decide +kernel⟩
set_option maxHeartbeats 4000000 in
set_option maxRecDepth 100000 in
theorem m_Jx35411_checkForComodification_da8c8 (l : Launch) (dC : Nat → ClassId) (dI : Nat → Nat → Nat) (cy : Nat → ClassId) (ad : Nat → Nat) (t2 a : Nat) (it i : Nat) (lr : Int32) (e cap : Nat) (mc : Int32) (v : Nat → Nat) (n : Nat) : Met l yJx35411_checkForComodification_da8c8 (ws_ yJx35411_checkForComodification_da8c8 cJx35411_checkForComodification_da8c8 1 none) ({ frames := 0, cells := 0, slots := 0, locals := 0 } : Room) (va_Pc [.ref it] (fun U => va_P (dC, dI) classes ([(it, .inr (6, [.int (nI i), .int lr, .int mc, .ref a])), (a, .inr (5, [.int mc, .ref e, .int (nI n)])), (e, .inl (cy 4, cap, .inr (.inr (.inr (.inr (lf ad v n))))))]) U.heap ∧ kwX dC dI cy U)) (va_Sv (fun _ => True)) 0 0 (fun _ => False) := by
  refine Met.ofCx (own := RJx35411) (by decide) rfl (Nat.le_of_ble_eq_true rfl) ?_
  intro p e9 s m below meth c hC hv ls hl
  obtain ⟨hx, hb, hr, hml, hown, hts, hlocks⟩ := hC
  have hl : lv_has ls 1 [(0, .ref it)] := hl
  obtain ⟨hP, hK⟩ := hv
  have hP : va_P (dC, dI) classes ([(it, .inr (6, [.int (nI i), .int lr, .int mc, .ref a])), (a, .inr (5, [.int mc, .ref e, .int (nI n)])), (e, .inl (cy 4, cap, .inr (.inr (.inr (.inr (lf ad v n))))))]) s.heap := hP
  refine lv_aload_n hx hb dJx35411_checkForComodification_da8c8_0 rfl (lv_at hl 0 rfl) ?_
  refine va_get (D := (dC, dI)) (ci := 6) (v := .ref a) (C := RJx35411) (T := TJx35411) (N := 4) hx hb hts in_Jx35411 hown hK.1 hP 0 rfl rfl 3 (by decide) (hts _ q1766) (fun _ h9 => h9) rfl dJx35411_checkForComodification_da8c8_1 ?_
  refine va_get (D := (dC, dI)) (ci := 5) (v := .int mc) (C := RJx4a65c) (T := TJx4a65c) (N := 3) hx hb hts in_Jx4a65c hown hK.1 hP 1 rfl rfl 0 (by decide) (hts _ q914) (u_same (hts _ q915)) rfl dJx35411_checkForComodification_da8c8_4 ?_
  refine lv_aload_n hx hb dJx35411_checkForComodification_da8c8_7 rfl (lv_at hl 0 rfl) ?_
  refine va_get (D := (dC, dI)) (ci := 6) (v := .int mc) (C := RJx35411) (T := TJx35411) (N := 4) hx hb hts in_Jx35411 hown hK.1 hP 0 rfl rfl 2 (by decide) (hts _ q1765) (fun _ h9 => h9) rfl dJx35411_checkForComodification_da8c8_8 ?_
  refine lv_icmp_eq (tgt := 22) hx hb dJx35411_checkForComodification_da8c8_11 (by decide) (fun cz => ?_) (fun cz => absurd (rfl) cz)
  exact W.vret hx hb hr (fun t ht hW => ⟨rfl, trivial, ht⟩) (fun q hq => absurd hq List.not_mem_nil) dJx35411_checkForComodification_da8c8_22
theorem dJx35411_next_0502b_0 : decode cJx35411_next_0502b 0 = .ok (.aload_n 0, 1) := by decide +kernel
theorem dJx35411_next_0502b_1 : decode cJx35411_next_0502b 1 = .ok (.invokevirtual 31, 3) := by decide +kernel
theorem dJx35411_next_0502b_4 : decode cJx35411_next_0502b 4 = .ok (.aload_n 0, 1) := by decide +kernel
theorem dJx35411_next_0502b_5 : decode cJx35411_next_0502b 5 = .ok (.getfield 25, 3) := by decide +kernel
theorem dJx35411_next_0502b_8 : decode cJx35411_next_0502b 8 = .ok (.istore_n 1, 1) := by decide +kernel
theorem dJx35411_next_0502b_9 : decode cJx35411_next_0502b 9 = .ok (.iload_n 1, 1) := by decide +kernel
theorem dJx35411_next_0502b_10 : decode cJx35411_next_0502b 10 = .ok (.aload_n 0, 1) := by decide +kernel
theorem dJx35411_next_0502b_11 : decode cJx35411_next_0502b 11 = .ok (.getfield 1, 3) := by decide +kernel
theorem dJx35411_next_0502b_14 : decode cJx35411_next_0502b 14 = .ok (.getfield 28, 3) := by decide +kernel
theorem dJx35411_next_0502b_17 : decode cJx35411_next_0502b 17 = .ok (.if_icmp .lt 11, 3) := by decide +kernel
theorem dJx35411_next_0502b_20 : decode cJx35411_next_0502b 20 = .ok (.new 34, 3) := by decide +kernel
theorem dJx35411_next_0502b_23 : decode cJx35411_next_0502b 23 = .ok (.dup, 1) := by decide +kernel
theorem dJx35411_next_0502b_24 : decode cJx35411_next_0502b 24 = .ok (.invokespecial 36, 3) := by decide +kernel
theorem dJx35411_next_0502b_27 : decode cJx35411_next_0502b 27 = .ok (.athrow, 1) := by decide +kernel
theorem dJx35411_next_0502b_28 : decode cJx35411_next_0502b 28 = .ok (.aload_n 0, 1) := by decide +kernel
theorem dJx35411_next_0502b_29 : decode cJx35411_next_0502b 29 = .ok (.getfield 1, 3) := by decide +kernel
theorem dJx35411_next_0502b_32 : decode cJx35411_next_0502b 32 = .ok (.getfield 37, 3) := by decide +kernel
theorem dJx35411_next_0502b_35 : decode cJx35411_next_0502b 35 = .ok (.astore_n 2, 1) := by decide +kernel
theorem dJx35411_next_0502b_36 : decode cJx35411_next_0502b 36 = .ok (.iload_n 1, 1) := by decide +kernel
theorem dJx35411_next_0502b_37 : decode cJx35411_next_0502b 37 = .ok (.aload_n 2, 1) := by decide +kernel
theorem dJx35411_next_0502b_38 : decode cJx35411_next_0502b 38 = .ok (.arraylength, 1) := by decide +kernel
theorem dJx35411_next_0502b_39 : decode cJx35411_next_0502b 39 = .ok (.if_icmp .lt 11, 3) := by decide +kernel
theorem dJx35411_next_0502b_42 : decode cJx35411_next_0502b 42 = .ok (.new 41, 3) := by decide +kernel
theorem dJx35411_next_0502b_45 : decode cJx35411_next_0502b 45 = .ok (.dup, 1) := by decide +kernel
theorem dJx35411_next_0502b_46 : decode cJx35411_next_0502b 46 = .ok (.invokespecial 43, 3) := by decide +kernel
theorem dJx35411_next_0502b_49 : decode cJx35411_next_0502b 49 = .ok (.athrow, 1) := by decide +kernel
theorem dJx35411_next_0502b_50 : decode cJx35411_next_0502b 50 = .ok (.aload_n 0, 1) := by decide +kernel
theorem dJx35411_next_0502b_51 : decode cJx35411_next_0502b 51 = .ok (.iload_n 1, 1) := by decide +kernel
theorem dJx35411_next_0502b_52 : decode cJx35411_next_0502b 52 = .ok (.iconst 1, 1) := by decide +kernel
theorem dJx35411_next_0502b_53 : decode cJx35411_next_0502b 53 = .ok (.iadd, 1) := by decide +kernel
theorem dJx35411_next_0502b_54 : decode cJx35411_next_0502b 54 = .ok (.putfield 25, 3) := by decide +kernel
theorem dJx35411_next_0502b_57 : decode cJx35411_next_0502b 57 = .ok (.aload_n 2, 1) := by decide +kernel
theorem dJx35411_next_0502b_58 : decode cJx35411_next_0502b 58 = .ok (.aload_n 0, 1) := by decide +kernel
theorem dJx35411_next_0502b_59 : decode cJx35411_next_0502b 59 = .ok (.iload_n 1, 1) := by decide +kernel
theorem dJx35411_next_0502b_60 : decode cJx35411_next_0502b 60 = .ok (.dup_x1, 1) := by decide +kernel
theorem dJx35411_next_0502b_61 : decode cJx35411_next_0502b 61 = .ok (.putfield 13, 3) := by decide +kernel
theorem dJx35411_next_0502b_64 : decode cJx35411_next_0502b 64 = .ok (.aaload, 1) := by decide +kernel
theorem dJx35411_next_0502b_65 : decode cJx35411_next_0502b 65 = .ok (.areturn, 1) := by decide +kernel
theorem k_Jx35411_next_0502b : KF RJx35411 ⟨"java/util/Iterator", "next", "()Ljava/lang/Object;"⟩ yJx35411_next_0502b cJx35411_next_0502b 3 (some (.object "java/lang/Object")) 0 := ⟨q1790, q1792, q33, q1794, by decide +kernel⟩
set_option maxHeartbeats 4000000 in
set_option maxRecDepth 100000 in
theorem m_Jx35411_next_0502b (l : Launch) (dC : Nat → ClassId) (dI : Nat → Nat → Nat) (cy : Nat → ClassId) (ad : Nat → Nat) (t2 tc a sz : Nat) (it i : Nat) (lr : Int32) (e cap : Nat) (mc : Int32) (v : Nat → Nat) (n : Nat) (hi : i < n) (hc : n ≤ cap) (h15 : cap ≤ 15) : Met l yJx35411_next_0502b (ws_ yJx35411_next_0502b cJx35411_next_0502b 3 (some (.object "java/lang/Object"))) ({ frames := 1, cells := 0, slots := 0, locals := 25 } : Room) (va_Pc [.ref it] (PcL dC dI cy t2 tc ad ([(it, .inr (6, [.int (nI i), .int lr, .int mc, .ref a])), (a, .inr (5, [.int mc, .ref e, .int (nI n)])), (e, .inl (cy 4, cap, .inr (.inr (.inr (.inr (lf ad v n))))))]) sz)) (va_Qr (fun _ : Unit => True) (fun _ q t => q = ad (v i + 128) ∧ va_P (dC, dI) classes ([(it, .inr (6, [.int (nI (i + 1)), .int (nI i), .int mc, .ref a])), (a, .inr (5, [.int mc, .ref e, .int (nI n)])), (e, .inl (cy 4, cap, .inr (.inr (.inr (.inr (lf ad v n))))))]) t.heap ∧ va_D (va_A ([(it, .inr (6, [.int (nI i), .int lr, .int mc, .ref a])), (a, .inr (5, [.int mc, .ref e, .int (nI n)])), (e, .inl (cy 4, cap, .inr (.inr (.inr (.inr (lf ad v n))))))]) sz) ([(it, .inr (6, [.int (nI (i + 1)), .int (nI i), .int mc, .ref a])), (a, .inr (5, [.int mc, .ref e, .int (nI n)])), (e, .inl (cy 4, cap, .inr (.inr (.inr (.inr (lf ad v n))))))])) (va_A ([(it, .inr (6, [.int (nI i), .int lr, .int mc, .ref a])), (a, .inr (5, [.int mc, .ref e, .int (nI n)])), (e, .inl (cy 4, cap, .inr (.inr (.inr (.inr (lf ad v n))))))]) sz)) 0 0 (va_A ([(it, .inr (6, [.int (nI i), .int lr, .int mc, .ref a])), (a, .inr (5, [.int mc, .ref e, .int (nI n)])), (e, .inl (cy 4, cap, .inr (.inr (.inr (.inr (lf ad v n))))))]) sz) := by
  refine Met.ofCx (own := RJx35411) (by decide) rfl (Nat.le_of_ble_eq_true rfl) ?_
  intro p e9 s m below meth c hC hv ls hl
  obtain ⟨hx, hb, hr, hml, hown, hts, hlocks⟩ := hC
  have hl : lv_has ls 3 [(0, .ref it)] := hl
  obtain ⟨hsz, hP, hK, hD0, hZ⟩ := hv
  subst hsz
  have hD := hD0.self (sz := s.heap.size)
  generalize hAe : va_A ([(it, .inr (6, [.int (nI i), .int lr, .int mc, .ref a])), (a, .inr (5, [.int mc, .ref e, .int (nI n)])), (e, .inl (cy 4, cap, .inr (.inr (.inr (.inr (lf ad v n))))))]) s.heap.size = A at hD hZ ⊢
  have hA : ∀ q : Nat, s.heap.size ≤ q → A q := fun q h => by rw [← hAe]; exact Or.inr h
  have hS : va_S A s.heap s.heap [] := va_S.rf
  clear hAe
  refine lv_aload_n hx hb dJx35411_next_0502b_0 rfl (lv_at hl 0 rfl) ?_
  refine cpVu (q0 := 0) (As := []) (rest := []) ⟨hx, hb, hr, hml, hown, hts, hlocks⟩ hK hP rfl rfl (m_Jx35411_checkForComodification_da8c8 l dC dI cy ad t2 a it i lr e cap mc v n) k_Jx35411_checkForComodification_da8c8 q1795 ⟨rfl, rfl⟩ ⟨Nat.le_of_ble_eq_true rfl, Nat.le_of_ble_eq_true rfl⟩ hl.1 rfl rfl (Nat.le_of_ble_eq_true rfl) dJx35411_next_0502b_1 ⟨Nat.le_of_ble_eq_true rfl, Nat.le_of_ble_eq_true rfl⟩ ?_
  refine lv_aload_n hx hb dJx35411_next_0502b_4 rfl (lv_at hl 0 rfl) ?_
  refine va_get (D := (dC, dI)) (ci := 6) (v := .int (nI i)) (C := RJx35411) (T := TJx35411) (N := 4) hx hb hts in_Jx35411 hown hK.1 hP 0 rfl rfl 0 (by decide) (hts _ q1763) (fun _ h9 => h9) rfl dJx35411_next_0502b_5 ?_
  refine lv_istore_n (lv' := [(1, .int (nI i)), (0, .ref it)]) hx hb dJx35411_next_0502b_8 rfl hl (by decide) rfl (fun ls hl => ?_)
  refine lv_iload_n hx hb dJx35411_next_0502b_9 rfl (lv_at hl 0 rfl) ?_
  refine lv_aload_n hx hb dJx35411_next_0502b_10 rfl (lv_at hl 1 rfl) ?_
  refine va_get (D := (dC, dI)) (ci := 6) (v := .ref a) (C := RJx35411) (T := TJx35411) (N := 4) hx hb hts in_Jx35411 hown hK.1 hP 0 rfl rfl 3 (by decide) (hts _ q1766) (fun _ h9 => h9) rfl dJx35411_next_0502b_11 ?_
  refine va_getN (D := (dC, dI)) (ci := 5) (v := .int (nI n)) (C := RJx4a65c) (T := TJx4a65c) (N := 3) hx hb hts in_Jx4a65c hown hK.1 hP 1 rfl rfl 2 (by decide) (va_Nw.use rfl hK.2.2.2.2.2.2.2.2.1) (fun _ h9 => h9) rfl dJx35411_next_0502b_14 ?_
  refine lv_icmp_lt (tgt := 28) hx hb dJx35411_next_0502b_17 (by decide) (fun cz => ?_) (fun cz => absurd ((nI_lt hi (by omega))) cz)
  refine lv_aload_n hx hb dJx35411_next_0502b_28 rfl (lv_at hl 1 rfl) ?_
  refine va_get (D := (dC, dI)) (ci := 6) (v := .ref a) (C := RJx35411) (T := TJx35411) (N := 4) hx hb hts in_Jx35411 hown hK.1 hP 0 rfl rfl 3 (by decide) (hts _ q1766) (fun _ h9 => h9) rfl dJx35411_next_0502b_29 ?_
  refine va_get (D := (dC, dI)) (ci := 5) (v := .ref e) (C := RJx4a65c) (T := TJx4a65c) (N := 3) hx hb hts in_Jx4a65c hown hK.1 hP 1 rfl rfl 1 (by decide) (hts _ q910) (fun _ h9 => h9) rfl dJx35411_next_0502b_32 ?_
  refine lv_astore_n (lv' := [(2, .ref e), (1, .int (nI i)), (0, .ref it)]) hx hb dJx35411_next_0502b_35 rfl hl (by decide) rfl (fun ls hl => ?_)
  refine lv_iload_n hx hb dJx35411_next_0502b_36 rfl (lv_at hl 1 rfl) ?_
  refine lv_aload_n hx hb dJx35411_next_0502b_37 rfl (lv_at hl 0 rfl) ?_
  refine va_alen hx hb hK.1 hP 2 4 rfl rfl (v := Int32.ofNat cap) rfl dJx35411_next_0502b_38 ?_
  refine lv_icmp_lt (tgt := 50) hx hb dJx35411_next_0502b_39 (by decide) (fun cz => ?_) (fun cz => absurd ((show nI i < Int32.ofNat cap from nI_lt (by omega) (by omega))) cz)
  refine lv_aload_n hx hb dJx35411_next_0502b_50 rfl (lv_at hl 2 rfl) ?_
  refine lv_iload_n hx hb dJx35411_next_0502b_51 rfl (lv_at hl 1 rfl) ?_
  refine lv_iconst (v := 1) hx hb dJx35411_next_0502b_52 (by decide) ?_
  refine lv_iadd hx hb dJx35411_next_0502b_53 ?_
  rw [show ((nI i) + 1 : Int32) = nI (i + 1) from nI_1 i]
  refine va_put (D := (dC, dI)) (ci := 6) (v := .int (nI (i + 1))) (ty := .int) (C := RJx35411) (T := TJx35411) (N := 4) hx hb hts in_Jx35411 tyJx35411 tyJx35411_ok nmJx35411 hown hK.1 hP hD hS 0 rfl rfl 0 (by decide) (hts _ q1763) (fun _ h9 => h9) rfl (by decide +kernel) rfl rfl (Nat.le_of_ble_eq_true rfl) dJx35411_next_0502b_54 (fun H locs hP hD hS => ?_)
  have hP : va_P (dC, dI) classes ([(it, .inr (6, [.int (nI (i + 1)), .int lr, .int mc, .ref a])), (a, .inr (5, [.int mc, .ref e, .int (nI n)])), (e, .inl (cy 4, cap, .inr (.inr (.inr (.inr (lf ad v n))))))]) H := hP
  have hD : va_D A ([(it, .inr (6, [.int (nI (i + 1)), .int lr, .int mc, .ref a])), (a, .inr (5, [.int mc, .ref e, .int (nI n)])), (e, .inl (cy 4, cap, .inr (.inr (.inr (.inr (lf ad v n))))))]) := hD
  refine lv_aload_n hx hb dJx35411_next_0502b_57 rfl (lv_at hl 0 rfl) ?_
  refine lv_aload_n hx hb dJx35411_next_0502b_58 rfl (lv_at hl 2 rfl) ?_
  refine lv_iload_n hx hb dJx35411_next_0502b_59 rfl (lv_at hl 1 rfl) ?_
  refine lv_dup_x1 hx hb dJx35411_next_0502b_60 rfl rfl ?_
  refine va_put (D := (dC, dI)) (ci := 6) (v := .int (nI i)) (ty := .int) (C := RJx35411) (T := TJx35411) (N := 4) hx hb hts in_Jx35411 tyJx35411 tyJx35411_ok nmJx35411 hown hK.1 hP hD hS 0 rfl rfl 1 (by decide) (hts _ q1764) (fun _ h9 => h9) rfl (by decide +kernel) rfl rfl (Nat.le_of_ble_eq_true rfl) dJx35411_next_0502b_61 (fun H locs hP hD hS => ?_)
  have hP : va_P (dC, dI) classes ([(it, .inr (6, [.int (nI (i + 1)), .int (nI i), .int mc, .ref a])), (a, .inr (5, [.int mc, .ref e, .int (nI n)])), (e, .inl (cy 4, cap, .inr (.inr (.inr (.inr (lf ad v n))))))]) H := hP
  have hD : va_D A ([(it, .inr (6, [.int (nI (i + 1)), .int (nI i), .int mc, .ref a])), (a, .inr (5, [.int mc, .ref e, .int (nI n)])), (e, .inl (cy 4, cap, .inr (.inr (.inr (.inr (lf ad v n))))))]) := hD
  refine va_aldq hx hb hK.1 hP 2 4 rfl rfl (vp_in_nI (by omega) (by omega)) dJx35411_next_0502b_64 ?_
  rw [show (lf ad v n) (nI i).toNatClampNeg = some (ad (v i + 128)) from by rw [nI_clamp (by omega)]; exact lf_at hi]
  refine W.eq (g2 := F0 m 65 ls [.ref (ad (v i + 128))]) rfl ?_
  exact W.aret (v := .ref (ad (v i + 128))) hx hb hr (Or.inl ⟨_, rfl⟩) (Or.inr ⟨_, rfl⟩) (fun t ht hW => ⟨⟨(), _, rfl, trivial, rfl, by rw [ht]; exact hP, hD⟩, hS.F ht⟩) hS.2.2 dJx35411_next_0502b_65
