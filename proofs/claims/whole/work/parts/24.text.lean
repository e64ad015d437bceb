def stdB (j : Nat) : Int32 := ([115, 116, 100] : List Int32).getD j 0
theorem ZK.val {aK aV fS : Nat} {A : Nat → Prop} {U : State} {H : Heap} (h : ZK aK aV fS A U H) : va_OF "java/lang/String" "value" "[B" (.ref aV) aK A U H := (h.1.1 0 (by decide)).2.2.1
theorem ZK.cod {aK aV fS : Nat} {A : Nat → Prop} {U : State} {H : Heap} (h : ZK aK aV fS A U H) : va_OF "java/lang/String" "coder" "B" (.int 0) aK A U H := (h.1.1 0 (by decide)).2.1
theorem ZK.byt {aK aV fS : Nat} {A : Nat → Prop} {U : State} {H : Heap} (h : ZK aK aV fS A U H) : va_T .byte aV 3 (fun j => .int (stdB j)) A U H := (h.1.1 0 (by decide)).2.2.2
section KOPS
variable {p : Program} {l : Launch} {e : Env} {R : Room} {s : State} {m : MethodId} {args : Array Value} {below : List Frame} {meth : Method} {c : Code} {H : Heap} {locs : List Loc} {cells slots : Nat} {Q : State → Prop}
  {cc bytes : ByteArray} {nL maxL index n pc : Nat} {own : String} {y : MethodName} {ret rt : Option FieldType} {rm : Room} {ls : Array Slot} {As rest st0 : List Value} {aK aV fS : Nat} {A : Nat → Prop}
theorem preK (hZ : ZK aK aV fS A s s.heap) (hS : va_S A s.heap H locs) : PreS s H (va_Pc As (fun U => ZK aK aV fS (fun _ => False) U U.heap)) As :=
  ⟨fun a U g mk q => ⟨q.1, ZK.moved (u := U) (U := U.calling g mk a) (Vm.Alike.refl U.vm) q.2⟩, fun U hU hW => ⟨rfl, by
    show ZK aK aV fS (fun _ => False) U U.heap
    rw [hU]; exact ((hZ.kept hS.2.1).narrow (fun _ h => h.elim)).moved hW.alike⟩⟩
theorem ZK.recv (hZ : ZK aK aV fS A s s.heap) (hS : va_S A s.heap H locs) : ∃ cell : Cell, H[aK]? = some cell ∧ cell.vm.isStatics = false ∧ s.vm.findClass "java/lang/String" = some cell.cls := vk_recv (i := 0) hZ.1 (by decide) hS
theorem czKi {P : Int32 → Prop} (hC : Cx p s m args meth c own cc nL rt) (hZ : ZK aK aV fS A s s.heap) (hS : va_S A s.heap H locs)
    (hM : Met l y (ws_ y bytes maxL ret) rm (va_Pc As (fun U => ZK aK aV fS (fun _ => False) U U.heap)) (vp_Si P) 0 0 (fun _ => False)) (k : KS y bytes maxL ret n) (hlink : Cond.methodLink own index y ∈ lw_all)
    (hrm : rm.cells = 0 ∧ rm.slots = 0) (hR : rm.frames + 1 ≤ R.frames ∧ 8 + (maxL + 11) + rm.locals ≤ R.locals) (hl : ls.size = nL) (hn : As.length = n) (hst : st0 = As.reverse ++ rest) (hr : (rest.map fun v => v.category).sum ≤ 8) (hdg : decode cc pc = .ok (.invokestatic index, 3)) (hf : cells ≤ R.cells ∧ slots ≤ R.slots)
    (kk : ∀ r : Int32, P r → W p l e R s m args below meth c H locs cells slots Q (F0 m (pc + 3) ls (.int r :: rest))) : W p l e R s m args below meth c H locs cells slots Q (F0 m pc ls st0) :=
  vp_callSi (W.runS (As := As) (rest := rest) ⟨hC.1, hC.2.1, hC.2.2.2.1, hC.2.2.2.2.1, hC.2.2.2.2.2.1⟩ hM (cbS hC.2.2.2.2.2.1 k hlink hrm hR) (preK hZ hS) rfl hn hl hst (lv_room hr) hdg hf) kk
theorem czKv {P : Prop} (hC : Cx p s m args meth c own cc nL rt) (hZ : ZK aK aV fS A s s.heap) (hS : va_S A s.heap H locs)
    (hM : Met l y (ws_ y bytes maxL ret) rm (va_Pc As (fun U => ZK aK aV fS (fun _ => False) U U.heap)) (vp_Sv0 P) 0 0 (fun _ => False)) (k : KS y bytes maxL ret n) (hlink : Cond.methodLink own index y ∈ lw_all)
    (hrm : rm.cells = 0 ∧ rm.slots = 0) (hR : rm.frames + 1 ≤ R.frames ∧ 8 + (maxL + 11) + rm.locals ≤ R.locals) (hl : ls.size = nL) (hn : As.length = n) (hst : st0 = As.reverse ++ rest) (hr : (rest.map fun v => v.category).sum ≤ 8) (hdg : decode cc pc = .ok (.invokestatic index, 3)) (hf : cells ≤ R.cells ∧ slots ≤ R.slots)
    (kk : P → W p l e R s m args below meth c H locs cells slots Q (F0 m (pc + 3) ls rest)) : W p l e R s m args below meth c H locs cells slots Q (F0 m pc ls st0) := by
  have hr9 : CallRun p l e R s m args below meth c H locs cells slots 0 0 (F0 m pc ls st0) rest (vp_Sv0 P As.toArray) (fun _ => False) := W.runS (As := As) (rest := rest) ⟨hC.1, hC.2.1, hC.2.2.2.1, hC.2.2.2.2.1, hC.2.2.2.2.2.1⟩ hM (cbS hC.2.2.2.2.2.1 k hlink hrm hR) (preK hZ hS) rfl hn hl hst (lv_room hr) hdg hf
  intro T hT X
  obtain ⟨v, st₀, t, T', L, h0, X', hL, e1, ⟨hv, hp, hh⟩, st⟩ := hr9 T hT X
  cases hv
  obtain ⟨t2, a1, b1⟩ := kk hp T' (by rw [e1, hh, h0]) (Stand.forget X' (fun q h => (hL q h).elim))
  exact ⟨t2, st t2 a1, b1⟩
theorem czKV {P : Int32 → Prop} (hC : Cx p s m args meth c own cc nL rt) (hZ : ZK aK aV fS A s s.heap) (hS : va_S A s.heap H locs)
    (hM : Met l y (ws_ y bytes maxL ret) rm (va_Pc (.ref aK :: As) (fun U => ZK aK aV fS (fun _ => False) U U.heap)) (vp_Si P) 0 0 (fun _ => False)) (k : KV "java/lang/String" y bytes maxL ret n) (hlink : Cond.methodLink own index y ∈ lw_all)
    (hrm : rm.cells = 0 ∧ rm.slots = 0) (hR : rm.frames + 1 ≤ R.frames ∧ 8 + (maxL + 11) + rm.locals ≤ R.locals) (hl : ls.size = nL) (hn : As.length = n) (hst : st0 = As.reverse ++ .ref aK :: rest) (hr : (rest.map fun v => v.category).sum ≤ 8) (hdg : decode cc pc = .ok (.invokevirtual index, 3)) (hf : cells ≤ R.cells ∧ slots ≤ R.slots)
    (kk : ∀ r : Int32, P r → W p l e R s m args below meth c H locs cells slots Q (F0 m (pc + 3) ls (.int r :: rest))) : W p l e R s m args below meth c H locs cells slots Q (F0 m pc ls st0) :=
  vp_callSi (W.runV (b := aK) (As := As) (rest := rest) ⟨hC.1, hC.2.1, hC.2.2.2.1, hC.2.2.2.2.1, hC.2.2.2.2.2.1⟩ hM (cbV hC.2.2.2.2.2.1 k hlink hrm hR) ⟨(preK (As := .ref aK :: As) hZ hS).1, hZ.recv hS, (preK (As := .ref aK :: As) hZ hS).2⟩ rfl hn hl hst (lv_room hr) hdg hf) kk
end KOPS

set_option maxHeartbeats 4000000 in
set_option maxRecDepth 100000 in
theorem m_J3f (l : Launch) (fS : Nat) (i n : Int32) (h0 : ¬ i < 0) (h1 : i < n) : Met l yJ3_checkIndex_8e157 (ws_ yJ3_checkIndex_8e157 cJ3_checkIndex_8e157 3 (some .int)) ({ frames := 0, cells := 0, slots := 0, locals := 0 } : Room) (va_Pc [.int i, .int n, .ref fS] (fun _ => True)) (vp_Si (fun r => r = i)) 0 0 (fun _ => False) := by
  refine Met.ofCx (own := RJ3) (by decide) rfl (Nat.le_of_ble_eq_true rfl) ?_
  intro p e9 s m below meth c hC hv ls hl
  obtain ⟨hx, hb, hr, hml, hown, hts, hlocks⟩ := hC
  have hl : lv_has ls 3 [(0, .int i), (1, .int n), (2, .ref fS)] := hl
  refine lv_iload_n hx hb dJ3_checkIndex_8e157_0 rfl (lv_at hl 0 rfl) ?_
  refine lv_if_lt (tgt := 9) hx hb dJ3_checkIndex_8e157_1 (by decide) (fun cz => absurd cz (h0)) (fun cz => ?_)
  refine lv_iload_n hx hb dJ3_checkIndex_8e157_4 rfl (lv_at hl 0 rfl) ?_
  refine lv_iload_n hx hb dJ3_checkIndex_8e157_5 rfl (lv_at hl 1 rfl) ?_
  refine lv_icmp_lt (tgt := 16) hx hb dJ3_checkIndex_8e157_6 (by decide) (fun cz => ?_) (fun cz => absurd (h1) cz)
  refine lv_iload_n hx hb dJ3_checkIndex_8e157_16 rfl (lv_at hl 0 rfl) ?_
  exact W.iret (v := i) hx hb hr (fun t ht hW => ⟨i, rfl, rfl, ht⟩) (fun q hq => absurd hq List.not_mem_nil) dJ3_checkIndex_8e157_17
set_option maxHeartbeats 4000000 in
set_option maxRecDepth 100000 in
theorem m_J3n (l : Launch) (i n : Int32) (h0 : ¬ i < 0) (h1 : i < n) : Met l yJ3_checkIndex_8e157 (ws_ yJ3_checkIndex_8e157 cJ3_checkIndex_8e157 3 (some .int)) ({ frames := 0, cells := 0, slots := 0, locals := 0 } : Room) (va_Pc [.int i, .int n, .null] (fun _ => True)) (vp_Si (fun r => r = i)) 0 0 (fun _ => False) := by
  refine Met.ofCx (own := RJ3) (by decide) rfl (Nat.le_of_ble_eq_true rfl) ?_
  intro p e9 s m below meth c hC hv ls hl
  obtain ⟨hx, hb, hr, hml, hown, hts, hlocks⟩ := hC
  have hl : lv_has ls 3 [(0, .int i), (1, .int n), (2, .null)] := hl
  refine lv_iload_n hx hb dJ3_checkIndex_8e157_0 rfl (lv_at hl 0 rfl) ?_
  refine lv_if_lt (tgt := 9) hx hb dJ3_checkIndex_8e157_1 (by decide) (fun cz => absurd cz (h0)) (fun cz => ?_)
  refine lv_iload_n hx hb dJ3_checkIndex_8e157_4 rfl (lv_at hl 0 rfl) ?_
  refine lv_iload_n hx hb dJ3_checkIndex_8e157_5 rfl (lv_at hl 1 rfl) ?_
  refine lv_icmp_lt (tgt := 16) hx hb dJ3_checkIndex_8e157_6 (by decide) (fun cz => ?_) (fun cz => absurd (h1) cz)
  refine lv_iload_n hx hb dJ3_checkIndex_8e157_16 rfl (lv_at hl 0 rfl) ?_
  exact W.iret (v := i) hx hb hr (fun t ht hW => ⟨i, rfl, rfl, ht⟩) (fun q hq => absurd hq List.not_mem_nil) dJ3_checkIndex_8e157_17
theorem dJ0_isLatin1_aae02_0 : decode cJ0_isLatin1_aae02 0 = .ok (.getstatic 38, 3) := by decide +kernel
theorem dJ0_isLatin1_aae02_3 : decode cJ0_isLatin1_aae02 3 = .ok (.ifCond .eq 14, 3) := by decide +kernel
theorem dJ0_isLatin1_aae02_6 : decode cJ0_isLatin1_aae02 6 = .ok (.aload_n 0, 1) := by decide +kernel
theorem dJ0_isLatin1_aae02_7 : decode cJ0_isLatin1_aae02 7 = .ok (.getfield 15, 3) := by decide +kernel
theorem dJ0_isLatin1_aae02_10 : decode cJ0_isLatin1_aae02 10 = .ok (.ifCond .ne 7, 3) := by decide +kernel
theorem dJ0_isLatin1_aae02_13 : decode cJ0_isLatin1_aae02 13 = .ok (.iconst 1, 1) := by decide +kernel
theorem dJ0_isLatin1_aae02_14 : decode cJ0_isLatin1_aae02 14 = .ok (.goto 4, 3) := by decide +kernel
theorem dJ0_isLatin1_aae02_17 : decode cJ0_isLatin1_aae02 17 = .ok (.iconst 0, 1) := by decide +kernel
theorem dJ0_isLatin1_aae02_18 : decode cJ0_isLatin1_aae02 18 = .ok (.ireturn, 1) := by decide +kernel
def wp_J0_isLatin1_aae02 (P : Int32 → Prop) : Prop := (((1 : Int32) = 0 → (P 0)) ∧ (¬ (1 : Int32) = 0 → ((¬ (0 : Int32) = 0 → (P 0)) ∧ ((0 : Int32) = 0 → (P 1)))))
theorem k_J0_isLatin1_aae02 : KV RJ0 yJ0_isLatin1_aae02 cJ0_isLatin1_aae02 1 (some .boolean) 0 := ⟨q1027, q1028, q16, q1029, by decide +kernel⟩
set_option maxHeartbeats 4000000 in
set_option maxRecDepth 100000 in
theorem m_J0_isLatin1_aae02 (l : Launch) (aK aV fS : Nat) (P : Int32 → Prop) (hF : wp_J0_isLatin1_aae02 P) : Met l yJ0_isLatin1_aae02 (ws_ yJ0_isLatin1_aae02 cJ0_isLatin1_aae02 1 (some .boolean)) ({ frames := 0, cells := 0, slots := 0, locals := 0 } : Room) (va_Pc [.ref aK] (fun U => ZK aK aV fS (fun _ => False) U U.heap)) (vp_Si P) 0 0 (fun _ => False) := by
  refine Met.ofCx (own := RJ0) (by decide) rfl (Nat.le_of_ble_eq_true rfl) ?_
  intro p e s m below meth c hC hv ls hl
  obtain ⟨hx, hb, hr, hml, hown, hts, hlocks⟩ := hC
  have hl : lv_has ls 1 [(0, .ref aK)] := hl
  have hZ : ZK aK aV fS (fun _ => False) s s.heap := hv
  have hS : va_S (fun _ => False) s.heap s.heap [] := va_S.rf
  unfold wp_J0_isLatin1_aae02 at hF
  refine va_gets hx hb hZ.2.1 hS hown (hts _ q1030) (fun _ h9 => h9) dJ0_isLatin1_aae02_0 ?_
  refine lv_if_eq (tgt := 17) hx hb dJ0_isLatin1_aae02_3 (by decide) (fun cz => ?_) (fun cz => ?_)
  · have hF := hF.1 cz
    refine lv_iconst (v := 0) hx hb dJ0_isLatin1_aae02_17 (by decide) ?_
    exact W.zret (v := 0) hx hb hr rfl (fun t ht hW => ⟨0, rfl, hF, ht⟩) (fun q hq => absurd hq List.not_mem_nil) dJ0_isLatin1_aae02_18
  · have hF := hF.2 cz
    refine lv_aload_n hx hb dJ0_isLatin1_aae02_6 rfl (lv_at hl 0 rfl) ?_
    refine vk_getf hx hb hZ.cod hS hown (hts _ q1628) (fun _ h9 => h9) dJ0_isLatin1_aae02_7 ?_
    refine lv_if_ne (tgt := 17) hx hb dJ0_isLatin1_aae02_10 (by decide) (fun cz => ?_) (fun cz => ?_)
    · have hF := hF.1 cz
      refine lv_iconst (v := 0) hx hb dJ0_isLatin1_aae02_17 (by decide) ?_
      exact W.zret (v := 0) hx hb hr rfl (fun t ht hW => ⟨0, rfl, hF, ht⟩) (fun q hq => absurd hq List.not_mem_nil) dJ0_isLatin1_aae02_18
    · have hF := hF.2 cz
      refine lv_iconst (v := 1) hx hb dJ0_isLatin1_aae02_13 (by decide) ?_
      refine lv_goto (tgt := 18) hx hb dJ0_isLatin1_aae02_14 (by decide) ?_
      exact W.zret (v := 1) hx hb hr rfl (fun t ht hW => ⟨1, rfl, hF, ht⟩) (fun q hq => absurd hq List.not_mem_nil) dJ0_isLatin1_aae02_18
theorem dJ0_coder_7d493_0 : decode cJ0_coder_7d493 0 = .ok (.getstatic 38, 3) := by decide +kernel
theorem dJ0_coder_7d493_3 : decode cJ0_coder_7d493 3 = .ok (.ifCond .eq 10, 3) := by decide +kernel
theorem dJ0_coder_7d493_6 : decode cJ0_coder_7d493 6 = .ok (.aload_n 0, 1) := by decide +kernel
theorem dJ0_coder_7d493_7 : decode cJ0_coder_7d493 7 = .ok (.getfield 15, 3) := by decide +kernel
theorem dJ0_coder_7d493_10 : decode cJ0_coder_7d493 10 = .ok (.goto 4, 3) := by decide +kernel
theorem dJ0_coder_7d493_13 : decode cJ0_coder_7d493 13 = .ok (.iconst 1, 1) := by decide +kernel
theorem dJ0_coder_7d493_14 : decode cJ0_coder_7d493 14 = .ok (.ireturn, 1) := by decide +kernel
def wp_J0_coder_7d493 (P : Int32 → Prop) : Prop := (((1 : Int32) = 0 → (narrow .byte (.int 1) = .int 1 ∧ P 1)) ∧ (¬ (1 : Int32) = 0 → (narrow .byte (.int (0 : Int32)) = .int (0 : Int32) ∧ P (0 : Int32))))
theorem k_J0_coder_7d493 : KV RJ0 yJ0_coder_7d493 cJ0_coder_7d493 1 (some .byte) 0 := ⟨q1037, q1038, q16, q1039, by decide +kernel⟩
set_option maxHeartbeats 4000000 in
set_option maxRecDepth 100000 in
theorem m_J0_coder_7d493 (l : Launch) (aK aV fS : Nat) (P : Int32 → Prop) (hF : wp_J0_coder_7d493 P) : Met l yJ0_coder_7d493 (ws_ yJ0_coder_7d493 cJ0_coder_7d493 1 (some .byte)) ({ frames := 0, cells := 0, slots := 0, locals := 0 } : Room) (va_Pc [.ref aK] (fun U => ZK aK aV fS (fun _ => False) U U.heap)) (vp_Si P) 0 0 (fun _ => False) := by
  refine Met.ofCx (own := RJ0) (by decide) rfl (Nat.le_of_ble_eq_true rfl) ?_
  intro p e s m below meth c hC hv ls hl
  obtain ⟨hx, hb, hr, hml, hown, hts, hlocks⟩ := hC
  have hl : lv_has ls 1 [(0, .ref aK)] := hl
  have hZ : ZK aK aV fS (fun _ => False) s s.heap := hv
  have hS : va_S (fun _ => False) s.heap s.heap [] := va_S.rf
  unfold wp_J0_coder_7d493 at hF
  refine va_gets hx hb hZ.2.1 hS hown (hts _ q1030) (fun _ h9 => h9) dJ0_coder_7d493_0 ?_
  refine lv_if_eq (tgt := 13) hx hb dJ0_coder_7d493_3 (by decide) (fun cz => ?_) (fun cz => ?_)
  · have hF := hF.1 cz
    refine lv_iconst (v := 1) hx hb dJ0_coder_7d493_13 (by decide) ?_
    exact W.zret (v := 1) hx hb hr hF.1 (fun t ht hW => ⟨1, rfl, hF.2, ht⟩) (fun q hq => absurd hq List.not_mem_nil) dJ0_coder_7d493_14
  · have hF := hF.2 cz
    refine lv_aload_n hx hb dJ0_coder_7d493_6 rfl (lv_at hl 0 rfl) ?_
    refine vk_getf hx hb hZ.cod hS hown (hts _ q1628) (fun _ h9 => h9) dJ0_coder_7d493_7 ?_
    refine lv_goto (tgt := 14) hx hb dJ0_coder_7d493_10 (by decide) ?_
    exact W.zret (v := (0 : Int32)) hx hb hr hF.1 (fun t ht hW => ⟨(0 : Int32), rfl, hF.2, ht⟩) (fun q hq => absurd hq List.not_mem_nil) dJ0_coder_7d493_14
theorem dJ0_length_8abf5_0 : decode cJ0_length_8abf5 0 = .ok (.aload_n 0, 1) := by decide +kernel
theorem dJ0_length_8abf5_1 : decode cJ0_length_8abf5 1 = .ok (.getfield 9, 3) := by decide +kernel
theorem dJ0_length_8abf5_4 : decode cJ0_length_8abf5 4 = .ok (.arraylength, 1) := by decide +kernel
theorem dJ0_length_8abf5_5 : decode cJ0_length_8abf5 5 = .ok (.aload_n 0, 1) := by decide +kernel
theorem dJ0_length_8abf5_6 : decode cJ0_length_8abf5 6 = .ok (.invokevirtual 335, 3) := by decide +kernel
theorem dJ0_length_8abf5_9 : decode cJ0_length_8abf5 9 = .ok (.ishr, 1) := by decide +kernel
theorem dJ0_length_8abf5_10 : decode cJ0_length_8abf5 10 = .ok (.ireturn, 1) := by decide +kernel
def wp_J0_length_8abf5 (P : Int32 → Prop) : Prop := (wp_J0_coder_7d493 (fun r6 => (P ((3 : Int32) >>> (r6 &&& 31)))))
theorem k_J0_length_8abf5 : KV RJ0 yJ0_length_8abf5 cJ0_length_8abf5 1 (some .int) 0 := ⟨q1033, q1034, q16, q1035, by decide +kernel⟩
set_option maxHeartbeats 4000000 in
set_option maxRecDepth 100000 in
theorem m_J0_length_8abf5 (l : Launch) (aK aV fS : Nat) (P : Int32 → Prop) (hF : wp_J0_length_8abf5 P) : Met l yJ0_length_8abf5 (ws_ yJ0_length_8abf5 cJ0_length_8abf5 1 (some .int)) ({ frames := 1, cells := 0, slots := 0, locals := 20 } : Room) (va_Pc [.ref aK] (fun U => ZK aK aV fS (fun _ => False) U U.heap)) (vp_Si P) 0 0 (fun _ => False) := by
  refine Met.ofCx (own := RJ0) (by decide) rfl (Nat.le_of_ble_eq_true rfl) ?_
  intro p e s m below meth c hC hv ls hl
  obtain ⟨hx, hb, hr, hml, hown, hts, hlocks⟩ := hC
  have hl : lv_has ls 1 [(0, .ref aK)] := hl
  have hZ : ZK aK aV fS (fun _ => False) s s.heap := hv
  have hS : va_S (fun _ => False) s.heap s.heap [] := va_S.rf
  unfold wp_J0_length_8abf5 at hF
  refine lv_aload_n hx hb dJ0_length_8abf5_0 rfl (lv_at hl 0 rfl) ?_
  refine vk_getf hx hb hZ.val hS hown (hts _ q1627) (fun _ h9 => h9) dJ0_length_8abf5_1 ?_
  refine va_tlen hx hb hZ.byt hS (v := 3) rfl dJ0_length_8abf5_4 ?_
  refine lv_aload_n hx hb dJ0_length_8abf5_5 rfl (lv_at hl 0 rfl) ?_
  refine czKV (As := []) (rest := [.int (3 : Int32)]) ⟨hx, hb, hr, hml, hown, hts, hlocks⟩ hZ hS (m_J0_coder_7d493 l aK aV fS _ hF) k_J0_coder_7d493 q1036 ⟨rfl, rfl⟩ ⟨Nat.le_of_ble_eq_true rfl, Nat.le_of_ble_eq_true rfl⟩ hl.1 rfl rfl (Nat.le_of_ble_eq_true rfl) dJ0_length_8abf5_6 ⟨Nat.le_of_ble_eq_true rfl, Nat.le_of_ble_eq_true rfl⟩ (fun r6 hF => ?_)
  refine lv_ishr hx hb dJ0_length_8abf5_9 ?_
  exact W.iret (v := (3 : Int32) >>> (r6 &&& 31)) hx hb hr (fun t ht hW => ⟨(3 : Int32) >>> (r6 &&& 31), rfl, hF, ht⟩) (fun q hq => absurd hq List.not_mem_nil) dJ0_length_8abf5_10
theorem dJ1_canEncode_9a6ad_0 : decode cJ1_canEncode_9a6ad 0 = .ok (.iload_n 0, 1) := by decide +kernel
theorem dJ1_canEncode_9a6ad_1 : decode cJ1_canEncode_9a6ad 1 = .ok (.ifCond .lt 14, 3) := by decide +kernel
theorem dJ1_canEncode_9a6ad_4 : decode cJ1_canEncode_9a6ad 4 = .ok (.iload_n 0, 1) := by decide +kernel
theorem dJ1_canEncode_9a6ad_5 : decode cJ1_canEncode_9a6ad 5 = .ok (.sipush 255, 3) := by decide +kernel
theorem dJ1_canEncode_9a6ad_8 : decode cJ1_canEncode_9a6ad 8 = .ok (.if_icmp .gt 7, 3) := by decide +kernel
theorem dJ1_canEncode_9a6ad_11 : decode cJ1_canEncode_9a6ad 11 = .ok (.iconst 1, 1) := by decide +kernel
theorem dJ1_canEncode_9a6ad_12 : decode cJ1_canEncode_9a6ad 12 = .ok (.goto 4, 3) := by decide +kernel
theorem dJ1_canEncode_9a6ad_15 : decode cJ1_canEncode_9a6ad 15 = .ok (.iconst 0, 1) := by decide +kernel
theorem dJ1_canEncode_9a6ad_16 : decode cJ1_canEncode_9a6ad 16 = .ok (.ireturn, 1) := by decide +kernel
def wp_J1_canEncode_9a6ad (x0 : Int32) (P : Int32 → Prop) : Prop := ((x0 < 0 → (P 0)) ∧ (¬ x0 < 0 → ((255 < x0 → (P 0)) ∧ (¬ 255 < x0 → (P 1)))))
theorem k_J1_canEncode_9a6ad : KS yJ1_canEncode_9a6ad cJ1_canEncode_9a6ad 1 (some .boolean) 1 := ⟨q1044, q17, q1045, by decide +kernel⟩
set_option maxHeartbeats 4000000 in
set_option maxRecDepth 100000 in
theorem m_J1_canEncode_9a6ad (l : Launch) (aK aV fS : Nat) (x0 : Int32) (P : Int32 → Prop) (hF : wp_J1_canEncode_9a6ad x0 P) : Met l yJ1_canEncode_9a6ad (ws_ yJ1_canEncode_9a6ad cJ1_canEncode_9a6ad 1 (some .boolean)) ({ frames := 0, cells := 0, slots := 0, locals := 0 } : Room) (va_Pc [.int x0] (fun U => ZK aK aV fS (fun _ => False) U U.heap)) (vp_Si P) 0 0 (fun _ => False) := by
  refine Met.ofCx (own := RJ1) (by decide) rfl (Nat.le_of_ble_eq_true rfl) ?_
  intro p e s m below meth c hC hv ls hl
  obtain ⟨hx, hb, hr, hml, hown, hts, hlocks⟩ := hC
  have hl : lv_has ls 1 [(0, .int x0)] := hl
  have hZ : ZK aK aV fS (fun _ => False) s s.heap := hv
  have hS : va_S (fun _ => False) s.heap s.heap [] := va_S.rf
  unfold wp_J1_canEncode_9a6ad at hF
  refine lv_iload_n hx hb dJ1_canEncode_9a6ad_0 rfl (lv_at hl 0 rfl) ?_
  refine lv_if_lt (tgt := 15) hx hb dJ1_canEncode_9a6ad_1 (by decide) (fun cz => ?_) (fun cz => ?_)
  · have hF := hF.1 cz
    refine lv_iconst (v := 0) hx hb dJ1_canEncode_9a6ad_15 (by decide) ?_
    exact W.zret (v := 0) hx hb hr rfl (fun t ht hW => ⟨0, rfl, hF, ht⟩) (fun q hq => absurd hq List.not_mem_nil) dJ1_canEncode_9a6ad_16
  · have hF := hF.2 cz
    refine lv_iload_n hx hb dJ1_canEncode_9a6ad_4 rfl (lv_at hl 0 rfl) ?_
    refine lv_sipush (v := 255) hx hb dJ1_canEncode_9a6ad_5 (by decide) ?_
    refine lv_icmp_gt (tgt := 15) hx hb dJ1_canEncode_9a6ad_8 (by decide) (fun cz => ?_) (fun cz => ?_)
    · have hF := hF.1 cz
      refine lv_iconst (v := 0) hx hb dJ1_canEncode_9a6ad_15 (by decide) ?_
      exact W.zret (v := 0) hx hb hr rfl (fun t ht hW => ⟨0, rfl, hF, ht⟩) (fun q hq => absurd hq List.not_mem_nil) dJ1_canEncode_9a6ad_16
    · have hF := hF.2 cz
      refine lv_iconst (v := 1) hx hb dJ1_canEncode_9a6ad_11 (by decide) ?_
      refine lv_goto (tgt := 16) hx hb dJ1_canEncode_9a6ad_12 (by decide) ?_
      exact W.zret (v := 1) hx hb hr rfl (fun t ht hW => ⟨1, rfl, hF, ht⟩) (fun q hq => absurd hq List.not_mem_nil) dJ1_canEncode_9a6ad_16
theorem dJ1_indexOfChar_4cfef_0 : decode cJ1_indexOfChar_4cfef 0 = .ok (.iload_n 1, 1) := by decide +kernel
theorem dJ1_indexOfChar_4cfef_1 : decode cJ1_indexOfChar_4cfef 1 = .ok (.i2b, 1) := by decide +kernel
theorem dJ1_indexOfChar_4cfef_2 : decode cJ1_indexOfChar_4cfef 2 = .ok (.istore 4, 2) := by decide +kernel
theorem dJ1_indexOfChar_4cfef_4 : decode cJ1_indexOfChar_4cfef 4 = .ok (.iload_n 2, 1) := by decide +kernel
theorem dJ1_indexOfChar_4cfef_5 : decode cJ1_indexOfChar_4cfef 5 = .ok (.istore 5, 2) := by decide +kernel
theorem dJ1_indexOfChar_4cfef_7 : decode cJ1_indexOfChar_4cfef 7 = .ok (.iload 5, 2) := by decide +kernel
theorem dJ1_indexOfChar_4cfef_9 : decode cJ1_indexOfChar_4cfef 9 = .ok (.iload_n 3, 1) := by decide +kernel
theorem dJ1_indexOfChar_4cfef_10 : decode cJ1_indexOfChar_4cfef 10 = .ok (.if_icmp .ge 21, 3) := by decide +kernel
theorem dJ1_indexOfChar_4cfef_13 : decode cJ1_indexOfChar_4cfef 13 = .ok (.aload_n 0, 1) := by decide +kernel
theorem dJ1_indexOfChar_4cfef_14 : decode cJ1_indexOfChar_4cfef 14 = .ok (.iload 5, 2) := by decide +kernel
theorem dJ1_indexOfChar_4cfef_16 : decode cJ1_indexOfChar_4cfef 16 = .ok (.baload, 1) := by decide +kernel
theorem dJ1_indexOfChar_4cfef_17 : decode cJ1_indexOfChar_4cfef 17 = .ok (.iload 4, 2) := by decide +kernel
theorem dJ1_indexOfChar_4cfef_19 : decode cJ1_indexOfChar_4cfef 19 = .ok (.if_icmp .ne 6, 3) := by decide +kernel
theorem dJ1_indexOfChar_4cfef_22 : decode cJ1_indexOfChar_4cfef 22 = .ok (.iload 5, 2) := by decide +kernel
theorem dJ1_indexOfChar_4cfef_24 : decode cJ1_indexOfChar_4cfef 24 = .ok (.ireturn, 1) := by decide +kernel
theorem dJ1_indexOfChar_4cfef_25 : decode cJ1_indexOfChar_4cfef 25 = .ok (.iinc 5 1, 3) := by decide +kernel
theorem dJ1_indexOfChar_4cfef_28 : decode cJ1_indexOfChar_4cfef 28 = .ok (.goto (-21), 3) := by decide +kernel
theorem dJ1_indexOfChar_4cfef_31 : decode cJ1_indexOfChar_4cfef 31 = .ok (.iconst (-1), 1) := by decide +kernel
theorem dJ1_indexOfChar_4cfef_32 : decode cJ1_indexOfChar_4cfef 32 = .ok (.ireturn, 1) := by decide +kernel
def wp_J1_indexOfChar_4cfef_B7 (x1 : Int32) (x3 : Int32) (P : Int32 → Prop) (K7 : Prop) (rec7 : Int32 → Prop) (v5_7 : Int32) : Prop := ((x3 ≤ v5_7 → K7) ∧ (¬ x3 ≤ v5_7 → (vp_in v5_7 3 ∧ ((¬ (stdB v5_7.toNatClampNeg) = x1.toInt8.toInt32 → (rec7 (v5_7 + 1))) ∧ ((stdB v5_7.toNatClampNeg) = x1.toInt8.toInt32 → (P v5_7))))))
def wp_J1_indexOfChar_4cfef_L7 (x1 : Int32) (x3 : Int32) (P : Int32 → Prop) (K7 : Prop) : Nat → Int32 → Prop
  | 0, _ => False
  | nn + 1, v5_7 => wp_J1_indexOfChar_4cfef_B7 x1 x3 P K7 (wp_J1_indexOfChar_4cfef_L7 x1 x3 P K7 nn) v5_7
def wp_J1_indexOfChar_4cfef (fu : Nat) (x1 : Int32) (x2 : Int32) (x3 : Int32) (P : Int32 → Prop) : Prop := (wp_J1_indexOfChar_4cfef_L7 x1 x3 P (P (-1)) fu x2)
theorem k_J1_indexOfChar_4cfef : KS yJ1_indexOfChar_4cfef cJ1_indexOfChar_4cfef 6 (some .int) 4 := ⟨q1051, q17, q1052, by decide +kernel⟩
set_option maxHeartbeats 4000000 in
set_option maxRecDepth 100000 in
theorem m_J1_indexOfChar_4cfef (l : Launch) (aK aV fS : Nat) (fu : Nat) (x1 : Int32) (x2 : Int32) (x3 : Int32) (P : Int32 → Prop) (hF : wp_J1_indexOfChar_4cfef fu x1 x2 x3 P) : Met l yJ1_indexOfChar_4cfef (ws_ yJ1_indexOfChar_4cfef cJ1_indexOfChar_4cfef 6 (some .int)) ({ frames := 0, cells := 0, slots := 0, locals := 0 } : Room) (va_Pc [.ref aV, .int x1, .int x2, .int x3] (fun U => ZK aK aV fS (fun _ => False) U U.heap)) (vp_Si P) 0 0 (fun _ => False) := by
  refine Met.ofCx (own := RJ1) (by decide) rfl (Nat.le_of_ble_eq_true rfl) ?_
  intro p e s m below meth c hC hv ls hl
  obtain ⟨hx, hb, hr, hml, hown, hts, hlocks⟩ := hC
  have hl : lv_has ls 6 [(0, .ref aV), (1, .int x1), (2, .int x2), (3, .int x3)] := hl
  have hZ : ZK aK aV fS (fun _ => False) s s.heap := hv
  have hS : va_S (fun _ => False) s.heap s.heap [] := va_S.rf
  unfold wp_J1_indexOfChar_4cfef at hF
  refine lv_iload_n hx hb dJ1_indexOfChar_4cfef_0 rfl (lv_at hl 1 rfl) ?_
  refine lv_i2b (v := x1.toInt8.toInt32) hx hb dJ1_indexOfChar_4cfef_1 rfl ?_
  refine lv_istore (lv' := [(4, .int x1.toInt8.toInt32), (0, .ref aV), (1, .int x1), (2, .int x2), (3, .int x3)]) hx hb dJ1_indexOfChar_4cfef_2 hl (by decide) rfl (fun ls hl => ?_)
  refine lv_iload_n hx hb dJ1_indexOfChar_4cfef_4 rfl (lv_at hl 3 rfl) ?_
  refine lv_istore (lv' := [(5, .int x2), (4, .int x1.toInt8.toInt32), (0, .ref aV), (1, .int x1), (2, .int x2), (3, .int x3)]) hx hb dJ1_indexOfChar_4cfef_5 hl (by decide) rfl (fun ls hl => ?_)
  have hX7 : (P (-1)) → ∀ (ls : Array Slot), lv_has ls 6 [] → W p l e ({ frames := 0, cells := 0, slots := 0, locals := 0 } : Room) s m ([.ref aV, .int x1, .int x2, .int x3] : List Value).toArray below meth c s.heap [] 0 0 (MQ below (vp_Si P) ([.ref aV, .int x1, .int x2, .int x3] : List Value).toArray s 0 0 (fun _ => False)) (F0 m 31 ls []) := by
    intro hF ls hl
    refine lv_iconst (v := (-1)) hx hb dJ1_indexOfChar_4cfef_31 (by decide) ?_
    exact W.iret (v := (-1)) hx hb hr (fun t ht hW => ⟨(-1), rfl, hF, ht⟩) (fun q hq => absurd hq List.not_mem_nil) dJ1_indexOfChar_4cfef_32
  have hL7 : ∀ (K7 : Prop), (K7 → ∀ (ls : Array Slot), lv_has ls 6 [] → W p l e ({ frames := 0, cells := 0, slots := 0, locals := 0 } : Room) s m ([.ref aV, .int x1, .int x2, .int x3] : List Value).toArray below meth c s.heap [] 0 0 (MQ below (vp_Si P) ([.ref aV, .int x1, .int x2, .int x3] : List Value).toArray s 0 0 (fun _ => False)) (F0 m 31 ls [])) → ∀ (nn : Nat), ∀ (v5_7 : Int32), wp_J1_indexOfChar_4cfef_L7 x1 x3 P K7 nn v5_7 → ∀ (ls : Array Slot), lv_has ls 6 [(5, .int v5_7), (4, .int x1.toInt8.toInt32), (0, .ref aV), (3, .int x3)] → W p l e ({ frames := 0, cells := 0, slots := 0, locals := 0 } : Room) s m ([.ref aV, .int x1, .int x2, .int x3] : List Value).toArray below meth c s.heap [] 0 0 (MQ below (vp_Si P) ([.ref aV, .int x1, .int x2, .int x3] : List Value).toArray s 0 0 (fun _ => False)) (F0 m 7 ls []) := by
    intro K7 hX7 nn
    induction nn with
    | zero =>
      intro v5_7 hF
      exact hF.elim
    | succ nn ih =>
      intro v5_7 hF ls hl
      obtain ⟨rec7, hrec⟩ : ∃ z : Int32 → Prop, z = wp_J1_indexOfChar_4cfef_L7 x1 x3 P K7 nn := ⟨_, rfl⟩
      have hF : wp_J1_indexOfChar_4cfef_B7 x1 x3 P K7 rec7 v5_7 := by rw [hrec]; exact hF
      rw [← hrec] at ih
      clear hrec
      unfold wp_J1_indexOfChar_4cfef_B7 at hF
      refine lv_iload hx hb dJ1_indexOfChar_4cfef_7 (lv_at hl 0 rfl) ?_
      refine lv_iload_n hx hb dJ1_indexOfChar_4cfef_9 rfl (lv_at hl 3 rfl) ?_
      refine lv_icmp_ge (tgt := 31) hx hb dJ1_indexOfChar_4cfef_10 (by decide) (fun cz => ?_) (fun cz => ?_)
      · have hF := hF.1 cz
        exact hX7 hF _ (lv_sub hl [] rfl)
      · have hF := hF.2 cz
        refine lv_aload_n hx hb dJ1_indexOfChar_4cfef_13 rfl (lv_at hl 2 rfl) ?_
        refine lv_iload hx hb dJ1_indexOfChar_4cfef_14 (lv_at hl 0 rfl) ?_
        have hI := hF.1
        have hF := hF.2
        refine va_tb hx hb hZ.byt hS hI rfl dJ1_indexOfChar_4cfef_16 ?_
        refine lv_iload hx hb dJ1_indexOfChar_4cfef_17 (lv_at hl 1 rfl) ?_
        refine lv_icmp_ne (tgt := 25) hx hb dJ1_indexOfChar_4cfef_19 (by decide) (fun cz => ?_) (fun cz => ?_)
        · have hF := hF.1 cz
          refine lv_iinc (v := v5_7 + 1) (lv' := [(5, .int (v5_7 + 1)), (4, .int x1.toInt8.toInt32), (0, .ref aV), (3, .int x3)]) hx hb dJ1_indexOfChar_4cfef_25 hl (k := 0) rfl (by rfl) (by decide) rfl (fun ls hl => ?_)
          refine lv_goto (tgt := 7) hx hb dJ1_indexOfChar_4cfef_28 (by decide) ?_
          exact ih (v5_7 + 1) hF _ (lv_sub hl [0, 1, 2, 3] rfl)
        · have hF := hF.2 cz
          refine lv_iload hx hb dJ1_indexOfChar_4cfef_22 (lv_at hl 0 rfl) ?_
          exact W.iret (v := v5_7) hx hb hr (fun t ht hW => ⟨v5_7, rfl, hF, ht⟩) (fun q hq => absurd hq List.not_mem_nil) dJ1_indexOfChar_4cfef_24
  exact hL7 _ hX7 fu x2 hF _ (lv_sub hl [0, 1, 2, 5] rfl)
theorem dJ1_indexOf_4cfef_0 : decode cJ1_indexOf_4cfef 0 = .ok (.iload_n 1, 1) := by decide +kernel
theorem dJ1_indexOf_4cfef_1 : decode cJ1_indexOf_4cfef 1 = .ok (.invokestatic 88, 3) := by decide +kernel
theorem dJ1_indexOf_4cfef_4 : decode cJ1_indexOf_4cfef 4 = .ok (.ifCond .ne 5, 3) := by decide +kernel
theorem dJ1_indexOf_4cfef_7 : decode cJ1_indexOf_4cfef 7 = .ok (.iconst (-1), 1) := by decide +kernel
theorem dJ1_indexOf_4cfef_8 : decode cJ1_indexOf_4cfef 8 = .ok (.ireturn, 1) := by decide +kernel
theorem dJ1_indexOf_4cfef_9 : decode cJ1_indexOf_4cfef 9 = .ok (.iload_n 2, 1) := by decide +kernel
theorem dJ1_indexOf_4cfef_10 : decode cJ1_indexOf_4cfef 10 = .ok (.iconst 0, 1) := by decide +kernel
theorem dJ1_indexOf_4cfef_11 : decode cJ1_indexOf_4cfef 11 = .ok (.invokestatic 92, 3) := by decide +kernel
theorem dJ1_indexOf_4cfef_14 : decode cJ1_indexOf_4cfef 14 = .ok (.istore_n 2, 1) := by decide +kernel
theorem dJ1_indexOf_4cfef_15 : decode cJ1_indexOf_4cfef 15 = .ok (.iload_n 3, 1) := by decide +kernel
theorem dJ1_indexOf_4cfef_16 : decode cJ1_indexOf_4cfef 16 = .ok (.aload_n 0, 1) := by decide +kernel
theorem dJ1_indexOf_4cfef_17 : decode cJ1_indexOf_4cfef 17 = .ok (.arraylength, 1) := by decide +kernel
theorem dJ1_indexOf_4cfef_18 : decode cJ1_indexOf_4cfef 18 = .ok (.invokestatic 38, 3) := by decide +kernel
theorem dJ1_indexOf_4cfef_21 : decode cJ1_indexOf_4cfef 21 = .ok (.istore_n 3, 1) := by decide +kernel
theorem dJ1_indexOf_4cfef_22 : decode cJ1_indexOf_4cfef 22 = .ok (.iload_n 2, 1) := by decide +kernel
theorem dJ1_indexOf_4cfef_23 : decode cJ1_indexOf_4cfef 23 = .ok (.iload_n 3, 1) := by decide +kernel
theorem dJ1_indexOf_4cfef_24 : decode cJ1_indexOf_4cfef 24 = .ok (.if_icmp .lt 5, 3) := by decide +kernel
theorem dJ1_indexOf_4cfef_27 : decode cJ1_indexOf_4cfef 27 = .ok (.iconst (-1), 1) := by decide +kernel
theorem dJ1_indexOf_4cfef_28 : decode cJ1_indexOf_4cfef 28 = .ok (.ireturn, 1) := by decide +kernel
theorem dJ1_indexOf_4cfef_29 : decode cJ1_indexOf_4cfef 29 = .ok (.aload_n 0, 1) := by decide +kernel
theorem dJ1_indexOf_4cfef_30 : decode cJ1_indexOf_4cfef 30 = .ok (.iload_n 1, 1) := by decide +kernel
theorem dJ1_indexOf_4cfef_31 : decode cJ1_indexOf_4cfef 31 = .ok (.iload_n 2, 1) := by decide +kernel
theorem dJ1_indexOf_4cfef_32 : decode cJ1_indexOf_4cfef 32 = .ok (.iload_n 3, 1) := by decide +kernel
theorem dJ1_indexOf_4cfef_33 : decode cJ1_indexOf_4cfef 33 = .ok (.invokestatic 95, 3) := by decide +kernel
theorem dJ1_indexOf_4cfef_36 : decode cJ1_indexOf_4cfef 36 = .ok (.ireturn, 1) := by decide +kernel
def wp_J1_indexOf_4cfef (fu : Nat) (x1 : Int32) (x2 : Int32) (x3 : Int32) (P : Int32 → Prop) : Prop := (wp_J1_canEncode_9a6ad x1 (fun r1 => ((¬ r1 = 0 → (((jmax x2 0) < (jmin x3 (3 : Int32)) → (wp_J1_indexOfChar_4cfef fu x1 (jmax x2 0) (jmin x3 (3 : Int32)) (fun r33 => (P r33)))) ∧ (¬ (jmax x2 0) < (jmin x3 (3 : Int32)) → (P (-1))))) ∧ (r1 = 0 → (P (-1))))))
theorem k_J1_indexOf_4cfef : KS yJ1_indexOf_4cfef cJ1_indexOf_4cfef 4 (some .int) 4 := ⟨q1041, q17, q1042, by decide +kernel⟩
set_option maxHeartbeats 4000000 in
set_option maxRecDepth 100000 in
theorem m_J1_indexOf_4cfef (l : Launch) (aK aV fS : Nat) (fu : Nat) (x1 : Int32) (x2 : Int32) (x3 : Int32) (P : Int32 → Prop) (hF : wp_J1_indexOf_4cfef fu x1 x2 x3 P) : Met l yJ1_indexOf_4cfef (ws_ yJ1_indexOf_4cfef cJ1_indexOf_4cfef 4 (some .int)) ({ frames := 1, cells := 0, slots := 0, locals := 25 } : Room) (va_Pc [.ref aV, .int x1, .int x2, .int x3] (fun U => ZK aK aV fS (fun _ => False) U U.heap)) (vp_Si P) 0 0 (fun _ => False) := by
  refine Met.ofCx (own := RJ1) (by decide) rfl (Nat.le_of_ble_eq_true rfl) ?_
  intro p e s m below meth c hC hv ls hl
  obtain ⟨hx, hb, hr, hml, hown, hts, hlocks⟩ := hC
  have hl : lv_has ls 4 [(0, .ref aV), (1, .int x1), (2, .int x2), (3, .int x3)] := hl
  have hZ : ZK aK aV fS (fun _ => False) s s.heap := hv
  have hS : va_S (fun _ => False) s.heap s.heap [] := va_S.rf
  unfold wp_J1_indexOf_4cfef at hF
  refine lv_iload_n hx hb dJ1_indexOf_4cfef_0 rfl (lv_at hl 1 rfl) ?_
  refine czKi (As := [.int x1]) (rest := []) ⟨hx, hb, hr, hml, hown, hts, hlocks⟩ hZ hS (m_J1_canEncode_9a6ad l aK aV fS x1 _ hF) k_J1_canEncode_9a6ad q1043 ⟨rfl, rfl⟩ ⟨Nat.le_of_ble_eq_true rfl, Nat.le_of_ble_eq_true rfl⟩ hl.1 rfl rfl (Nat.le_of_ble_eq_true rfl) dJ1_indexOf_4cfef_1 ⟨Nat.le_of_ble_eq_true rfl, Nat.le_of_ble_eq_true rfl⟩ (fun r1 hF => ?_)
  refine lv_if_ne (tgt := 9) hx hb dJ1_indexOf_4cfef_4 (by decide) (fun cz => ?_) (fun cz => ?_)
  · have hF := hF.1 cz
    refine lv_iload_n hx hb dJ1_indexOf_4cfef_9 rfl (lv_at hl 2 rfl) ?_
    refine lv_iconst (v := 0) hx hb dJ1_indexOf_4cfef_10 (by decide) ?_
    refine va_mmax hx hb (by rw [hml]; exact hl.1.symm) hown (hts _ q1046) (hts _ q1047) (hts _ q13) (hts _ q1048) (Nat.le_of_ble_eq_true rfl) (Nat.le_of_ble_eq_true rfl) (Nat.le_of_ble_eq_true rfl) (Nat.le_of_ble_eq_true rfl) dJ1_indexOf_4cfef_11 ?_
    refine lv_istore_n (lv' := [(2, .int (jmax x2 0)), (0, .ref aV), (1, .int x1), (3, .int x3)]) hx hb dJ1_indexOf_4cfef_14 rfl hl (by decide) rfl (fun ls hl => ?_)
    refine lv_iload_n hx hb dJ1_indexOf_4cfef_15 rfl (lv_at hl 3 rfl) ?_
    refine lv_aload_n hx hb dJ1_indexOf_4cfef_16 rfl (lv_at hl 1 rfl) ?_
    refine va_tlen hx hb hZ.byt hS (v := 3) rfl dJ1_indexOf_4cfef_17 ?_
    refine va_mmin hx hb (by rw [hml]; exact hl.1.symm) hown (hts _ q1049) (hts _ q261) (hts _ q13) (hts _ q262) (Nat.le_of_ble_eq_true rfl) (Nat.le_of_ble_eq_true rfl) (Nat.le_of_ble_eq_true rfl) (Nat.le_of_ble_eq_true rfl) dJ1_indexOf_4cfef_18 ?_
    refine lv_istore_n (lv' := [(3, .int (jmin x3 (3 : Int32))), (2, .int (jmax x2 0)), (0, .ref aV), (1, .int x1)]) hx hb dJ1_indexOf_4cfef_21 rfl hl (by decide) rfl (fun ls hl => ?_)
    refine lv_iload_n hx hb dJ1_indexOf_4cfef_22 rfl (lv_at hl 1 rfl) ?_
    refine lv_iload_n hx hb dJ1_indexOf_4cfef_23 rfl (lv_at hl 0 rfl) ?_
    refine lv_icmp_lt (tgt := 29) hx hb dJ1_indexOf_4cfef_24 (by decide) (fun cz => ?_) (fun cz => ?_)
    · have hF := hF.1 cz
      refine lv_aload_n hx hb dJ1_indexOf_4cfef_29 rfl (lv_at hl 2 rfl) ?_
      refine lv_iload_n hx hb dJ1_indexOf_4cfef_30 rfl (lv_at hl 3 rfl) ?_
      refine lv_iload_n hx hb dJ1_indexOf_4cfef_31 rfl (lv_at hl 1 rfl) ?_
      refine lv_iload_n hx hb dJ1_indexOf_4cfef_32 rfl (lv_at hl 0 rfl) ?_
      refine czKi (As := [.ref aV, .int x1, .int (jmax x2 0), .int (jmin x3 (3 : Int32))]) (rest := []) ⟨hx, hb, hr, hml, hown, hts, hlocks⟩ hZ hS (m_J1_indexOfChar_4cfef l aK aV fS fu x1 (jmax x2 0) (jmin x3 (3 : Int32)) _ hF) k_J1_indexOfChar_4cfef q1050 ⟨rfl, rfl⟩ ⟨Nat.le_of_ble_eq_true rfl, Nat.le_of_ble_eq_true rfl⟩ hl.1 rfl rfl (Nat.le_of_ble_eq_true rfl) dJ1_indexOf_4cfef_33 ⟨Nat.le_of_ble_eq_true rfl, Nat.le_of_ble_eq_true rfl⟩ (fun r33 hF => ?_)
      exact W.iret (v := r33) hx hb hr (fun t ht hW => ⟨r33, rfl, hF, ht⟩) (fun q hq => absurd hq List.not_mem_nil) dJ1_indexOf_4cfef_36
    · have hF := hF.2 cz
      refine lv_iconst (v := (-1)) hx hb dJ1_indexOf_4cfef_27 (by decide) ?_
      exact W.iret (v := (-1)) hx hb hr (fun t ht hW => ⟨(-1), rfl, hF, ht⟩) (fun q hq => absurd hq List.not_mem_nil) dJ1_indexOf_4cfef_28
  · have hF := hF.2 cz
    refine lv_iconst (v := (-1)) hx hb dJ1_indexOf_4cfef_7 (by decide) ?_
    exact W.iret (v := (-1)) hx hb hr (fun t ht hW => ⟨(-1), rfl, hF, ht⟩) (fun q hq => absurd hq List.not_mem_nil) dJ1_indexOf_4cfef_8
theorem dJ0_indexOf_7cf53_0 : decode cJ0_indexOf_7cf53 0 = .ok (.aload_n 0, 1) := by decide +kernel
theorem dJ0_indexOf_7cf53_1 : decode cJ0_indexOf_7cf53 1 = .ok (.invokevirtual 492, 3) := by decide +kernel
theorem dJ0_indexOf_7cf53_4 : decode cJ0_indexOf_7cf53 4 = .ok (.ifCond .eq 19, 3) := by decide +kernel
theorem dJ0_indexOf_7cf53_7 : decode cJ0_indexOf_7cf53 7 = .ok (.aload_n 0, 1) := by decide +kernel
theorem dJ0_indexOf_7cf53_8 : decode cJ0_indexOf_7cf53 8 = .ok (.getfield 9, 3) := by decide +kernel
theorem dJ0_indexOf_7cf53_11 : decode cJ0_indexOf_7cf53 11 = .ok (.iload_n 1, 1) := by decide +kernel
theorem dJ0_indexOf_7cf53_12 : decode cJ0_indexOf_7cf53 12 = .ok (.iload_n 2, 1) := by decide +kernel
theorem dJ0_indexOf_7cf53_13 : decode cJ0_indexOf_7cf53 13 = .ok (.aload_n 0, 1) := by decide +kernel
theorem dJ0_indexOf_7cf53_14 : decode cJ0_indexOf_7cf53 14 = .ok (.invokevirtual 505, 3) := by decide +kernel
theorem dJ0_indexOf_7cf53_17 : decode cJ0_indexOf_7cf53 17 = .ok (.invokestatic 637, 3) := by decide +kernel
theorem dJ0_indexOf_7cf53_20 : decode cJ0_indexOf_7cf53 20 = .ok (.goto 16, 3) := by decide +kernel
theorem dJ0_indexOf_7cf53_23 : decode cJ0_indexOf_7cf53 23 = .ok (.aload_n 0, 1) := by decide +kernel
theorem dJ0_indexOf_7cf53_24 : decode cJ0_indexOf_7cf53 24 = .ok (.getfield 9, 3) := by decide +kernel
theorem dJ0_indexOf_7cf53_27 : decode cJ0_indexOf_7cf53 27 = .ok (.iload_n 1, 1) := by decide +kernel
theorem dJ0_indexOf_7cf53_28 : decode cJ0_indexOf_7cf53 28 = .ok (.iload_n 2, 1) := by decide +kernel
theorem dJ0_indexOf_7cf53_29 : decode cJ0_indexOf_7cf53 29 = .ok (.aload_n 0, 1) := by decide +kernel
theorem dJ0_indexOf_7cf53_30 : decode cJ0_indexOf_7cf53 30 = .ok (.invokevirtual 505, 3) := by decide +kernel
theorem dJ0_indexOf_7cf53_33 : decode cJ0_indexOf_7cf53 33 = .ok (.invokestatic 640, 3) := by decide +kernel
theorem dJ0_indexOf_7cf53_36 : decode cJ0_indexOf_7cf53 36 = .ok (.ireturn, 1) := by decide +kernel
def wp_J0_indexOf_7cf53 (fu : Nat) (x1 : Int32) (x2 : Int32) (P : Int32 → Prop) : Prop := (wp_J0_isLatin1_aae02 (fun r1 => ((r1 = 0 → (wp_J0_length_8abf5 (fun r30 => False))) ∧ (¬ r1 = 0 → (wp_J0_length_8abf5 (fun r14 => (wp_J1_indexOf_4cfef fu x1 x2 r14 (fun r17 => (P r17)))))))))
theorem k_J0_indexOf_7cf53 : KV RJ0 yJ0_indexOf_7cf53 cJ0_indexOf_7cf53 3 (some .int) 2 := ⟨q1023, q1024, q16, q1025, by decide +kernel⟩
set_option maxHeartbeats 4000000 in
set_option maxRecDepth 100000 in
theorem m_J0_indexOf_7cf53 (l : Launch) (aK aV fS : Nat) (fu : Nat) (x1 : Int32) (x2 : Int32) (P : Int32 → Prop) (hF : wp_J0_indexOf_7cf53 fu x1 x2 P) : Met l yJ0_indexOf_7cf53 (ws_ yJ0_indexOf_7cf53 cJ0_indexOf_7cf53 3 (some .int)) ({ frames := 2, cells := 0, slots := 0, locals := 48 } : Room) (va_Pc [.ref aK, .int x1, .int x2] (fun U => ZK aK aV fS (fun _ => False) U U.heap)) (vp_Si P) 0 0 (fun _ => False) := by
  refine Met.ofCx (own := RJ0) (by decide) rfl (Nat.le_of_ble_eq_true rfl) ?_
  intro p e s m below meth c hC hv ls hl
  obtain ⟨hx, hb, hr, hml, hown, hts, hlocks⟩ := hC
  have hl : lv_has ls 3 [(0, .ref aK), (1, .int x1), (2, .int x2)] := hl
  have hZ : ZK aK aV fS (fun _ => False) s s.heap := hv
  have hS : va_S (fun _ => False) s.heap s.heap [] := va_S.rf
  unfold wp_J0_indexOf_7cf53 at hF
  refine lv_aload_n hx hb dJ0_indexOf_7cf53_0 rfl (lv_at hl 0 rfl) ?_
  refine czKV (As := []) (rest := []) ⟨hx, hb, hr, hml, hown, hts, hlocks⟩ hZ hS (m_J0_isLatin1_aae02 l aK aV fS _ hF) k_J0_isLatin1_aae02 q1026 ⟨rfl, rfl⟩ ⟨Nat.le_of_ble_eq_true rfl, Nat.le_of_ble_eq_true rfl⟩ hl.1 rfl rfl (Nat.le_of_ble_eq_true rfl) dJ0_indexOf_7cf53_1 ⟨Nat.le_of_ble_eq_true rfl, Nat.le_of_ble_eq_true rfl⟩ (fun r1 hF => ?_)
  refine lv_if_eq (tgt := 23) hx hb dJ0_indexOf_7cf53_4 (by decide) (fun cz => ?_) (fun cz => ?_)
  · have hF := hF.1 cz
    refine lv_aload_n hx hb dJ0_indexOf_7cf53_23 rfl (lv_at hl 0 rfl) ?_
    refine vk_getf hx hb hZ.val hS hown (hts _ q1627) (fun _ h9 => h9) dJ0_indexOf_7cf53_24 ?_
    refine lv_iload_n hx hb dJ0_indexOf_7cf53_27 rfl (lv_at hl 1 rfl) ?_
    refine lv_iload_n hx hb dJ0_indexOf_7cf53_28 rfl (lv_at hl 2 rfl) ?_
    refine lv_aload_n hx hb dJ0_indexOf_7cf53_29 rfl (lv_at hl 0 rfl) ?_
    refine czKV (As := []) (rest := [.int x2, .int x1, .ref aV]) ⟨hx, hb, hr, hml, hown, hts, hlocks⟩ hZ hS (m_J0_length_8abf5 l aK aV fS _ hF) k_J0_length_8abf5 q1032 ⟨rfl, rfl⟩ ⟨Nat.le_of_ble_eq_true rfl, Nat.le_of_ble_eq_true rfl⟩ hl.1 rfl rfl (Nat.le_of_ble_eq_true rfl) dJ0_indexOf_7cf53_30 ⟨Nat.le_of_ble_eq_true rfl, Nat.le_of_ble_eq_true rfl⟩ (fun r30 hF => ?_)
    exact hF.elim
  · have hF := hF.2 cz
    refine lv_aload_n hx hb dJ0_indexOf_7cf53_7 rfl (lv_at hl 0 rfl) ?_
    refine vk_getf hx hb hZ.val hS hown (hts _ q1627) (fun _ h9 => h9) dJ0_indexOf_7cf53_8 ?_
    refine lv_iload_n hx hb dJ0_indexOf_7cf53_11 rfl (lv_at hl 1 rfl) ?_
    refine lv_iload_n hx hb dJ0_indexOf_7cf53_12 rfl (lv_at hl 2 rfl) ?_
    refine lv_aload_n hx hb dJ0_indexOf_7cf53_13 rfl (lv_at hl 0 rfl) ?_
    refine czKV (As := []) (rest := [.int x2, .int x1, .ref aV]) ⟨hx, hb, hr, hml, hown, hts, hlocks⟩ hZ hS (m_J0_length_8abf5 l aK aV fS _ hF) k_J0_length_8abf5 q1032 ⟨rfl, rfl⟩ ⟨Nat.le_of_ble_eq_true rfl, Nat.le_of_ble_eq_true rfl⟩ hl.1 rfl rfl (Nat.le_of_ble_eq_true rfl) dJ0_indexOf_7cf53_14 ⟨Nat.le_of_ble_eq_true rfl, Nat.le_of_ble_eq_true rfl⟩ (fun r14 hF => ?_)
    refine czKi (As := [.ref aV, .int x1, .int x2, .int r14]) (rest := []) ⟨hx, hb, hr, hml, hown, hts, hlocks⟩ hZ hS (m_J1_indexOf_4cfef l aK aV fS fu x1 x2 r14 _ hF) k_J1_indexOf_4cfef q1040 ⟨rfl, rfl⟩ ⟨Nat.le_of_ble_eq_true rfl, Nat.le_of_ble_eq_true rfl⟩ hl.1 rfl rfl (Nat.le_of_ble_eq_true rfl) dJ0_indexOf_7cf53_17 ⟨Nat.le_of_ble_eq_true rfl, Nat.le_of_ble_eq_true rfl⟩ (fun r17 hF => ?_)
    refine lv_goto (tgt := 36) hx hb dJ0_indexOf_7cf53_20 (by decide) ?_
    exact W.iret (v := r17) hx hb hr (fun t ht hW => ⟨r17, rfl, hF, ht⟩) (fun q hq => absurd hq List.not_mem_nil) dJ0_indexOf_7cf53_36
theorem dJ0_indexOf_0f7a4_0 : decode cJ0_indexOf_0f7a4 0 = .ok (.aload_n 0, 1) := by decide +kernel
theorem dJ0_indexOf_0f7a4_1 : decode cJ0_indexOf_0f7a4 1 = .ok (.iload_n 1, 1) := by decide +kernel
theorem dJ0_indexOf_0f7a4_2 : decode cJ0_indexOf_0f7a4 2 = .ok (.iconst 0, 1) := by decide +kernel
theorem dJ0_indexOf_0f7a4_3 : decode cJ0_indexOf_0f7a4 3 = .ok (.invokevirtual 633, 3) := by decide +kernel
theorem dJ0_indexOf_0f7a4_6 : decode cJ0_indexOf_0f7a4 6 = .ok (.ireturn, 1) := by decide +kernel
def wp_J0_indexOf_0f7a4 (fu : Nat) (x1 : Int32) (P : Int32 → Prop) : Prop := (wp_J0_indexOf_7cf53 fu x1 0 (fun r3 => (P r3)))
theorem k_J0_indexOf_0f7a4 : KV RJ0 yJ0_indexOf_0f7a4 cJ0_indexOf_0f7a4 2 (some .int) 1 := ⟨q1019, q1020, q16, q1021, by decide +kernel⟩
set_option maxHeartbeats 4000000 in
set_option maxRecDepth 100000 in
theorem m_J0_indexOf_0f7a4 (l : Launch) (aK aV fS : Nat) (fu : Nat) (x1 : Int32) (P : Int32 → Prop) (hF : wp_J0_indexOf_0f7a4 fu x1 P) : Met l yJ0_indexOf_0f7a4 (ws_ yJ0_indexOf_0f7a4 cJ0_indexOf_0f7a4 2 (some .int)) ({ frames := 3, cells := 0, slots := 0, locals := 70 } : Room) (va_Pc [.ref aK, .int x1] (fun U => ZK aK aV fS (fun _ => False) U U.heap)) (vp_Si P) 0 0 (fun _ => False) := by
  refine Met.ofCx (own := RJ0) (by decide) rfl (Nat.le_of_ble_eq_true rfl) ?_
  intro p e s m below meth c hC hv ls hl
  obtain ⟨hx, hb, hr, hml, hown, hts, hlocks⟩ := hC
  have hl : lv_has ls 2 [(0, .ref aK), (1, .int x1)] := hl
  have hZ : ZK aK aV fS (fun _ => False) s s.heap := hv
  have hS : va_S (fun _ => False) s.heap s.heap [] := va_S.rf
  unfold wp_J0_indexOf_0f7a4 at hF
  refine lv_aload_n hx hb dJ0_indexOf_0f7a4_0 rfl (lv_at hl 0 rfl) ?_
  refine lv_iload_n hx hb dJ0_indexOf_0f7a4_1 rfl (lv_at hl 1 rfl) ?_
  refine lv_iconst (v := 0) hx hb dJ0_indexOf_0f7a4_2 (by decide) ?_
  refine czKV (As := [.int x1, .int 0]) (rest := []) ⟨hx, hb, hr, hml, hown, hts, hlocks⟩ hZ hS (m_J0_indexOf_7cf53 l aK aV fS fu x1 0 _ hF) k_J0_indexOf_7cf53 q1022 ⟨rfl, rfl⟩ ⟨Nat.le_of_ble_eq_true rfl, Nat.le_of_ble_eq_true rfl⟩ hl.1 rfl rfl (Nat.le_of_ble_eq_true rfl) dJ0_indexOf_0f7a4_3 ⟨Nat.le_of_ble_eq_true rfl, Nat.le_of_ble_eq_true rfl⟩ (fun r3 hF => ?_)
  exact W.iret (v := r3) hx hb hr (fun t ht hW => ⟨r3, rfl, hF, ht⟩) (fun q hq => absurd hq List.not_mem_nil) dJ0_indexOf_0f7a4_6
theorem dJ0_checkIndex_df160_0 : decode cJ0_checkIndex_df160 0 = .ok (.iload_n 0, 1) := by decide +kernel
theorem dJ0_checkIndex_df160_1 : decode cJ0_checkIndex_df160 1 = .ok (.iload_n 1, 1) := by decide +kernel
theorem dJ0_checkIndex_df160_2 : decode cJ0_checkIndex_df160 2 = .ok (.getstatic 1053, 3) := by decide +kernel
theorem dJ0_checkIndex_df160_5 : decode cJ0_checkIndex_df160 5 = .ok (.invokestatic 1059, 3) := by decide +kernel
theorem dJ0_checkIndex_df160_8 : decode cJ0_checkIndex_df160 8 = .ok (.pop, 1) := by decide +kernel
theorem dJ0_checkIndex_df160_9 : decode cJ0_checkIndex_df160 9 = .ok (.return_, 1) := by decide +kernel
def wp_J0_checkIndex_df160 (x0 : Int32) (x1 : Int32) (P : Prop) : Prop := ((¬ x0 < 0 ∧ x0 < x1) ∧ P)
theorem k_J0_checkIndex_df160 : KS yJ0_checkIndex_df160 cJ0_checkIndex_df160 2 none 2 := ⟨q1114, q16, q1115, by decide +kernel⟩
set_option maxHeartbeats 4000000 in
set_option maxRecDepth 100000 in
theorem m_J0_checkIndex_df160 (l : Launch) (aK aV fS : Nat) (x0 : Int32) (x1 : Int32) (P : Prop) (hF : wp_J0_checkIndex_df160 x0 x1 P) : Met l yJ0_checkIndex_df160 (ws_ yJ0_checkIndex_df160 cJ0_checkIndex_df160 2 none) ({ frames := 1, cells := 0, slots := 0, locals := 22 } : Room) (va_Pc [.int x0, .int x1] (fun U => ZK aK aV fS (fun _ => False) U U.heap)) (vp_Sv0 P) 0 0 (fun _ => False) := by
  refine Met.ofCx (own := RJ0) (by decide) rfl (Nat.le_of_ble_eq_true rfl) ?_
  intro p e s m below meth c hC hv ls hl
  obtain ⟨hx, hb, hr, hml, hown, hts, hlocks⟩ := hC
  have hl : lv_has ls 2 [(0, .int x0), (1, .int x1)] := hl
  have hZ : ZK aK aV fS (fun _ => False) s s.heap := hv
  have hS : va_S (fun _ => False) s.heap s.heap [] := va_S.rf
  unfold wp_J0_checkIndex_df160 at hF
  refine lv_iload_n hx hb dJ0_checkIndex_df160_0 rfl (lv_at hl 0 rfl) ?_
  refine lv_iload_n hx hb dJ0_checkIndex_df160_1 rfl (lv_at hl 1 rfl) ?_
  rcases hZ.2.2 with hz | ⟨fS, hz⟩
  · refine va_gets hx hb hz hS hown (hts _ q1071) (fun _ h9 => h9) dJ0_checkIndex_df160_2 ?_
    have hI := hF.1
    have hF := hF.2
    refine cpSi (As := [.int x0, .int x1, .null]) (rest := []) ⟨hx, hb, hr, hml, hown, hts, hlocks⟩ (m_J3n l x0 x1 hI.1 hI.2) k_J3_checkIndex_8e157 q1116 ⟨rfl, rfl⟩ ⟨Nat.le_of_ble_eq_true rfl, Nat.le_of_ble_eq_true rfl⟩ hl.1 rfl rfl (Nat.le_of_ble_eq_true rfl) dJ0_checkIndex_df160_5 ⟨Nat.le_of_ble_eq_true rfl, Nat.le_of_ble_eq_true rfl⟩ (fun r9 hr9 => ?_)
    rw [hr9]
    refine lv_pop hx hb dJ0_checkIndex_df160_8 rfl ?_
    exact W.vret hx hb hr (fun t ht hW => ⟨rfl, hF, ht⟩) (fun q hq => absurd hq List.not_mem_nil) dJ0_checkIndex_df160_9
  · refine va_gets hx hb hz hS hown (hts _ q1071) (fun _ h9 => h9) dJ0_checkIndex_df160_2 ?_
    have hI := hF.1
    have hF := hF.2
    refine cpSi (As := [.int x0, .int x1, .ref fS]) (rest := []) ⟨hx, hb, hr, hml, hown, hts, hlocks⟩ (m_J3f l fS x0 x1 hI.1 hI.2) k_J3_checkIndex_8e157 q1116 ⟨rfl, rfl⟩ ⟨Nat.le_of_ble_eq_true rfl, Nat.le_of_ble_eq_true rfl⟩ hl.1 rfl rfl (Nat.le_of_ble_eq_true rfl) dJ0_checkIndex_df160_5 ⟨Nat.le_of_ble_eq_true rfl, Nat.le_of_ble_eq_true rfl⟩ (fun r9 hr9 => ?_)
    rw [hr9]
    refine lv_pop hx hb dJ0_checkIndex_df160_8 rfl ?_
    exact W.vret hx hb hr (fun t ht hW => ⟨rfl, hF, ht⟩) (fun q hq => absurd hq List.not_mem_nil) dJ0_checkIndex_df160_9
theorem dJ1_charAt_3b067_0 : decode cJ1_charAt_3b067 0 = .ok (.iload_n 1, 1) := by decide +kernel
theorem dJ1_charAt_3b067_1 : decode cJ1_charAt_3b067 1 = .ok (.aload_n 0, 1) := by decide +kernel
theorem dJ1_charAt_3b067_2 : decode cJ1_charAt_3b067 2 = .ok (.arraylength, 1) := by decide +kernel
theorem dJ1_charAt_3b067_3 : decode cJ1_charAt_3b067 3 = .ok (.invokestatic 9, 3) := by decide +kernel
theorem dJ1_charAt_3b067_6 : decode cJ1_charAt_3b067 6 = .ok (.aload_n 0, 1) := by decide +kernel
theorem dJ1_charAt_3b067_7 : decode cJ1_charAt_3b067 7 = .ok (.iload_n 1, 1) := by decide +kernel
theorem dJ1_charAt_3b067_8 : decode cJ1_charAt_3b067 8 = .ok (.baload, 1) := by decide +kernel
theorem dJ1_charAt_3b067_9 : decode cJ1_charAt_3b067 9 = .ok (.sipush 255, 3) := by decide +kernel
theorem dJ1_charAt_3b067_12 : decode cJ1_charAt_3b067 12 = .ok (.iand, 1) := by decide +kernel
theorem dJ1_charAt_3b067_13 : decode cJ1_charAt_3b067 13 = .ok (.i2c, 1) := by decide +kernel
theorem dJ1_charAt_3b067_14 : decode cJ1_charAt_3b067 14 = .ok (.ireturn, 1) := by decide +kernel
def wp_J1_charAt_3b067 (x1 : Int32) (P : Int32 → Prop) : Prop := (wp_J0_checkIndex_df160 x1 (3 : Int32) (vp_in x1 3 ∧ (narrow .char (.int ((((stdB x1.toNatClampNeg) &&& 255).toUInt32 % 65536).toInt32)) = .int ((((stdB x1.toNatClampNeg) &&& 255).toUInt32 % 65536).toInt32) ∧ (P ((((stdB x1.toNatClampNeg) &&& 255).toUInt32 % 65536).toInt32)))))
theorem k_J1_charAt_3b067 : KS yJ1_charAt_3b067 cJ1_charAt_3b067 2 (some .char) 2 := ⟨q1111, q17, q1112, by decide +kernel⟩
set_option maxHeartbeats 4000000 in
set_option maxRecDepth 100000 in
theorem m_J1_charAt_3b067 (l : Launch) (aK aV fS : Nat) (x1 : Int32) (P : Int32 → Prop) (hF : wp_J1_charAt_3b067 x1 P) : Met l yJ1_charAt_3b067 (ws_ yJ1_charAt_3b067 cJ1_charAt_3b067 2 (some .char)) ({ frames := 2, cells := 0, slots := 0, locals := 43 } : Room) (va_Pc [.ref aV, .int x1] (fun U => ZK aK aV fS (fun _ => False) U U.heap)) (vp_Si P) 0 0 (fun _ => False) := by
  refine Met.ofCx (own := RJ1) (by decide) rfl (Nat.le_of_ble_eq_true rfl) ?_
  intro p e s m below meth c hC hv ls hl
  obtain ⟨hx, hb, hr, hml, hown, hts, hlocks⟩ := hC
  have hl : lv_has ls 2 [(0, .ref aV), (1, .int x1)] := hl
  have hZ : ZK aK aV fS (fun _ => False) s s.heap := hv
  have hS : va_S (fun _ => False) s.heap s.heap [] := va_S.rf
  unfold wp_J1_charAt_3b067 at hF
  refine lv_iload_n hx hb dJ1_charAt_3b067_0 rfl (lv_at hl 1 rfl) ?_
  refine lv_aload_n hx hb dJ1_charAt_3b067_1 rfl (lv_at hl 0 rfl) ?_
  refine va_tlen hx hb hZ.byt hS (v := 3) rfl dJ1_charAt_3b067_2 ?_
  refine czKv (As := [.int x1, .int (3 : Int32)]) (rest := []) ⟨hx, hb, hr, hml, hown, hts, hlocks⟩ hZ hS (m_J0_checkIndex_df160 l aK aV fS x1 (3 : Int32) _ hF) k_J0_checkIndex_df160 q1113 ⟨rfl, rfl⟩ ⟨Nat.le_of_ble_eq_true rfl, Nat.le_of_ble_eq_true rfl⟩ hl.1 rfl rfl (Nat.le_of_ble_eq_true rfl) dJ1_charAt_3b067_3 ⟨Nat.le_of_ble_eq_true rfl, Nat.le_of_ble_eq_true rfl⟩ (fun hF => ?_)
  refine lv_aload_n hx hb dJ1_charAt_3b067_6 rfl (lv_at hl 0 rfl) ?_
  refine lv_iload_n hx hb dJ1_charAt_3b067_7 rfl (lv_at hl 1 rfl) ?_
  have hI := hF.1
  have hF := hF.2
  refine va_tb hx hb hZ.byt hS hI rfl dJ1_charAt_3b067_8 ?_
  refine lv_sipush (v := 255) hx hb dJ1_charAt_3b067_9 (by decide) ?_
  refine lv_iand hx hb dJ1_charAt_3b067_12 ?_
  refine lv_i2c (v := (((stdB x1.toNatClampNeg) &&& 255).toUInt32 % 65536).toInt32) hx hb dJ1_charAt_3b067_13 rfl ?_
  exact W.zret (v := (((stdB x1.toNatClampNeg) &&& 255).toUInt32 % 65536).toInt32) hx hb hr hF.1 (fun t ht hW => ⟨(((stdB x1.toNatClampNeg) &&& 255).toUInt32 % 65536).toInt32, rfl, hF.2, ht⟩) (fun q hq => absurd hq List.not_mem_nil) dJ1_charAt_3b067_14
theorem dJ0_charAt_5068e_0 : decode cJ0_charAt_5068e 0 = .ok (.aload_n 0, 1) := by decide +kernel
theorem dJ0_charAt_5068e_1 : decode cJ0_charAt_5068e 1 = .ok (.invokevirtual 492, 3) := by decide +kernel
theorem dJ0_charAt_5068e_4 : decode cJ0_charAt_5068e 4 = .ok (.ifCond .eq 12, 3) := by decide +kernel
theorem dJ0_charAt_5068e_7 : decode cJ0_charAt_5068e 7 = .ok (.aload_n 0, 1) := by decide +kernel
theorem dJ0_charAt_5068e_8 : decode cJ0_charAt_5068e 8 = .ok (.getfield 9, 3) := by decide +kernel
theorem dJ0_charAt_5068e_11 : decode cJ0_charAt_5068e 11 = .ok (.iload_n 1, 1) := by decide +kernel
theorem dJ0_charAt_5068e_12 : decode cJ0_charAt_5068e 12 = .ok (.invokestatic 495, 3) := by decide +kernel
theorem dJ0_charAt_5068e_15 : decode cJ0_charAt_5068e 15 = .ok (.ireturn, 1) := by decide +kernel
theorem dJ0_charAt_5068e_16 : decode cJ0_charAt_5068e 16 = .ok (.aload_n 0, 1) := by decide +kernel
theorem dJ0_charAt_5068e_17 : decode cJ0_charAt_5068e 17 = .ok (.getfield 9, 3) := by decide +kernel
theorem dJ0_charAt_5068e_20 : decode cJ0_charAt_5068e 20 = .ok (.iload_n 1, 1) := by decide +kernel
theorem dJ0_charAt_5068e_21 : decode cJ0_charAt_5068e 21 = .ok (.invokestatic 498, 3) := by decide +kernel
theorem dJ0_charAt_5068e_24 : decode cJ0_charAt_5068e 24 = .ok (.ireturn, 1) := by decide +kernel
def wp_J0_charAt_5068e (x1 : Int32) (P : Int32 → Prop) : Prop := (wp_J0_isLatin1_aae02 (fun r1 => ((r1 = 0 → False) ∧ (¬ r1 = 0 → (wp_J1_charAt_3b067 x1 (fun r12 => (narrow .char (.int r12) = .int r12 ∧ (P r12))))))))
theorem k_J0_charAt_5068e : KV RJ0 yJ0_charAt_5068e cJ0_charAt_5068e 2 (some .char) 1 := ⟨q1107, q1108, q16, q1109, by decide +kernel⟩
set_option maxHeartbeats 4000000 in
set_option maxRecDepth 100000 in
theorem m_J0_charAt_5068e (l : Launch) (aK aV fS : Nat) (x1 : Int32) (P : Int32 → Prop) (hF : wp_J0_charAt_5068e x1 P) : Met l yJ0_charAt_5068e (ws_ yJ0_charAt_5068e cJ0_charAt_5068e 2 (some .char)) ({ frames := 3, cells := 0, slots := 0, locals := 64 } : Room) (va_Pc [.ref aK, .int x1] (fun U => ZK aK aV fS (fun _ => False) U U.heap)) (vp_Si P) 0 0 (fun _ => False) := by
  refine Met.ofCx (own := RJ0) (by decide) rfl (Nat.le_of_ble_eq_true rfl) ?_
  intro p e s m below meth c hC hv ls hl
  obtain ⟨hx, hb, hr, hml, hown, hts, hlocks⟩ := hC
  have hl : lv_has ls 2 [(0, .ref aK), (1, .int x1)] := hl
  have hZ : ZK aK aV fS (fun _ => False) s s.heap := hv
  have hS : va_S (fun _ => False) s.heap s.heap [] := va_S.rf
  unfold wp_J0_charAt_5068e at hF
  refine lv_aload_n hx hb dJ0_charAt_5068e_0 rfl (lv_at hl 0 rfl) ?_
  refine czKV (As := []) (rest := []) ⟨hx, hb, hr, hml, hown, hts, hlocks⟩ hZ hS (m_J0_isLatin1_aae02 l aK aV fS _ hF) k_J0_isLatin1_aae02 q1026 ⟨rfl, rfl⟩ ⟨Nat.le_of_ble_eq_true rfl, Nat.le_of_ble_eq_true rfl⟩ hl.1 rfl rfl (Nat.le_of_ble_eq_true rfl) dJ0_charAt_5068e_1 ⟨Nat.le_of_ble_eq_true rfl, Nat.le_of_ble_eq_true rfl⟩ (fun r1 hF => ?_)
  refine lv_if_eq (tgt := 16) hx hb dJ0_charAt_5068e_4 (by decide) (fun cz => ?_) (fun cz => ?_)
  · have hF := hF.1 cz
    refine lv_aload_n hx hb dJ0_charAt_5068e_16 rfl (lv_at hl 0 rfl) ?_
    refine vk_getf hx hb hZ.val hS hown (hts _ q1627) (fun _ h9 => h9) dJ0_charAt_5068e_17 ?_
    refine lv_iload_n hx hb dJ0_charAt_5068e_20 rfl (lv_at hl 1 rfl) ?_
    exact hF.elim
  · have hF := hF.2 cz
    refine lv_aload_n hx hb dJ0_charAt_5068e_7 rfl (lv_at hl 0 rfl) ?_
    refine vk_getf hx hb hZ.val hS hown (hts _ q1627) (fun _ h9 => h9) dJ0_charAt_5068e_8 ?_
    refine lv_iload_n hx hb dJ0_charAt_5068e_11 rfl (lv_at hl 1 rfl) ?_
    refine czKi (As := [.ref aV, .int x1]) (rest := []) ⟨hx, hb, hr, hml, hown, hts, hlocks⟩ hZ hS (m_J1_charAt_3b067 l aK aV fS x1 _ hF) k_J1_charAt_3b067 q1110 ⟨rfl, rfl⟩ ⟨Nat.le_of_ble_eq_true rfl, Nat.le_of_ble_eq_true rfl⟩ hl.1 rfl rfl (Nat.le_of_ble_eq_true rfl) dJ0_charAt_5068e_12 ⟨Nat.le_of_ble_eq_true rfl, Nat.le_of_ble_eq_true rfl⟩ (fun r12 hF => ?_)
    exact W.zret (v := r12) hx hb hr hF.1 (fun t ht hW => ⟨r12, rfl, hF.2, ht⟩) (fun q hq => absurd hq List.not_mem_nil) dJ0_charAt_5068e_15
