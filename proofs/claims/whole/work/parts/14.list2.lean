section LCALLS
variable {p : Program} {l : Launch} {e : Env} {R : Room} {s : State} {m : MethodId} {args : Array Value} {below : List Frame} {meth : Method} {c : Code} {H : Heap} {locs : List Loc} {cells slots : Nat} {Q : State → Prop}
  {cc bytes : ByteArray} {nL maxL index n pc count : Nat} {own Cn : String} {x y : MethodName} {ret rt : Option FieldType} {rm : Room} {ls : Array Slot} {As rest st0 : List Value} {b ci N t2 tc : Nat} {T : u_T} {fs : List Value} {wc : va_W} {dC : Nat → ClassId} {dI : Nat → Nat → Nat} {cy : Nat → ClassId} {ad : Nat → Nat} {A A1 : Nat → Prop}
theorem cpVq {q : Nat} (q0 : Nat) (hC : Cx p s m args meth c own cc nL rt) (hK : kwX dC dI cy s) (hP : va_P (dC, dI) classes wc H) (he : wc[q0]? = some (b, .inr (ci, fs))) (hcl : classes[ci]? = some (Cn, T, N))
    (hM : Met l y (ws_ y bytes maxL ret) rm (va_Pc (.ref b :: As) (fun U => va_P (dC, dI) classes wc U.heap ∧ kwX dC dI cy U)) (vp_Sq0 q) 0 0 (fun _ => False)) (k : KV Cn y bytes maxL ret n) (hlink : Cond.methodLink own index y ∈ lw_all)
    (hrm : rm.cells = 0 ∧ rm.slots = 0) (hR : rm.frames + 1 ≤ R.frames ∧ 8 + (maxL + 11) + rm.locals ≤ R.locals) (hl : ls.size = nL) (hn : As.length = n) (hst : st0 = As.reverse ++ .ref b :: rest) (hr : (rest.map fun v => v.category).sum ≤ 8) (hdg : decode cc pc = .ok (.invokevirtual index, 3)) (hf : cells ≤ R.cells ∧ slots ≤ R.slots)
    (kk : W p l e R s m args below meth c H locs cells slots Q (F0 m (pc + 3) ls (.ref q :: rest))) : W p l e R s m args below meth c H locs cells slots Q (F0 m pc ls st0) := by
  have hr9 : CallRun p l e R s m args below meth c H locs cells slots 0 0 (F0 m pc ls st0) rest (vp_Sq0 q (Value.ref b :: As).toArray) (fun _ => False) := W.runV (b := b) (As := As) (rest := rest) ⟨hC.1, hC.2.1, hC.2.2.2.1, hC.2.2.2.2.1, hC.2.2.2.2.2.1⟩ hM (cbV hC.2.2.2.2.2.1 k hlink hrm hR) (preP q0 hK hP he hcl) rfl hn hl hst (lv_room hr) hdg hf
  intro T hT X
  obtain ⟨v, st₀, t, T', L, h0, X', hL, e1, ⟨hv, hh⟩, st⟩ := hr9 T hT X
  cases hv
  obtain ⟨t2, a1, b1⟩ := kk T' (by rw [e1, hh, h0]) (Stand.forget X' (fun q h => (hL q h).elim))
  exact ⟨t2, st t2 a1, b1⟩
theorem preL (q0 : Nat) (hK : kwX dC dI cy s) (hP : va_P (dC, dI) classes wc H) (hD : va_D A1 wc) (he : wc[q0]? = some (b, .inr (ci, fs))) (hcl : classes[ci]? = some (Cn, T, N)) (hZ : ZL t2 tc ad A s s.heap) (hS : va_S A s.heap H locs) (hF : ∀ q, va_A wc H.size q → A q) :
    PreV s H Cn b (va_Pc (.ref b :: As) (PcL dC dI cy t2 tc ad wc H.size)) As :=
  ⟨fun a U g mk q => ⟨q.1, q.2.1, q.2.2.1, q.2.2.2.1.calling, q.2.2.2.2.1, q.2.2.2.2.2.moved (u := U) (U := U.calling g mk a) (Vm.Alike.refl U.vm)⟩, va_recv hK.1 hP hcl he,
   fun U hU hW => ⟨rfl, by rw [hU], by rw [hU]; exact hP, hK.warm hW, hD.weaken (fun _ _ _ _ => trivial), by rw [hU]; exact ((hZ.kept hS.2.1).narrow hF).moved hW.alike⟩⟩
theorem preLS (hK : kwX dC dI cy s) (hP : va_P (dC, dI) classes wc H) (hD : va_D A1 wc) (hZ : ZL t2 tc ad A s s.heap) (hS : va_S A s.heap H locs) (hF : ∀ q, va_A wc H.size q → A q) :
    PreS s H (va_Pc As (PcL dC dI cy t2 tc ad wc H.size)) As :=
  ⟨fun a U g mk q => ⟨q.1, q.2.1, q.2.2.1, q.2.2.2.1.calling, q.2.2.2.2.1, q.2.2.2.2.2.moved (u := U) (U := U.calling g mk a) (Vm.Alike.refl U.vm)⟩,
   fun U hU hW => ⟨rfl, by rw [hU], by rw [hU]; exact hP, hK.warm hW, hD.weaken (fun _ _ _ _ => trivial), by rw [hU]; exact ((hZ.kept hS.2.1).narrow hF).moved hW.alike⟩⟩
end LCALLS
theorem arr_same4 {dC : Nat → ClassId} {dI : Nat → Nat → Nat} {cy : Nat → ClassId} {s : State} {cA : ClassId} (h : va_K (dC, dI) classes (tysX cy ++ [(cA, .object "java/lang/Object")]) s) : cA = cy 4 := by
  have h1 := (h.2 5 (cA, .object "java/lang/Object") rfl).2
  have h2 := (h.2 4 (cy 4, .object "java/lang/Object") rfl).2
  obtain ⟨_, _, _, _, _, e1⟩ := h1
  obtain ⟨_, _, _, _, _, e2⟩ := h2
  exact Option.some.inj (e1.symm.trans e2)
theorem lf_cpy (ad : Nat → Nat) (v : Nat → Nat) : va_cpy (lf ad v 10) (fun _ => none) 0 0 10 = lf ad v 10 := by
  funext i
  unfold va_cpy lf
  by_cases h : i < 10
  · simp [h]
  · simp [h]
theorem lf_0 (ad : Nat → Nat) (v : Nat → Nat) : (fun _ => none : Nat → Option Nat) = lf ad v 0 := by
  funext i
  simp [lf]

theorem dJx4a65c_get_915e3_0 : decode cJx4a65c_get_915e3 0 = .ok (.iload_n 1, 1) := by decide +kernel
theorem dJx4a65c_get_915e3_1 : decode cJx4a65c_get_915e3 1 = .ok (.aload_n 0, 1) := by decide +kernel
theorem dJx4a65c_get_915e3_2 : decode cJx4a65c_get_915e3 2 = .ok (.getfield 48, 3) := by decide +kernel
theorem dJx4a65c_get_915e3_5 : decode cJx4a65c_get_915e3 5 = .ok (.invokestatic 118, 3) := by decide +kernel
theorem dJx4a65c_get_915e3_8 : decode cJx4a65c_get_915e3 8 = .ok (.pop, 1) := by decide +kernel
theorem dJx4a65c_get_915e3_9 : decode cJx4a65c_get_915e3 9 = .ok (.aload_n 0, 1) := by decide +kernel
theorem dJx4a65c_get_915e3_10 : decode cJx4a65c_get_915e3 10 = .ok (.iload_n 1, 1) := by decide +kernel
theorem dJx4a65c_get_915e3_11 : decode cJx4a65c_get_915e3 11 = .ok (.invokevirtual 123, 3) := by decide +kernel
theorem dJx4a65c_get_915e3_14 : decode cJx4a65c_get_915e3 14 = .ok (.areturn, 1) := by decide +kernel
theorem k_Jx4a65c_get_915e3 : KF RJx4a65c ⟨"java/util/List", "get", "(I)Ljava/lang/Object;"⟩ yJx4a65c_get_915e3 cJx4a65c_get_915e3 2 (some (.object "java/lang/Object")) 1 := ⟨q1393, q1395, q8, q1397, by decide +kernel⟩
set_option maxHeartbeats 4000000 in
set_option maxRecDepth 100000 in
theorem m_Jx4a65c_get_915e3 (l : Launch) (dC : Nat → ClassId) (dI : Nat → Nat → Nat) (cy : Nat → ClassId) (ad : Nat → Nat) (t2 a : Nat) (e cap : Nat) (mc : Int32) (v : Nat → Nat) (n i : Nat) (hi : i < n) (hn : n ≤ cap) (hc : cap ≤ 100) : Met l yJx4a65c_get_915e3 (ws_ yJx4a65c_get_915e3 cJx4a65c_get_915e3 2 (some (.object "java/lang/Object"))) ({ frames := 2, cells := 0, slots := 0, locals := 43 } : Room) (va_Pc [.ref a, .int (nI i)] (fun U => va_P (dC, dI) classes (wL1 ad cy a e cap mc v n) U.heap ∧ kwX dC dI cy U)) (vp_Sq0 (ad (v i + 128))) 0 0 (fun _ => False) := by
  refine Met.ofCx (own := RJx4a65c) (by decide) rfl (Nat.le_of_ble_eq_true rfl) ?_
  intro p e9 s m below meth c hC hv ls hl
  obtain ⟨hx, hb, hr, hml, hown, hts, hlocks⟩ := hC
  have hl : lv_has ls 2 [(0, .ref a), (1, .int (nI i))] := hl
  obtain ⟨hP, hK⟩ := hv
  have hP : va_P (dC, dI) classes ([(a, .inr (5, [.int mc, .ref e, .int (nI n)])), (e, .inl (cy 4, cap, .inr (.inr (.inr (.inr (lf ad v n))))))]) s.heap := hP
  refine lv_iload_n hx hb dJx4a65c_get_915e3_0 rfl (lv_at hl 1 rfl) ?_
  refine lv_aload_n hx hb dJx4a65c_get_915e3_1 rfl (lv_at hl 0 rfl) ?_
  refine va_get (D := (dC, dI)) (ci := 5) (v := .int (nI n)) (C := RJx4a65c) (T := TJx4a65c) (N := 3) hx hb hts in_Jx4a65c hown hK.1 hP 0 rfl rfl 2 (by decide) (hts _ q912) (fun _ h9 => h9) rfl dJx4a65c_get_915e3_2 ?_
  refine cpSi (As := [.int (nI i), .int (nI n)]) (rest := []) ⟨hx, hb, hr, hml, hown, hts, hlocks⟩ (m_J15_checkIndex_7cf53 l (nI i) (nI n) (nI_pos (by omega)) (nI_lt hi (by omega))) k_J15_checkIndex_7cf53 q1367 ⟨rfl, rfl⟩ ⟨Nat.le_of_ble_eq_true rfl, Nat.le_of_ble_eq_true rfl⟩ hl.1 rfl rfl (Nat.le_of_ble_eq_true rfl) dJx4a65c_get_915e3_5 ⟨Nat.le_of_ble_eq_true rfl, Nat.le_of_ble_eq_true rfl⟩ (fun r hr9 => ?_)
  rw [hr9]
  refine lv_pop hx hb dJx4a65c_get_915e3_8 rfl ?_
  refine lv_aload_n hx hb dJx4a65c_get_915e3_9 rfl (lv_at hl 0 rfl) ?_
  refine lv_iload_n hx hb dJx4a65c_get_915e3_10 rfl (lv_at hl 1 rfl) ?_
  refine cpVq (q0 := 0) (As := [.int (nI i)]) (rest := []) ⟨hx, hb, hr, hml, hown, hts, hlocks⟩ hK hP rfl rfl (m_Jx4a65c_elementData_915e3 l dC dI cy ad t2 a e cap mc v n i hi hn hc) k_Jx4a65c_elementData_915e3 q1398 ⟨rfl, rfl⟩ ⟨Nat.le_of_ble_eq_true rfl, Nat.le_of_ble_eq_true rfl⟩ hl.1 rfl rfl (Nat.le_of_ble_eq_true rfl) dJx4a65c_get_915e3_11 ⟨Nat.le_of_ble_eq_true rfl, Nat.le_of_ble_eq_true rfl⟩ ?_
  exact W.aret (v := .ref (ad (v i + 128))) hx hb hr (Or.inl ⟨_, rfl⟩) (Or.inr ⟨_, rfl⟩)  (fun t ht hW => ⟨rfl, ht⟩) (fun q hq => absurd hq List.not_mem_nil) dJx4a65c_get_915e3_14
theorem dJ8_newLength_cabcc_0 : decode cJ8_newLength_cabcc 0 = .ok (.iload_n 0, 1) := by decide +kernel
theorem dJ8_newLength_cabcc_1 : decode cJ8_newLength_cabcc 1 = .ok (.iload_n 1, 1) := by decide +kernel
theorem dJ8_newLength_cabcc_2 : decode cJ8_newLength_cabcc 2 = .ok (.iload_n 2, 1) := by decide +kernel
theorem dJ8_newLength_cabcc_3 : decode cJ8_newLength_cabcc 3 = .ok (.invokestatic 194, 3) := by decide +kernel
theorem dJ8_newLength_cabcc_6 : decode cJ8_newLength_cabcc 6 = .ok (.iadd, 1) := by decide +kernel
theorem dJ8_newLength_cabcc_7 : decode cJ8_newLength_cabcc 7 = .ok (.istore_n 3, 1) := by decide +kernel
theorem dJ8_newLength_cabcc_8 : decode cJ8_newLength_cabcc 8 = .ok (.iconst 0, 1) := by decide +kernel
theorem dJ8_newLength_cabcc_9 : decode cJ8_newLength_cabcc 9 = .ok (.iload_n 3, 1) := by decide +kernel
theorem dJ8_newLength_cabcc_10 : decode cJ8_newLength_cabcc 10 = .ok (.if_icmp .ge 11, 3) := by decide +kernel
theorem dJ8_newLength_cabcc_13 : decode cJ8_newLength_cabcc 13 = .ok (.iload_n 3, 1) := by decide +kernel
theorem dJ8_newLength_cabcc_14 : decode cJ8_newLength_cabcc 14 = .ok (.ldc 200, 2) := by decide +kernel
theorem dJ8_newLength_cabcc_16 : decode cJ8_newLength_cabcc 16 = .ok (.if_icmp .gt 5, 3) := by decide +kernel
theorem dJ8_newLength_cabcc_19 : decode cJ8_newLength_cabcc 19 = .ok (.iload_n 3, 1) := by decide +kernel
theorem dJ8_newLength_cabcc_20 : decode cJ8_newLength_cabcc 20 = .ok (.ireturn, 1) := by decide +kernel
theorem dJ8_newLength_cabcc_21 : decode cJ8_newLength_cabcc 21 = .ok (.iload_n 0, 1) := by decide +kernel
theorem dJ8_newLength_cabcc_22 : decode cJ8_newLength_cabcc 22 = .ok (.iload_n 1, 1) := by decide +kernel
theorem dJ8_newLength_cabcc_23 : decode cJ8_newLength_cabcc 23 = .ok (.invokestatic 201, 3) := by decide +kernel
theorem dJ8_newLength_cabcc_26 : decode cJ8_newLength_cabcc 26 = .ok (.ireturn, 1) := by decide +kernel
theorem k_J8_newLength_cabcc : KS yJ8_newLength_cabcc cJ8_newLength_cabcc 4 (some .int) 3 := ⟨q1276, q28, q1277, by decide +kernel⟩
set_option maxHeartbeats 4000000 in
set_option maxRecDepth 100000 in
theorem m_J8_newLength_cabcc (l : Launch) : Met l yJ8_newLength_cabcc (ws_ yJ8_newLength_cabcc cJ8_newLength_cabcc 4 (some .int)) ({ frames := 1, cells := 0, slots := 0, locals := 22 } : Room) (va_Pc [.int 10, .int 1, .int 5] (fun _ => True)) (vp_Si (fun r => r = 15)) 0 0 (fun _ => False) := by
  refine Met.ofCx (own := RJ8) (by decide) rfl (Nat.le_of_ble_eq_true rfl) ?_
  intro p e9 s m below meth c hC hv ls hl
  obtain ⟨hx, hb, hr, hml, hown, hts, hlocks⟩ := hC
  have hl : lv_has ls 4 [(0, .int 10), (1, .int 1), (2, .int 5)] := hl
  refine lv_iload_n hx hb dJ8_newLength_cabcc_0 rfl (lv_at hl 0 rfl) ?_
  refine lv_iload_n hx hb dJ8_newLength_cabcc_1 rfl (lv_at hl 1 rfl) ?_
  refine lv_iload_n hx hb dJ8_newLength_cabcc_2 rfl (lv_at hl 2 rfl) ?_
  refine va_mmax hx hb (by rw [hml]; exact hl.1.symm) hown (hts _ q1278) (hts _ q1047) (hts _ q13) (hts _ q1048) (Nat.le_of_ble_eq_true rfl) (Nat.le_of_ble_eq_true rfl) (Nat.le_of_ble_eq_true rfl) (Nat.le_of_ble_eq_true rfl) dJ8_newLength_cabcc_3 ?_
  refine W.eq (g2 := F0 m 6 ls [.int 5, .int 10]) (by first | rfl | decide) ?_
  refine lv_iadd hx hb dJ8_newLength_cabcc_6 ?_
  rw [show (10 + 5 : Int32) = 15 from (by decide)]
  refine lv_istore_n (lv' := [(3, .int 15), (0, .int 10), (1, .int 1), (2, .int 5)]) hx hb dJ8_newLength_cabcc_7 rfl hl (by decide) rfl (fun ls hl => ?_)
  refine lv_iconst (v := 0) hx hb dJ8_newLength_cabcc_8 (by decide) ?_
  refine lv_iload_n hx hb dJ8_newLength_cabcc_9 rfl (lv_at hl 0 rfl) ?_
  refine lv_icmp_ge (tgt := 21) hx hb dJ8_newLength_cabcc_10 (by decide) (fun cz => absurd cz ((by decide : ¬ (15 : Int32) ≤ 0))) (fun cz => ?_)
  refine lv_iload_n hx hb dJ8_newLength_cabcc_13 rfl (lv_at hl 0 rfl) ?_
  refine lv_ldc (v := 2147483639) hx hb hown (hts _ q1279) dJ8_newLength_cabcc_14 ?_
  refine lv_icmp_gt (tgt := 21) hx hb dJ8_newLength_cabcc_16 (by decide) (fun cz => absurd cz ((by decide))) (fun cz => ?_)
  refine lv_iload_n hx hb dJ8_newLength_cabcc_19 rfl (lv_at hl 0 rfl) ?_
  exact W.iret (v := 15) hx hb hr (fun t ht hW => ⟨15, rfl, rfl, ht⟩) (fun q hq => absurd hq List.not_mem_nil) dJ8_newLength_cabcc_20
theorem dJ7_copyOf_6403c_0 : decode cJ7_copyOf_6403c 0 = .ok (.aload_n 2, 1) := by decide +kernel
theorem dJ7_copyOf_6403c_1 : decode cJ7_copyOf_6403c 1 = .ok (.ldc 110, 2) := by decide +kernel
theorem dJ7_copyOf_6403c_3 : decode cJ7_copyOf_6403c 3 = .ok (.if_acmp .ne 10, 3) := by decide +kernel
theorem dJ7_copyOf_6403c_6 : decode cJ7_copyOf_6403c 6 = .ok (.iload_n 1, 1) := by decide +kernel
theorem dJ7_copyOf_6403c_7 : decode cJ7_copyOf_6403c 7 = .ok (.anewarray 2, 3) := by decide +kernel
theorem dJ7_copyOf_6403c_10 : decode cJ7_copyOf_6403c 10 = .ok (.goto 14, 3) := by decide +kernel
theorem dJ7_copyOf_6403c_13 : decode cJ7_copyOf_6403c 13 = .ok (.aload_n 2, 1) := by decide +kernel
theorem dJ7_copyOf_6403c_14 : decode cJ7_copyOf_6403c 14 = .ok (.invokevirtual 90, 3) := by decide +kernel
theorem dJ7_copyOf_6403c_17 : decode cJ7_copyOf_6403c 17 = .ok (.iload_n 1, 1) := by decide +kernel
theorem dJ7_copyOf_6403c_18 : decode cJ7_copyOf_6403c 18 = .ok (.invokestatic 95, 3) := by decide +kernel
theorem dJ7_copyOf_6403c_21 : decode cJ7_copyOf_6403c 21 = .ok (.checkcast 110, 3) := by decide +kernel
theorem dJ7_copyOf_6403c_24 : decode cJ7_copyOf_6403c 24 = .ok (.astore_n 3, 1) := by decide +kernel
theorem dJ7_copyOf_6403c_25 : decode cJ7_copyOf_6403c 25 = .ok (.aload_n 0, 1) := by decide +kernel
theorem dJ7_copyOf_6403c_26 : decode cJ7_copyOf_6403c 26 = .ok (.iconst 0, 1) := by decide +kernel
theorem dJ7_copyOf_6403c_27 : decode cJ7_copyOf_6403c 27 = .ok (.aload_n 3, 1) := by decide +kernel
theorem dJ7_copyOf_6403c_28 : decode cJ7_copyOf_6403c 28 = .ok (.iconst 0, 1) := by decide +kernel
theorem dJ7_copyOf_6403c_29 : decode cJ7_copyOf_6403c 29 = .ok (.aload_n 0, 1) := by decide +kernel
theorem dJ7_copyOf_6403c_30 : decode cJ7_copyOf_6403c 30 = .ok (.arraylength, 1) := by decide +kernel
theorem dJ7_copyOf_6403c_31 : decode cJ7_copyOf_6403c 31 = .ok (.iload_n 1, 1) := by decide +kernel
theorem dJ7_copyOf_6403c_32 : decode cJ7_copyOf_6403c 32 = .ok (.invokestatic 304, 3) := by decide +kernel
theorem dJ7_copyOf_6403c_35 : decode cJ7_copyOf_6403c 35 = .ok (.invokestatic 150, 3) := by decide +kernel
theorem dJ7_copyOf_6403c_38 : decode cJ7_copyOf_6403c 38 = .ok (.aload_n 3, 1) := by decide +kernel
theorem dJ7_copyOf_6403c_39 : decode cJ7_copyOf_6403c 39 = .ok (.areturn, 1) := by decide +kernel
theorem k_J7_copyOf_6403c : KS yJ7_copyOf_6403c cJ7_copyOf_6403c 4 (some (.array (.object "java/lang/Object"))) 3 := ⟨q1308, q23, q1309, by decide +kernel⟩
set_option maxHeartbeats 4000000 in
set_option maxRecDepth 100000 in
theorem m_J7_copyOf_6403c (l : Launch) (dC : Nat → ClassId) (dI : Nat → Nat → Nat) (cy : Nat → ClassId) (ad : Nat → Nat) (t2 tc sz : Nat) (e mi : Nat) (v : Nat → Nat) (hv9 : ∀ i, i < 10 → v i < 128) : Met l yJ7_copyOf_6403c (ws_ yJ7_copyOf_6403c cJ7_copyOf_6403c 4 (some (.array (.object "java/lang/Object")))) ({ frames := 1, cells := 1, slots := 15, locals := 60 } : Room) (va_Pc [.ref e, .int 15, .ref mi] (fun U => PcL dC dI cy t2 tc ad ([(e, .inl (cy 4, 10, .inr (.inr (.inr (.inr (lf ad v 10))))))]) sz U ∧ va_Mi "[Ljava/lang/Object;" mi U)) (va_Qr (fun _ : Unit => True) (fun _ q t => va_P (dC, dI) classes ([(e, .inl (cy 4, 10, .inr (.inr (.inr (.inr (lf ad v 10)))))), (q, .inl (cy 4, 15, .inr (.inr (.inr (.inr (lf ad v 10))))))]) t.heap ∧ va_D (va_A ([(e, .inl (cy 4, 10, .inr (.inr (.inr (.inr (lf ad v 10))))))]) sz) ([(e, .inl (cy 4, 10, .inr (.inr (.inr (.inr (lf ad v 10)))))), (q, .inl (cy 4, 15, .inr (.inr (.inr (.inr (lf ad v 10))))))])) (va_A ([(e, .inl (cy 4, 10, .inr (.inr (.inr (.inr (lf ad v 10))))))]) sz)) 1 15 (va_A ([(e, .inl (cy 4, 10, .inr (.inr (.inr (.inr (lf ad v 10))))))]) sz) := by
  refine Met.ofCx (own := RJ7) (by decide) rfl (Nat.le_of_ble_eq_true rfl) ?_
  intro p e9 s m below meth c hC hv ls hl
  obtain ⟨hx, hb, hr, hml, hown, hts, hlocks⟩ := hC
  have hl : lv_has ls 4 [(0, .ref e), (1, .int 15), (2, .ref mi)] := hl
  obtain ⟨⟨hsz, hP, hK, hD0, hZ⟩, hM⟩ := hv
  subst hsz
  have hD := hD0.self (sz := s.heap.size)
  generalize hAe : va_A ([(e, .inl (cy 4, 10, .inr (.inr (.inr (.inr (lf ad v 10))))))]) s.heap.size = A at hD hZ ⊢
  have hA : ∀ q : Nat, s.heap.size ≤ q → A q := fun q h => by rw [← hAe]; exact Or.inr h
  have hS : va_S A s.heap s.heap [] := va_S.rf
  clear hAe
  have hnat := hts _ q1316
  refine lv_aload_n hx hb dJ7_copyOf_6403c_0 rfl (lv_at hl 2 rfl) ?_
  refine va_ldcM hx hb hown (hts _ q1310) hM dJ7_copyOf_6403c_1 ?_
  refine lv_acmp_ne (rx := some (mi)) (ry := some (mi)) (tgt := 13) hx hb dJ7_copyOf_6403c_3 (by decide) (fun cz => absurd (rfl) cz) (fun cz => ?_)
  refine lv_iload_n hx hb dJ7_copyOf_6403c_6 rfl (lv_at hl 1 rfl) ?_
  refine va_newq hx hb hown (hts _ q1312) hK.2.2.2.2.2.2.2.2.2.2.2.2.2.2.2.2.2.2.2.2.1 hK.1 hP hD hS hA (N' := 15) (by decide) (by decide) (Nat.le_of_ble_eq_true rfl) (Nat.le_of_ble_eq_true rfl) (Nat.le_of_ble_eq_true rfl) dJ7_copyOf_6403c_7 (fun e2 cA H hK1 hP hD hS => ?_)
  have ec : cA = cy 4 := arr_same4 hK1
  subst ec
  have hP : va_P (dC, dI) classes ([(e, .inl (cy 4, 10, .inr (.inr (.inr (.inr (lf ad v 10)))))), (e2, .inl (cy 4, 15, .inr (.inr (.inr (.inr (fun _ => none))))))]) H := hP
  have hD : va_D A ([(e, .inl (cy 4, 10, .inr (.inr (.inr (.inr (lf ad v 10)))))), (e2, .inl (cy 4, 15, .inr (.inr (.inr (.inr (fun _ => none))))))]) := hD
  refine lv_goto (tgt := 24) hx hb dJ7_copyOf_6403c_10 (by decide) ?_
  refine lv_astore_n (lv' := [(3, .ref e2), (0, .ref e), (1, .int 15), (2, .ref mi)]) hx hb dJ7_copyOf_6403c_24 rfl hl (by decide) rfl (fun ls hl => ?_)
  refine lv_aload_n hx hb dJ7_copyOf_6403c_25 rfl (lv_at hl 1 rfl) ?_
  refine lv_iconst (v := 0) hx hb dJ7_copyOf_6403c_26 (by decide) ?_
  refine lv_aload_n hx hb dJ7_copyOf_6403c_27 rfl (lv_at hl 0 rfl) ?_
  refine lv_iconst (v := 0) hx hb dJ7_copyOf_6403c_28 (by decide) ?_
  refine lv_aload_n hx hb dJ7_copyOf_6403c_29 rfl (lv_at hl 1 rfl) ?_
  refine va_alen hx hb hK.1 hP 0 4 rfl rfl (v := Int32.ofNat 10) rfl dJ7_copyOf_6403c_30 ?_
  refine lv_iload_n hx hb dJ7_copyOf_6403c_31 rfl (lv_at hl 2 rfl) ?_
  refine va_mmin hx hb (by rw [hml]; exact hl.1.symm) hown (hts _ q1313) (hts _ q261) (hts _ q13) (hts _ q262) (Nat.le_of_ble_eq_true rfl) (Nat.le_of_ble_eq_true rfl) (Nat.le_of_ble_eq_true rfl) (Nat.le_of_ble_eq_true rfl) dJ7_copyOf_6403c_32 ?_
  refine W.eq (g2 := F0 m 35 ls [.int 10, .int 0, .ref e2, .int 0, .ref e]) (by first | rfl | decide) ?_
  refine va_copyq (C := "java/lang/Integer") hx hb (by rw [hml]; exact hl.1.symm) hown (hts _ q1314) hnat (hts _ q1315) (hts _ q29) hK.1 hP hD hS 0 1 4 4 rfl rfl rfl rfl (by decide) (by decide) (by decide) (by decide) (by decide) (fun i hi y hy => ?_) (fun comp c0 h1 h2 => vb_asgC (hK.2.2.2.2.2.2.2.2.2.2.1 _ (List.mem_of_getElem? (i := 11) rfl)) comp c0 h1 h2) (Nat.le_of_ble_eq_true rfl) (by decide) dJ7_copyOf_6403c_35 (fun H locs hP hD hS => ?_)
  · have hi9 : i < 10 := hi
    have hy9 : lf ad v 10 (0 + i) = some y := hy
    rw [Nat.zero_add, lf_at hi9] at hy9
    cases hy9
    exact box_at hZ hS (by have := hv9 i hi9; omega)
  simp only [List.set] at hP hD
  have ecp : va_cpy (lf ad v 10) (fun _ => none) (0 : Int32).toNatClampNeg (0 : Int32).toNatClampNeg (10 : Int32).toNatClampNeg = lf ad v 10 := lf_cpy ad v
  rw [ecp] at hP hD
  have hP : va_P (dC, dI) classes ([(e, .inl (cy 4, 10, .inr (.inr (.inr (.inr (lf ad v 10)))))), (e2, .inl (cy 4, 15, .inr (.inr (.inr (.inr (lf ad v 10))))))]) H := hP
  have hD : va_D A ([(e, .inl (cy 4, 10, .inr (.inr (.inr (.inr (lf ad v 10)))))), (e2, .inl (cy 4, 15, .inr (.inr (.inr (.inr (lf ad v 10))))))]) := hD
  refine lv_aload_n hx hb dJ7_copyOf_6403c_38 rfl (lv_at hl 0 rfl) ?_
  exact W.aret (v := .ref e2) hx hb hr (Or.inr ⟨_, rfl⟩) (Or.inr ⟨_, rfl⟩) (fun t ht hW => ⟨⟨(), e2, rfl, trivial, by rw [ht]; exact hP, hD⟩, hS.F ht⟩) hS.2.2 dJ7_copyOf_6403c_39
