theorem arr_recv {dC : Nat → ClassId} {dI : Nat → Nat → Nat} {cy : Nat → ClassId} {s : State} {H : Heap} {a n : Nat} {f : Nat → Option Nat} (hK : va_K (dC, dI) classes (tysX cy) s) (h : va_at (dC, dI) classes (a, .inl (cy 4, n, .inr (.inr (.inr (.inr f))))) H) :
    ∃ cell : Cell, H[a]? = some cell ∧ cell.vm.isStatics = false ∧ s.vm.findClass "[Ljava/lang/Object;" = some cell.cls := by
  obtain ⟨_, _, _, _, _, e1⟩ := (hK.2 4 (cy 4, .object "java/lang/Object") rfl).2
  exact ⟨_, h, rfl, e1⟩
theorem dJ7_copyOf_1904c_0 : decode cJ7_copyOf_1904c 0 = .ok (.aload_n 0, 1) := by decide +kernel
theorem dJ7_copyOf_1904c_1 : decode cJ7_copyOf_1904c 1 = .ok (.iload_n 1, 1) := by decide +kernel
theorem dJ7_copyOf_1904c_2 : decode cJ7_copyOf_1904c 2 = .ok (.aload_n 0, 1) := by decide +kernel
theorem dJ7_copyOf_1904c_3 : decode cJ7_copyOf_1904c 3 = .ok (.invokevirtual 86, 3) := by decide +kernel
theorem dJ7_copyOf_1904c_6 : decode cJ7_copyOf_1904c 6 = .ok (.invokestatic 300, 3) := by decide +kernel
theorem dJ7_copyOf_1904c_9 : decode cJ7_copyOf_1904c 9 = .ok (.areturn, 1) := by decide +kernel
theorem k_J7_copyOf_1904c : KS yJ7_copyOf_1904c cJ7_copyOf_1904c 2 (some (.array (.object "java/lang/Object"))) 2 := ⟨q1284, q23, q1285, by decide +kernel⟩
set_option maxHeartbeats 4000000 in
set_option maxRecDepth 100000 in
theorem m_J7_copyOf_1904c (l : Launch) (dC : Nat → ClassId) (dI : Nat → Nat → Nat) (cy : Nat → ClassId) (ad : Nat → Nat) (t2 tc sz : Nat) (e : Nat) (v : Nat → Nat) (hv9 : ∀ i, i < 10 → v i < 128) : Met l yJ7_copyOf_1904c (ws_ yJ7_copyOf_1904c cJ7_copyOf_1904c 2 (some (.array (.object "java/lang/Object")))) ({ frames := 2, cells := 1, slots := 15, locals := 90 } : Room) (va_Pc [.ref e, .int 15] (PcL dC dI cy t2 tc ad ([(e, .inl (cy 4, 10, .inr (.inr (.inr (.inr (lf ad v 10))))))]) sz)) (va_Qr (fun _ : Unit => True) (fun _ q t => va_P (dC, dI) classes ([(e, .inl (cy 4, 10, .inr (.inr (.inr (.inr (lf ad v 10)))))), (q, .inl (cy 4, 15, .inr (.inr (.inr (.inr (lf ad v 10))))))]) t.heap ∧ va_D (va_A ([(e, .inl (cy 4, 10, .inr (.inr (.inr (.inr (lf ad v 10))))))]) sz) ([(e, .inl (cy 4, 10, .inr (.inr (.inr (.inr (lf ad v 10)))))), (q, .inl (cy 4, 15, .inr (.inr (.inr (.inr (lf ad v 10))))))])) (va_A ([(e, .inl (cy 4, 10, .inr (.inr (.inr (.inr (lf ad v 10))))))]) sz)) 1 15 (va_A ([(e, .inl (cy 4, 10, .inr (.inr (.inr (.inr (lf ad v 10))))))]) sz) := by
  refine Met.ofCx (own := RJ7) (by decide) rfl (Nat.le_of_ble_eq_true rfl) ?_
  intro p e9 s m below meth c hC hv ls hl
  obtain ⟨hx, hb, hr, hml, hown, hts, hlocks⟩ := hC
  have hl : lv_has ls 2 [(0, .ref e), (1, .int 15)] := hl
  obtain ⟨hsz, hP, hK, hD0, hZ⟩ := hv
  subst hsz
  have hD := hD0.self (sz := s.heap.size)
  generalize hAe : va_A ([(e, .inl (cy 4, 10, .inr (.inr (.inr (.inr (lf ad v 10))))))]) s.heap.size = A at hD hZ ⊢
  have hA : ∀ q : Nat, s.heap.size ≤ q → A q := fun q h => by rw [← hAe]; exact Or.inr h
  have hS : va_S A s.heap s.heap [] := va_S.rf
  clear hAe
  refine lv_aload_n hx hb dJ7_copyOf_1904c_0 rfl (lv_at hl 0 rfl) ?_
  refine lv_iload_n hx hb dJ7_copyOf_1904c_1 rfl (lv_at hl 1 rfl) ?_
  refine lv_aload_n hx hb dJ7_copyOf_1904c_2 rfl (lv_at hl 0 rfl) ?_
  obtain ⟨mi, hM⟩ := hK.2.2.2.2.2.2.2.2.2.2.2.2.2.2.2.2.2.2.2.2.2.1
  refine va_getC (C := "[Ljava/lang/Object;") hx hb (by rw [hml]; exact hl.1.symm) hown (hts _ q1286) (va_Dc.use hK.2.2.2.2.2.2.2.2.2.2.2.2.2.2.2.2.2.2.2.2.2.2) (hts _ q1875) (hts _ q1287) (hts _ q1306) hM (arr_recv hK.1 (hP 0 _ rfl)) (Nat.le_of_ble_eq_true rfl) (Nat.le_of_ble_eq_true rfl) dJ7_copyOf_1904c_3 ?_
  have hPc := hP
  have hFc := va_free (wc := [(e, .inl (cy 4, 10, .inr (.inr (.inr (.inr (lf ad v 10))))))]) hD hS hA [0] rfl
  refine va_callr (va_runS (As := [.ref e, .int 15, .ref mi]) (rest := []) ⟨hx, hb, hml, hown, hts⟩ (m_J7_copyOf_6403c l dC dI cy ad t2 tc _ e mi v hv9) (cbS hts k_J7_copyOf_6403c q1307 ⟨rfl, rfl⟩ ⟨Nat.le_of_ble_eq_true rfl, Nat.le_of_ble_eq_true rfl⟩) ⟨fun a U g mk q => ⟨q.1, ⟨q.2.1.1, q.2.1.2.1, q.2.1.2.2.1.calling, q.2.1.2.2.2.1, q.2.1.2.2.2.2.moved (u := U) (U := U.calling g mk a) (Vm.Alike.refl U.vm)⟩, va_Mi.moved (u := U) (U := U.calling g mk a) (Vm.Alike.refl U.vm) q.2.2⟩, fun U hU hW => ⟨rfl, ⟨by rw [hU], by rw [hU]; exact hP, hK.warm hW, hD.weaken (fun _ _ _ _ => trivial), by rw [hU]; exact ((hZ.kept hS.2.1).narrow hFc).moved hW.alike⟩, va_Mi.moved hW.alike hM⟩⟩ rfl rfl hl.1 rfl (lv_room (Nat.le_of_ble_eq_true rfl)) dJ7_copyOf_1904c_6 ⟨Nat.le_of_ble_eq_true rfl, Nat.le_of_ble_eq_true rfl⟩) hS (fun q _ h => hFc q h) hFc (fun u e2 t H1 locs ht hvm hw hB hz1 hk1 hS => ?_)
  obtain ⟨hP1, hD1⟩ := hB
  rw [ht] at hP1
  have hP := hP1
  have hD := hD1.weaken (fun _ q _ h => hFc q.1 h)
  generalize H1 = H at hP hS ⊢
  exact W.aret (v := .ref e2) hx hb hr (Or.inr ⟨_, rfl⟩) (Or.inr ⟨_, rfl⟩) (fun t ht hW => ⟨⟨(), e2, rfl, trivial, by rw [ht]; exact hP, hD⟩, hS.F ht⟩) hS.2.2 dJ7_copyOf_1904c_9
theorem dJx4a65c_grow_92f84_0 : decode cJx4a65c_grow_92f84 0 = .ok (.aload_n 0, 1) := by decide +kernel
theorem dJx4a65c_grow_92f84_1 : decode cJx4a65c_grow_92f84 1 = .ok (.getfield 9, 3) := by decide +kernel
theorem dJx4a65c_grow_92f84_4 : decode cJx4a65c_grow_92f84 4 = .ok (.arraylength, 1) := by decide +kernel
theorem dJx4a65c_grow_92f84_5 : decode cJx4a65c_grow_92f84 5 = .ok (.istore_n 2, 1) := by decide +kernel
theorem dJx4a65c_grow_92f84_6 : decode cJx4a65c_grow_92f84 6 = .ok (.iload_n 2, 1) := by decide +kernel
theorem dJx4a65c_grow_92f84_7 : decode cJx4a65c_grow_92f84 7 = .ok (.ifCond .gt 13, 3) := by decide +kernel
theorem dJx4a65c_grow_92f84_10 : decode cJx4a65c_grow_92f84 10 = .ok (.aload_n 0, 1) := by decide +kernel
theorem dJx4a65c_grow_92f84_11 : decode cJx4a65c_grow_92f84 11 = .ok (.getfield 9, 3) := by decide +kernel
theorem dJx4a65c_grow_92f84_14 : decode cJx4a65c_grow_92f84 14 = .ok (.getstatic 39, 3) := by decide +kernel
theorem dJx4a65c_grow_92f84_17 : decode cJx4a65c_grow_92f84 17 = .ok (.if_acmp .eq 28, 3) := by decide +kernel
theorem dJx4a65c_grow_92f84_20 : decode cJx4a65c_grow_92f84 20 = .ok (.iload_n 2, 1) := by decide +kernel
theorem dJx4a65c_grow_92f84_21 : decode cJx4a65c_grow_92f84 21 = .ok (.iload_n 1, 1) := by decide +kernel
theorem dJx4a65c_grow_92f84_22 : decode cJx4a65c_grow_92f84 22 = .ok (.iload_n 2, 1) := by decide +kernel
theorem dJx4a65c_grow_92f84_23 : decode cJx4a65c_grow_92f84 23 = .ok (.isub, 1) := by decide +kernel
theorem dJx4a65c_grow_92f84_24 : decode cJx4a65c_grow_92f84 24 = .ok (.iload_n 2, 1) := by decide +kernel
theorem dJx4a65c_grow_92f84_25 : decode cJx4a65c_grow_92f84 25 = .ok (.iconst 1, 1) := by decide +kernel
theorem dJx4a65c_grow_92f84_26 : decode cJx4a65c_grow_92f84 26 = .ok (.ishr, 1) := by decide +kernel
theorem dJx4a65c_grow_92f84_27 : decode cJx4a65c_grow_92f84 27 = .ok (.invokestatic 73, 3) := by decide +kernel
theorem dJx4a65c_grow_92f84_30 : decode cJx4a65c_grow_92f84 30 = .ok (.istore_n 3, 1) := by decide +kernel
theorem dJx4a65c_grow_92f84_31 : decode cJx4a65c_grow_92f84 31 = .ok (.aload_n 0, 1) := by decide +kernel
theorem dJx4a65c_grow_92f84_32 : decode cJx4a65c_grow_92f84 32 = .ok (.aload_n 0, 1) := by decide +kernel
theorem dJx4a65c_grow_92f84_33 : decode cJx4a65c_grow_92f84 33 = .ok (.getfield 9, 3) := by decide +kernel
theorem dJx4a65c_grow_92f84_36 : decode cJx4a65c_grow_92f84 36 = .ok (.iload_n 3, 1) := by decide +kernel
theorem dJx4a65c_grow_92f84_37 : decode cJx4a65c_grow_92f84 37 = .ok (.invokestatic 66, 3) := by decide +kernel
theorem dJx4a65c_grow_92f84_40 : decode cJx4a65c_grow_92f84 40 = .ok (.dup_x1, 1) := by decide +kernel
theorem dJx4a65c_grow_92f84_41 : decode cJx4a65c_grow_92f84 41 = .ok (.putfield 9, 3) := by decide +kernel
theorem dJx4a65c_grow_92f84_44 : decode cJx4a65c_grow_92f84 44 = .ok (.areturn, 1) := by decide +kernel
theorem dJx4a65c_grow_92f84_45 : decode cJx4a65c_grow_92f84 45 = .ok (.aload_n 0, 1) := by decide +kernel
theorem dJx4a65c_grow_92f84_46 : decode cJx4a65c_grow_92f84 46 = .ok (.bipush 10, 2) := by decide +kernel
theorem dJx4a65c_grow_92f84_48 : decode cJx4a65c_grow_92f84 48 = .ok (.iload_n 1, 1) := by decide +kernel
theorem dJx4a65c_grow_92f84_49 : decode cJx4a65c_grow_92f84 49 = .ok (.invokestatic 79, 3) := by decide +kernel
theorem dJx4a65c_grow_92f84_52 : decode cJx4a65c_grow_92f84 52 = .ok (.anewarray 7, 3) := by decide +kernel
theorem dJx4a65c_grow_92f84_55 : decode cJx4a65c_grow_92f84 55 = .ok (.dup_x1, 1) := by decide +kernel
theorem dJx4a65c_grow_92f84_56 : decode cJx4a65c_grow_92f84 56 = .ok (.putfield 9, 3) := by decide +kernel
theorem dJx4a65c_grow_92f84_59 : decode cJx4a65c_grow_92f84 59 = .ok (.areturn, 1) := by decide +kernel
theorem k_Jx4a65c_grow_92f84 : KV RJx4a65c yJx4a65c_grow_92f84 cJx4a65c_grow_92f84 4 (some (.array (.object "java/lang/Object"))) 1 := ⟨q1273, qs41, q8, q1274, by decide +kernel⟩
set_option maxHeartbeats 4000000 in
set_option maxRecDepth 100000 in
theorem m_Jx4a65c_grow_92f84_B (l : Launch) (dC : Nat → ClassId) (dI : Nat → Nat → Nat) (cy : Nat → ClassId) (ad : Nat → Nat) (t2 tc a sz : Nat) (e : Nat) (mc : Int32) (v : Nat → Nat) (hv9 : ∀ i, i < 10 → v i < 128) : Met l yJx4a65c_grow_92f84 (ws_ yJx4a65c_grow_92f84 cJx4a65c_grow_92f84 4 (some (.array (.object "java/lang/Object")))) ({ frames := 3, cells := 1, slots := 15, locals := 125 } : Room) (va_Pc [.ref a, .int 11] (PcL dC dI cy t2 tc ad ([(a, .inr (5, [.int mc, .ref e, .int (nI 10)])), (e, .inl (cy 4, 10, .inr (.inr (.inr (.inr (lf ad v 10))))))]) sz)) (va_Qr (fun _ : Unit => True) (fun _ q t => va_P (dC, dI) classes ([(a, .inr (5, [.int mc, .ref q, .int (nI 10)])), (q, .inl (cy 4, 15, .inr (.inr (.inr (.inr (lf ad v 10))))))]) t.heap ∧ va_D (va_A ([(a, .inr (5, [.int mc, .ref e, .int (nI 10)])), (e, .inl (cy 4, 10, .inr (.inr (.inr (.inr (lf ad v 10))))))]) sz) ([(a, .inr (5, [.int mc, .ref q, .int (nI 10)])), (q, .inl (cy 4, 15, .inr (.inr (.inr (.inr (lf ad v 10))))))])) (va_A ([(a, .inr (5, [.int mc, .ref e, .int (nI 10)])), (e, .inl (cy 4, 10, .inr (.inr (.inr (.inr (lf ad v 10))))))]) sz)) 1 15 (va_A ([(a, .inr (5, [.int mc, .ref e, .int (nI 10)])), (e, .inl (cy 4, 10, .inr (.inr (.inr (.inr (lf ad v 10))))))]) sz) := by
  refine Met.ofCx (own := RJx4a65c) (by decide) rfl (Nat.le_of_ble_eq_true rfl) ?_
  intro p e9 s m below meth c hC hv ls hl
  obtain ⟨hx, hb, hr, hml, hown, hts, hlocks⟩ := hC
  have hl : lv_has ls 4 [(0, .ref a), (1, .int 11)] := hl
  obtain ⟨hsz, hP, hK, hD0, hZ⟩ := hv
  subst hsz
  have hD := hD0.self (sz := s.heap.size)
  generalize hAe : va_A ([(a, .inr (5, [.int mc, .ref e, .int (nI 10)])), (e, .inl (cy 4, 10, .inr (.inr (.inr (.inr (lf ad v 10))))))]) s.heap.size = A at hD hZ ⊢
  have hA : ∀ q : Nat, s.heap.size ≤ q → A q := fun q h => by rw [← hAe]; exact Or.inr h
  have hS : va_S A s.heap s.heap [] := va_S.rf
  clear hAe
  refine lv_aload_n hx hb dJx4a65c_grow_92f84_0 rfl (lv_at hl 0 rfl) ?_
  refine va_get (D := (dC, dI)) (ci := 5) (v := .ref e) (C := RJx4a65c) (T := TJx4a65c) (N := 3) hx hb hts in_Jx4a65c hown hK.1 hP 0 rfl rfl 1 (by decide) (hts _ q909) (fun _ h9 => h9) rfl dJx4a65c_grow_92f84_1 ?_
  refine va_alen hx hb hK.1 hP 1 4 rfl rfl (v := Int32.ofNat 10) rfl dJx4a65c_grow_92f84_4 ?_
  refine lv_istore_n (lv' := [(2, .int (Int32.ofNat 10)), (0, .ref a), (1, .int 11)]) hx hb dJx4a65c_grow_92f84_5 rfl hl (by decide) rfl (fun ls hl => ?_)
  refine lv_iload_n hx hb dJx4a65c_grow_92f84_6 rfl (lv_at hl 0 rfl) ?_
  refine lv_if_gt (tgt := 20) hx hb dJx4a65c_grow_92f84_7 (by decide) (fun cz => ?_) (fun cz => absurd ((show (0 : Int32) < Int32.ofNat 10 by decide)) cz)
  refine lv_iload_n hx hb dJx4a65c_grow_92f84_20 rfl (lv_at hl 0 rfl) ?_
  refine lv_iload_n hx hb dJx4a65c_grow_92f84_21 rfl (lv_at hl 2 rfl) ?_
  refine lv_iload_n hx hb dJx4a65c_grow_92f84_22 rfl (lv_at hl 0 rfl) ?_
  refine lv_isub hx hb dJx4a65c_grow_92f84_23 ?_
  refine lv_iload_n hx hb dJx4a65c_grow_92f84_24 rfl (lv_at hl 0 rfl) ?_
  refine lv_iconst (v := 1) hx hb dJx4a65c_grow_92f84_25 (by decide) ?_
  refine lv_ishr hx hb dJx4a65c_grow_92f84_26 ?_
  refine W.eq (g2 := F0 m 27 ls [.int 5, .int 1, .int 10]) (by first | rfl | decide) ?_
  refine cpSi (As := [.int 10, .int 1, .int 5]) (rest := []) ⟨hx, hb, hr, hml, hown, hts, hlocks⟩ (m_J8_newLength_cabcc l) k_J8_newLength_cabcc q1275 ⟨rfl, rfl⟩ ⟨Nat.le_of_ble_eq_true rfl, Nat.le_of_ble_eq_true rfl⟩ hl.1 rfl rfl (Nat.le_of_ble_eq_true rfl) dJx4a65c_grow_92f84_27 ⟨Nat.le_of_ble_eq_true rfl, Nat.le_of_ble_eq_true rfl⟩ (fun r hr9 => ?_)
  rw [hr9]
  refine lv_istore_n (lv' := [(3, .int 15), (2, .int (Int32.ofNat 10)), (0, .ref a), (1, .int 11)]) hx hb dJx4a65c_grow_92f84_30 rfl hl (by decide) rfl (fun ls hl => ?_)
  refine lv_aload_n hx hb dJx4a65c_grow_92f84_31 rfl (lv_at hl 2 rfl) ?_
  refine lv_aload_n hx hb dJx4a65c_grow_92f84_32 rfl (lv_at hl 2 rfl) ?_
  refine va_get (D := (dC, dI)) (ci := 5) (v := .ref e) (C := RJx4a65c) (T := TJx4a65c) (N := 3) hx hb hts in_Jx4a65c hown hK.1 hP 0 rfl rfl 1 (by decide) (hts _ q909) (fun _ h9 => h9) rfl dJx4a65c_grow_92f84_33 ?_
  refine lv_iload_n hx hb dJx4a65c_grow_92f84_36 rfl (lv_at hl 0 rfl) ?_
  have hPc := hP.sub (ws' := [(e, .inl (cy 4, 10, .inr (.inr (.inr (.inr (lf ad v 10))))))]) [1] rfl
  have hDc := hD.sub (ws' := [(e, .inl (cy 4, 10, .inr (.inr (.inr (.inr (lf ad v 10))))))]) [1] (by decide) rfl
  have hFc := va_free (wc := [(e, .inl (cy 4, 10, .inr (.inr (.inr (.inr (lf ad v 10))))))]) hD hS hA [1] rfl
  refine va_callr (va_runS (As := [.ref e, .int 15]) (rest := [.ref a]) ⟨hx, hb, hml, hown, hts⟩ (m_J7_copyOf_1904c l dC dI cy ad t2 tc _ e v hv9) (cbS hts k_J7_copyOf_1904c q1283 ⟨rfl, rfl⟩ ⟨Nat.le_of_ble_eq_true rfl, Nat.le_of_ble_eq_true rfl⟩) (preLS hK hPc hDc hZ hS hFc) rfl rfl hl.1 rfl (lv_room (Nat.le_of_ble_eq_true rfl)) dJx4a65c_grow_92f84_37 ⟨Nat.le_of_ble_eq_true rfl, Nat.le_of_ble_eq_true rfl⟩) hS (fun q _ h => hFc q h) hFc (fun u r37 t H1 locs ht hvm hw hB hz1 hk1 hS => ?_)
  obtain ⟨hP1, hD1⟩ := hB
  rw [ht] at hP1
  obtain ⟨hP, hD⟩ := va_join (wr := [(a, .inr (5, [.int mc, .ref e, .int (nI 10)]))]) (w1 := [(e, .inl (cy 4, 10, .inr (.inr (.inr (.inr (lf ad v 10)))))), (r37, .inl (cy 4, 15, .inr (.inr (.inr (.inr (lf ad v 10))))))]) hP hD [1] [0] rfl rfl (by decide) (by decide) hk1 hFc hP1 hD1
  generalize H1 = H at hP hS ⊢
  have hP : va_P (dC, dI) classes ([(a, .inr (5, [.int mc, .ref e, .int (nI 10)])), (e, .inl (cy 4, 10, .inr (.inr (.inr (.inr (lf ad v 10)))))), (r37, .inl (cy 4, 15, .inr (.inr (.inr (.inr (lf ad v 10))))))]) H := hP
  have hD : va_D A ([(a, .inr (5, [.int mc, .ref e, .int (nI 10)])), (e, .inl (cy 4, 10, .inr (.inr (.inr (.inr (lf ad v 10)))))), (r37, .inl (cy 4, 15, .inr (.inr (.inr (.inr (lf ad v 10))))))]) := hD
  refine lv_dup_x1 hx hb dJx4a65c_grow_92f84_40 rfl rfl ?_
  refine va_put (D := (dC, dI)) (ci := 5) (v := .ref r37) (ty := .array (.object "java/lang/Object")) (C := RJx4a65c) (T := TJx4a65c) (N := 3) hx hb hts in_Jx4a65c tyJx4a65c tyJx4a65c_ok nmJx4a65c hown hK.1 hP hD hS 0 rfl rfl 1 (by decide) (hts _ q909) (fun _ h9 => h9) rfl (by decide +kernel) rfl rfl (Nat.le_of_ble_eq_true rfl) dJx4a65c_grow_92f84_41 (fun H locs hP hD hS => ?_)
  have hP : va_P (dC, dI) classes ([(a, .inr (5, [.int mc, .ref r37, .int (nI 10)])), (e, .inl (cy 4, 10, .inr (.inr (.inr (.inr (lf ad v 10)))))), (r37, .inl (cy 4, 15, .inr (.inr (.inr (.inr (lf ad v 10))))))]) H := hP
  have hD : va_D A ([(a, .inr (5, [.int mc, .ref r37, .int (nI 10)])), (e, .inl (cy 4, 10, .inr (.inr (.inr (.inr (lf ad v 10)))))), (r37, .inl (cy 4, 15, .inr (.inr (.inr (.inr (lf ad v 10))))))]) := hD
  have hP9 := hP.sub (ws' := [(a, .inr (5, [.int mc, .ref r37, .int (nI 10)])), (r37, .inl (cy 4, 15, .inr (.inr (.inr (.inr (lf ad v 10))))))]) [0, 2] rfl
  have hD9 := hD.sub (ws' := [(a, .inr (5, [.int mc, .ref r37, .int (nI 10)])), (r37, .inl (cy 4, 15, .inr (.inr (.inr (.inr (lf ad v 10))))))]) [0, 2] (by decide) rfl
  exact W.aret (v := .ref r37) hx hb hr (Or.inr ⟨_, rfl⟩) (Or.inr ⟨_, rfl⟩) (fun t ht hW => ⟨⟨(), r37, rfl, trivial, by rw [ht]; exact hP9, hD9⟩, hS.F ht⟩) hS.2.2 dJx4a65c_grow_92f84_44
set_option maxHeartbeats 4000000 in
set_option maxRecDepth 100000 in
theorem m_Jx4a65c_grow_92f84_C (l : Launch) (dC : Nat → ClassId) (dI : Nat → Nat → Nat) (cy : Nat → ClassId) (ad : Nat → Nat) (t2 tc a sz : Nat) (mc : Int32) : Met l yJx4a65c_grow_92f84 (ws_ yJx4a65c_grow_92f84 cJx4a65c_grow_92f84 4 (some (.array (.object "java/lang/Object")))) ({ frames := 3, cells := 1, slots := 15, locals := 125 } : Room) (va_Pc [.ref a, .int 1] (PcL dC dI cy t2 tc ad ([(a, .inr (5, [.int mc, .ref t2, .int 0]))]) sz)) (va_Qr (fun _ : Unit => True) (fun _ q t => va_P (dC, dI) classes ([(a, .inr (5, [.int mc, .ref q, .int 0])), (q, .inl (cy 4, 10, .inr (.inr (.inr (.inr (fun _ => none))))))]) t.heap ∧ va_D (va_A ([(a, .inr (5, [.int mc, .ref t2, .int 0]))]) sz) ([(a, .inr (5, [.int mc, .ref q, .int 0])), (q, .inl (cy 4, 10, .inr (.inr (.inr (.inr (fun _ => none))))))])) (va_A ([(a, .inr (5, [.int mc, .ref t2, .int 0]))]) sz)) 1 15 (va_A ([(a, .inr (5, [.int mc, .ref t2, .int 0]))]) sz) := by
  refine Met.ofCx (own := RJx4a65c) (by decide) rfl (Nat.le_of_ble_eq_true rfl) ?_
  intro p e9 s m below meth c hC hv ls hl
  obtain ⟨hx, hb, hr, hml, hown, hts, hlocks⟩ := hC
  have hl : lv_has ls 4 [(0, .ref a), (1, .int 1)] := hl
  obtain ⟨hsz, hP, hK, hD0, hZ⟩ := hv
  subst hsz
  have hD := hD0.self (sz := s.heap.size)
  generalize hAe : va_A ([(a, .inr (5, [.int mc, .ref t2, .int 0]))]) s.heap.size = A at hD hZ ⊢
  have hA : ∀ q : Nat, s.heap.size ≤ q → A q := fun q h => by rw [← hAe]; exact Or.inr h
  have hS : va_S A s.heap s.heap [] := va_S.rf
  clear hAe
  refine lv_aload_n hx hb dJx4a65c_grow_92f84_0 rfl (lv_at hl 0 rfl) ?_
  refine va_get (D := (dC, dI)) (ci := 5) (v := .ref t2) (C := RJx4a65c) (T := TJx4a65c) (N := 3) hx hb hts in_Jx4a65c hown hK.1 hP 0 rfl rfl 1 (by decide) (hts _ q909) (fun _ h9 => h9) rfl dJx4a65c_grow_92f84_1 ?_
  refine va_tlen hx hb hZ.2.1 hS (v := 0) rfl dJx4a65c_grow_92f84_4 ?_
  refine lv_istore_n (lv' := [(2, .int 0), (0, .ref a), (1, .int 1)]) hx hb dJx4a65c_grow_92f84_5 rfl hl (by decide) rfl (fun ls hl => ?_)
  refine lv_iload_n hx hb dJx4a65c_grow_92f84_6 rfl (lv_at hl 0 rfl) ?_
  refine lv_if_gt (tgt := 20) hx hb dJx4a65c_grow_92f84_7 (by decide) (fun cz => absurd cz ((by decide : ¬ (0 : Int32) < 0))) (fun cz => ?_)
  refine lv_aload_n hx hb dJx4a65c_grow_92f84_10 rfl (lv_at hl 1 rfl) ?_
  refine va_get (D := (dC, dI)) (ci := 5) (v := .ref t2) (C := RJx4a65c) (T := TJx4a65c) (N := 3) hx hb hts in_Jx4a65c hown hK.1 hP 0 rfl rfl 1 (by decide) (hts _ q909) (fun _ h9 => h9) rfl dJx4a65c_grow_92f84_11 ?_
  refine va_gets hx hb hZ.1 hS hown (hts _ q907) (fun _ h9 => h9) dJx4a65c_grow_92f84_14 ?_
  refine lv_acmp_eq (rx := some (t2)) (ry := some (t2)) (tgt := 45) hx hb dJx4a65c_grow_92f84_17 (by decide) (fun cz => ?_) (fun cz => absurd (rfl) cz)
  refine lv_aload_n hx hb dJx4a65c_grow_92f84_45 rfl (lv_at hl 1 rfl) ?_
  refine lv_bipush (v := 10) hx hb dJx4a65c_grow_92f84_46 (by decide) ?_
  refine lv_iload_n hx hb dJx4a65c_grow_92f84_48 rfl (lv_at hl 2 rfl) ?_
  refine va_mmax hx hb (by rw [hml]; exact hl.1.symm) hown (hts _ q1317) (hts _ q1047) (hts _ q13) (hts _ q1048) (Nat.le_of_ble_eq_true rfl) (Nat.le_of_ble_eq_true rfl) (Nat.le_of_ble_eq_true rfl) (Nat.le_of_ble_eq_true rfl) dJx4a65c_grow_92f84_49 ?_
  refine W.eq (g2 := F0 m 52 ls [.int 10, .ref a]) (by first | rfl | decide) ?_
  refine va_newq hx hb hown (hts _ q1318) hK.2.2.2.2.2.2.2.2.2.2.2.2.2.2.2.2.2.2.2.2.1 hK.1 hP hD hS hA (N' := 10) (by decide) (by decide) (Nat.le_of_ble_eq_true rfl) (Nat.le_of_ble_eq_true rfl) (Nat.le_of_ble_eq_true rfl) dJx4a65c_grow_92f84_52 (fun e2 cA H hK1 hP hD hS => ?_)
  have ec : cA = cy 4 := arr_same4 hK1
  subst ec
  have hP : va_P (dC, dI) classes ([(a, .inr (5, [.int mc, .ref t2, .int 0])), (e2, .inl (cy 4, 10, .inr (.inr (.inr (.inr (fun _ => none))))))]) H := hP
  have hD : va_D A ([(a, .inr (5, [.int mc, .ref t2, .int 0])), (e2, .inl (cy 4, 10, .inr (.inr (.inr (.inr (fun _ => none))))))]) := hD
  refine lv_dup_x1 hx hb dJx4a65c_grow_92f84_55 rfl rfl ?_
  refine va_put (D := (dC, dI)) (ci := 5) (v := .ref e2) (ty := .array (.object "java/lang/Object")) (C := RJx4a65c) (T := TJx4a65c) (N := 3) hx hb hts in_Jx4a65c tyJx4a65c tyJx4a65c_ok nmJx4a65c hown hK.1 hP hD hS 0 rfl rfl 1 (by decide) (hts _ q909) (fun _ h9 => h9) rfl (by decide +kernel) rfl rfl (Nat.le_of_ble_eq_true rfl) dJx4a65c_grow_92f84_56 (fun H locs hP hD hS => ?_)
  have hP : va_P (dC, dI) classes ([(a, .inr (5, [.int mc, .ref e2, .int 0])), (e2, .inl (cy 4, 10, .inr (.inr (.inr (.inr (fun _ => none))))))]) H := hP
  have hD : va_D A ([(a, .inr (5, [.int mc, .ref e2, .int 0])), (e2, .inl (cy 4, 10, .inr (.inr (.inr (.inr (fun _ => none))))))]) := hD
  refine W.widen (k := 1) (n := 15) (Nat.le_of_ble_eq_true rfl) (Nat.le_of_ble_eq_true rfl) ?_
  exact W.aret (v := .ref e2) hx hb hr (Or.inr ⟨_, rfl⟩) (Or.inr ⟨_, rfl⟩) (fun t ht hW => ⟨⟨(), e2, rfl, trivial, by rw [ht]; exact hP, hD⟩, hS.F ht⟩) hS.2.2 dJx4a65c_grow_92f84_59
theorem dJx4a65c_grow_d5877_0 : decode cJx4a65c_grow_d5877 0 = .ok (.aload_n 0, 1) := by decide +kernel
theorem dJx4a65c_grow_d5877_1 : decode cJx4a65c_grow_d5877 1 = .ok (.aload_n 0, 1) := by decide +kernel
theorem dJx4a65c_grow_d5877_2 : decode cJx4a65c_grow_d5877 2 = .ok (.getfield 48, 3) := by decide +kernel
theorem dJx4a65c_grow_d5877_5 : decode cJx4a65c_grow_d5877 5 = .ok (.iconst 1, 1) := by decide +kernel
theorem dJx4a65c_grow_d5877_6 : decode cJx4a65c_grow_d5877 6 = .ok (.iadd, 1) := by decide +kernel
theorem dJx4a65c_grow_d5877_7 : decode cJx4a65c_grow_d5877 7 = .ok (.invokevirtual 69, 3) := by decide +kernel
theorem dJx4a65c_grow_d5877_10 : decode cJx4a65c_grow_d5877 10 = .ok (.areturn, 1) := by decide +kernel
theorem k_Jx4a65c_grow_d5877 : KV RJx4a65c yJx4a65c_grow_d5877 cJx4a65c_grow_d5877 1 (some (.array (.object "java/lang/Object"))) 0 := ⟨q1269, qs40, q8, q1270, by decide +kernel⟩
set_option maxHeartbeats 4000000 in
set_option maxRecDepth 100000 in
theorem m_Jx4a65c_grow_d5877_B (l : Launch) (dC : Nat → ClassId) (dI : Nat → Nat → Nat) (cy : Nat → ClassId) (ad : Nat → Nat) (t2 tc a sz : Nat) (e : Nat) (mc : Int32) (v : Nat → Nat) (hv9 : ∀ i, i < 10 → v i < 128) : Met l yJx4a65c_grow_d5877 (ws_ yJx4a65c_grow_d5877 cJx4a65c_grow_d5877 1 (some (.array (.object "java/lang/Object")))) ({ frames := 4, cells := 1, slots := 15, locals := 150 } : Room) (va_Pc [.ref a] (PcL dC dI cy t2 tc ad ([(a, .inr (5, [.int mc, .ref e, .int (nI 10)])), (e, .inl (cy 4, 10, .inr (.inr (.inr (.inr (lf ad v 10))))))]) sz)) (va_Qr (fun _ : Unit => True) (fun _ q t => va_P (dC, dI) classes ([(a, .inr (5, [.int mc, .ref q, .int (nI 10)])), (q, .inl (cy 4, 15, .inr (.inr (.inr (.inr (lf ad v 10))))))]) t.heap ∧ va_D (va_A ([(a, .inr (5, [.int mc, .ref e, .int (nI 10)])), (e, .inl (cy 4, 10, .inr (.inr (.inr (.inr (lf ad v 10))))))]) sz) ([(a, .inr (5, [.int mc, .ref q, .int (nI 10)])), (q, .inl (cy 4, 15, .inr (.inr (.inr (.inr (lf ad v 10))))))])) (va_A ([(a, .inr (5, [.int mc, .ref e, .int (nI 10)])), (e, .inl (cy 4, 10, .inr (.inr (.inr (.inr (lf ad v 10))))))]) sz)) 1 15 (va_A ([(a, .inr (5, [.int mc, .ref e, .int (nI 10)])), (e, .inl (cy 4, 10, .inr (.inr (.inr (.inr (lf ad v 10))))))]) sz) := by
  refine Met.ofCx (own := RJx4a65c) (by decide) rfl (Nat.le_of_ble_eq_true rfl) ?_
  intro p e9 s m below meth c hC hv ls hl
  obtain ⟨hx, hb, hr, hml, hown, hts, hlocks⟩ := hC
  have hl : lv_has ls 1 [(0, .ref a)] := hl
  obtain ⟨hsz, hP, hK, hD0, hZ⟩ := hv
  subst hsz
  have hD := hD0.self (sz := s.heap.size)
  generalize hAe : va_A ([(a, .inr (5, [.int mc, .ref e, .int (nI 10)])), (e, .inl (cy 4, 10, .inr (.inr (.inr (.inr (lf ad v 10))))))]) s.heap.size = A at hD hZ ⊢
  have hA : ∀ q : Nat, s.heap.size ≤ q → A q := fun q h => by rw [← hAe]; exact Or.inr h
  have hS : va_S A s.heap s.heap [] := va_S.rf
  clear hAe
  refine lv_aload_n hx hb dJx4a65c_grow_d5877_0 rfl (lv_at hl 0 rfl) ?_
  refine lv_aload_n hx hb dJx4a65c_grow_d5877_1 rfl (lv_at hl 0 rfl) ?_
  refine va_get (D := (dC, dI)) (ci := 5) (v := .int (nI 10)) (C := RJx4a65c) (T := TJx4a65c) (N := 3) hx hb hts in_Jx4a65c hown hK.1 hP 0 rfl rfl 2 (by decide) (hts _ q912) (fun _ h9 => h9) rfl dJx4a65c_grow_d5877_2 ?_
  refine lv_iconst (v := 1) hx hb dJx4a65c_grow_d5877_5 (by decide) ?_
  refine lv_iadd hx hb dJx4a65c_grow_d5877_6 ?_
  rw [show ((nI 10) + 1 : Int32) = 11 from (by decide)]
  have hPc := hP.sub (ws' := [(a, .inr (5, [.int mc, .ref e, .int (nI 10)])), (e, .inl (cy 4, 10, .inr (.inr (.inr (.inr (lf ad v 10))))))]) [0, 1] rfl
  have hDc := hD.sub (ws' := [(a, .inr (5, [.int mc, .ref e, .int (nI 10)])), (e, .inl (cy 4, 10, .inr (.inr (.inr (.inr (lf ad v 10))))))]) [0, 1] (by decide) rfl
  have hFc := va_free (wc := [(a, .inr (5, [.int mc, .ref e, .int (nI 10)])), (e, .inl (cy 4, 10, .inr (.inr (.inr (.inr (lf ad v 10))))))]) hD hS hA [0, 1] rfl
  refine va_callr (va_runV (As := [.int 11]) (rest := []) ⟨hx, hb, hml, hown, hts⟩ (m_Jx4a65c_grow_92f84_B l dC dI cy ad t2 tc a _ e mc v hv9) (cbV hts k_Jx4a65c_grow_92f84 q1271 ⟨rfl, rfl⟩ ⟨Nat.le_of_ble_eq_true rfl, Nat.le_of_ble_eq_true rfl⟩) (preL 0 hK hPc hDc rfl rfl hZ hS hFc) rfl rfl hl.1 rfl (lv_room (Nat.le_of_ble_eq_true rfl)) dJx4a65c_grow_d5877_7 ⟨Nat.le_of_ble_eq_true rfl, Nat.le_of_ble_eq_true rfl⟩) hS (fun q _ h => hFc q h) hFc (fun u r7 t H1 locs ht hvm hw hB hz1 hk1 hS => ?_)
  obtain ⟨hP1, hD1⟩ := hB
  rw [ht] at hP1
  obtain ⟨hP, hD⟩ := va_join (wr := []) (w1 := [(a, .inr (5, [.int mc, .ref r7, .int (nI 10)])), (r7, .inl (cy 4, 15, .inr (.inr (.inr (.inr (lf ad v 10))))))]) hP hD [0, 1] [] rfl rfl (by decide) (by decide) hk1 hFc hP1 hD1
  generalize H1 = H at hP hS ⊢
  have hP : va_P (dC, dI) classes ([(a, .inr (5, [.int mc, .ref r7, .int (nI 10)])), (r7, .inl (cy 4, 15, .inr (.inr (.inr (.inr (lf ad v 10))))))]) H := hP
  have hD : va_D A ([(a, .inr (5, [.int mc, .ref r7, .int (nI 10)])), (r7, .inl (cy 4, 15, .inr (.inr (.inr (.inr (lf ad v 10))))))]) := hD
  exact W.aret (v := .ref r7) hx hb hr (Or.inr ⟨_, rfl⟩) (Or.inr ⟨_, rfl⟩) (fun t ht hW => ⟨⟨(), r7, rfl, trivial, by rw [ht]; exact hP, hD⟩, hS.F ht⟩) hS.2.2 dJx4a65c_grow_d5877_10
set_option maxHeartbeats 4000000 in
set_option maxRecDepth 100000 in
theorem m_Jx4a65c_grow_d5877_C (l : Launch) (dC : Nat → ClassId) (dI : Nat → Nat → Nat) (cy : Nat → ClassId) (ad : Nat → Nat) (t2 tc a sz : Nat) (mc : Int32) : Met l yJx4a65c_grow_d5877 (ws_ yJx4a65c_grow_d5877 cJx4a65c_grow_d5877 1 (some (.array (.object "java/lang/Object")))) ({ frames := 4, cells := 1, slots := 15, locals := 150 } : Room) (va_Pc [.ref a] (PcL dC dI cy t2 tc ad ([(a, .inr (5, [.int mc, .ref t2, .int 0]))]) sz)) (va_Qr (fun _ : Unit => True) (fun _ q t => va_P (dC, dI) classes ([(a, .inr (5, [.int mc, .ref q, .int 0])), (q, .inl (cy 4, 10, .inr (.inr (.inr (.inr (fun _ => none))))))]) t.heap ∧ va_D (va_A ([(a, .inr (5, [.int mc, .ref t2, .int 0]))]) sz) ([(a, .inr (5, [.int mc, .ref q, .int 0])), (q, .inl (cy 4, 10, .inr (.inr (.inr (.inr (fun _ => none))))))])) (va_A ([(a, .inr (5, [.int mc, .ref t2, .int 0]))]) sz)) 1 15 (va_A ([(a, .inr (5, [.int mc, .ref t2, .int 0]))]) sz) := by
  refine Met.ofCx (own := RJx4a65c) (by decide) rfl (Nat.le_of_ble_eq_true rfl) ?_
  intro p e9 s m below meth c hC hv ls hl
  obtain ⟨hx, hb, hr, hml, hown, hts, hlocks⟩ := hC
  have hl : lv_has ls 1 [(0, .ref a)] := hl
  obtain ⟨hsz, hP, hK, hD0, hZ⟩ := hv
  subst hsz
  have hD := hD0.self (sz := s.heap.size)
  generalize hAe : va_A ([(a, .inr (5, [.int mc, .ref t2, .int 0]))]) s.heap.size = A at hD hZ ⊢
  have hA : ∀ q : Nat, s.heap.size ≤ q → A q := fun q h => by rw [← hAe]; exact Or.inr h
  have hS : va_S A s.heap s.heap [] := va_S.rf
  clear hAe
  refine lv_aload_n hx hb dJx4a65c_grow_d5877_0 rfl (lv_at hl 0 rfl) ?_
  refine lv_aload_n hx hb dJx4a65c_grow_d5877_1 rfl (lv_at hl 0 rfl) ?_
  refine va_get (D := (dC, dI)) (ci := 5) (v := .int 0) (C := RJx4a65c) (T := TJx4a65c) (N := 3) hx hb hts in_Jx4a65c hown hK.1 hP 0 rfl rfl 2 (by decide) (hts _ q912) (fun _ h9 => h9) rfl dJx4a65c_grow_d5877_2 ?_
  refine lv_iconst (v := 1) hx hb dJx4a65c_grow_d5877_5 (by decide) ?_
  refine lv_iadd hx hb dJx4a65c_grow_d5877_6 ?_
  rw [show (0 + 1 : Int32) = 1 from (by decide)]
  have hPc := hP.sub (ws' := [(a, .inr (5, [.int mc, .ref t2, .int 0]))]) [0] rfl
  have hDc := hD.sub (ws' := [(a, .inr (5, [.int mc, .ref t2, .int 0]))]) [0] (by decide) rfl
  have hFc := va_free (wc := [(a, .inr (5, [.int mc, .ref t2, .int 0]))]) hD hS hA [0] rfl
  refine va_callr (va_runV (As := [.int 1]) (rest := []) ⟨hx, hb, hml, hown, hts⟩ (m_Jx4a65c_grow_92f84_C l dC dI cy ad t2 tc a _ mc) (cbV hts k_Jx4a65c_grow_92f84 q1271 ⟨rfl, rfl⟩ ⟨Nat.le_of_ble_eq_true rfl, Nat.le_of_ble_eq_true rfl⟩) (preL 0 hK hPc hDc rfl rfl hZ hS hFc) rfl rfl hl.1 rfl (lv_room (Nat.le_of_ble_eq_true rfl)) dJx4a65c_grow_d5877_7 ⟨Nat.le_of_ble_eq_true rfl, Nat.le_of_ble_eq_true rfl⟩) hS (fun q _ h => hFc q h) hFc (fun u r7 t H1 locs ht hvm hw hB hz1 hk1 hS => ?_)
  obtain ⟨hP1, hD1⟩ := hB
  rw [ht] at hP1
  obtain ⟨hP, hD⟩ := va_join (wr := []) (w1 := [(a, .inr (5, [.int mc, .ref r7, .int 0])), (r7, .inl (cy 4, 10, .inr (.inr (.inr (.inr (fun _ => none))))))]) hP hD [0] [] rfl rfl (by decide) (by decide) hk1 hFc hP1 hD1
  generalize H1 = H at hP hS ⊢
  have hP : va_P (dC, dI) classes ([(a, .inr (5, [.int mc, .ref r7, .int 0])), (r7, .inl (cy 4, 10, .inr (.inr (.inr (.inr (fun _ => none))))))]) H := hP
  have hD : va_D A ([(a, .inr (5, [.int mc, .ref r7, .int 0])), (r7, .inl (cy 4, 10, .inr (.inr (.inr (.inr (fun _ => none))))))]) := hD
  exact W.aret (v := .ref r7) hx hb hr (Or.inr ⟨_, rfl⟩) (Or.inr ⟨_, rfl⟩) (fun t ht hW => ⟨⟨(), r7, rfl, trivial, by rw [ht]; exact hP, hD⟩, hS.F ht⟩) hS.2.2 dJx4a65c_grow_d5877_10
theorem dJx4a65c_add_72be8_0 : decode cJx4a65c_add_72be8 0 = .ok (.iload_n 3, 1) := by decide +kernel
theorem dJx4a65c_add_72be8_1 : decode cJx4a65c_add_72be8 1 = .ok (.aload_n 2, 1) := by decide +kernel
theorem dJx4a65c_add_72be8_2 : decode cJx4a65c_add_72be8 2 = .ok (.arraylength, 1) := by decide +kernel
theorem dJx4a65c_add_72be8_3 : decode cJx4a65c_add_72be8 3 = .ok (.if_icmp .ne 8, 3) := by decide +kernel
theorem dJx4a65c_add_72be8_6 : decode cJx4a65c_add_72be8 6 = .ok (.aload_n 0, 1) := by decide +kernel
theorem dJx4a65c_add_72be8_7 : decode cJx4a65c_add_72be8 7 = .ok (.invokevirtual 129, 3) := by decide +kernel
theorem dJx4a65c_add_72be8_10 : decode cJx4a65c_add_72be8 10 = .ok (.astore_n 2, 1) := by decide +kernel
theorem dJx4a65c_add_72be8_11 : decode cJx4a65c_add_72be8 11 = .ok (.aload_n 2, 1) := by decide +kernel
theorem dJx4a65c_add_72be8_12 : decode cJx4a65c_add_72be8 12 = .ok (.iload_n 3, 1) := by decide +kernel
theorem dJx4a65c_add_72be8_13 : decode cJx4a65c_add_72be8 13 = .ok (.aload_n 1, 1) := by decide +kernel
theorem dJx4a65c_add_72be8_14 : decode cJx4a65c_add_72be8 14 = .ok (.aastore, 1) := by decide +kernel
theorem dJx4a65c_add_72be8_15 : decode cJx4a65c_add_72be8 15 = .ok (.aload_n 0, 1) := by decide +kernel
theorem dJx4a65c_add_72be8_16 : decode cJx4a65c_add_72be8 16 = .ok (.iload_n 3, 1) := by decide +kernel
theorem dJx4a65c_add_72be8_17 : decode cJx4a65c_add_72be8 17 = .ok (.iconst 1, 1) := by decide +kernel
theorem dJx4a65c_add_72be8_18 : decode cJx4a65c_add_72be8 18 = .ok (.iadd, 1) := by decide +kernel
theorem dJx4a65c_add_72be8_19 : decode cJx4a65c_add_72be8 19 = .ok (.putfield 48, 3) := by decide +kernel
theorem dJx4a65c_add_72be8_22 : decode cJx4a65c_add_72be8 22 = .ok (.return_, 1) := by decide +kernel
theorem k_Jx4a65c_add_72be8 : KV RJx4a65c yJx4a65c_add_72be8 cJx4a65c_add_72be8 4 none 3 := ⟨q1265, qs39, q8, q1266, by decide +kernel⟩
set_option maxHeartbeats 4000000 in
set_option maxRecDepth 100000 in
theorem m_Jx4a65c_add_72be8_A (l : Launch) (dC : Nat → ClassId) (dI : Nat → Nat → Nat) (cy : Nat → ClassId) (ad : Nat → Nat) (t2 tc a sz : Nat) (e cap : Nat) (mc : Int32) (v : Nat → Nat) (n k : Nat) (hn : n < cap) (hc : cap = 10 ∨ cap = 15) (hk : k < 128) : Met l yJx4a65c_add_72be8 (ws_ yJx4a65c_add_72be8 cJx4a65c_add_72be8 4 none) ({ frames := 5, cells := 1, slots := 15, locals := 180 } : Room) (va_Pc [.ref a, .ref (ad (k + 128)), .ref e, .int (nI n)] (PcL dC dI cy t2 tc ad ([(a, .inr (5, [.int mc, .ref e, .int (nI n)])), (e, .inl (cy 4, cap, .inr (.inr (.inr (.inr (lf ad v n))))))]) sz)) (va_Qv (fun u : Nat × Nat => (n + 1) ≤ u.2 ∧ (u.2 = 10 ∨ u.2 = 15)) (fun u t => va_P (dC, dI) classes ([(a, .inr (5, [.int mc, .ref u.1, .int (nI (n + 1))])), (u.1, .inl (cy 4, u.2, .inr (.inr (.inr (.inr (lf ad (upN v n k) (n + 1)))))))]) t.heap ∧ va_D (va_A ([(a, .inr (5, [.int mc, .ref e, .int (nI n)])), (e, .inl (cy 4, cap, .inr (.inr (.inr (.inr (lf ad v n))))))]) sz) ([(a, .inr (5, [.int mc, .ref u.1, .int (nI (n + 1))])), (u.1, .inl (cy 4, u.2, .inr (.inr (.inr (.inr (lf ad (upN v n k) (n + 1)))))))])) (va_A ([(a, .inr (5, [.int mc, .ref e, .int (nI n)])), (e, .inl (cy 4, cap, .inr (.inr (.inr (.inr (lf ad v n))))))]) sz)) 1 15 (va_A ([(a, .inr (5, [.int mc, .ref e, .int (nI n)])), (e, .inl (cy 4, cap, .inr (.inr (.inr (.inr (lf ad v n))))))]) sz) := by
  refine Met.ofCx (own := RJx4a65c) (by decide) rfl (Nat.le_of_ble_eq_true rfl) ?_
  intro p e9 s m below meth c hC hv ls hl
  obtain ⟨hx, hb, hr, hml, hown, hts, hlocks⟩ := hC
  have hl : lv_has ls 4 [(0, .ref a), (1, .ref (ad (k + 128))), (2, .ref e), (3, .int (nI n))] := hl
  obtain ⟨hsz, hP, hK, hD0, hZ⟩ := hv
  subst hsz
  have hD := hD0.self (sz := s.heap.size)
  generalize hAe : va_A ([(a, .inr (5, [.int mc, .ref e, .int (nI n)])), (e, .inl (cy 4, cap, .inr (.inr (.inr (.inr (lf ad v n))))))]) s.heap.size = A at hD hZ ⊢
  have hA : ∀ q : Nat, s.heap.size ≤ q → A q := fun q h => by rw [← hAe]; exact Or.inr h
  have hS : va_S A s.heap s.heap [] := va_S.rf
  clear hAe
  refine lv_iload_n hx hb dJx4a65c_add_72be8_0 rfl (lv_at hl 3 rfl) ?_
  refine lv_aload_n hx hb dJx4a65c_add_72be8_1 rfl (lv_at hl 2 rfl) ?_
  refine va_alen hx hb hK.1 hP 1 4 rfl rfl (v := Int32.ofNat cap) rfl dJx4a65c_add_72be8_2 ?_
  refine lv_icmp_ne (tgt := 11) hx hb dJx4a65c_add_72be8_3 (by decide) (fun cz => ?_) (fun cz => absurd cz (fun z => absurd ((nI_eq (b := cap) (by omega) (by omega)).mp z) (by omega)))
  refine lv_aload_n hx hb dJx4a65c_add_72be8_11 rfl (lv_at hl 2 rfl) ?_
  refine lv_iload_n hx hb dJx4a65c_add_72be8_12 rfl (lv_at hl 3 rfl) ?_
  refine lv_aload_n hx hb dJx4a65c_add_72be8_13 rfl (lv_at hl 1 rfl) ?_
  refine vb_astq (C := "java/lang/Integer") hx hb hK.1 hP hD hS 1 4 rfl rfl (box_at hZ hS (by omega)) (fun comp c0 h1 h2 => vb_asgC (hK.2.2.2.2.2.2.2.2.2.2.1 _ (List.mem_of_getElem? (i := 11) rfl)) comp c0 h1 h2) (vp_in_nI (by omega) (by omega)) dJx4a65c_add_72be8_14 (fun H locs hP hD hS => ?_)
  simp only [List.set] at hP hD
  rw [show va_up (lf ad v n) (nI n).toNatClampNeg (some ((ad (k + 128)))) = lf ad (upN v n k) (n + 1) from by rw [nI_clamp (by omega)]; exact lf_add ad v n k] at hP hD
  have hP : va_P (dC, dI) classes ([(a, .inr (5, [.int mc, .ref e, .int (nI n)])), (e, .inl (cy 4, cap, .inr (.inr (.inr (.inr (lf ad (upN v n k) (n + 1)))))))]) H := hP
  have hD : va_D A ([(a, .inr (5, [.int mc, .ref e, .int (nI n)])), (e, .inl (cy 4, cap, .inr (.inr (.inr (.inr (lf ad (upN v n k) (n + 1)))))))]) := hD
  refine lv_aload_n hx hb dJx4a65c_add_72be8_15 rfl (lv_at hl 0 rfl) ?_
  refine lv_iload_n hx hb dJx4a65c_add_72be8_16 rfl (lv_at hl 3 rfl) ?_
  refine lv_iconst (v := 1) hx hb dJx4a65c_add_72be8_17 (by decide) ?_
  refine lv_iadd hx hb dJx4a65c_add_72be8_18 ?_
  rw [show ((nI n) + 1 : Int32) = nI (n + 1) from nI_1 n]
  refine va_put (D := (dC, dI)) (ci := 5) (v := .int (nI (n + 1))) (ty := .int) (C := RJx4a65c) (T := TJx4a65c) (N := 3) hx hb hts in_Jx4a65c tyJx4a65c tyJx4a65c_ok nmJx4a65c hown hK.1 hP hD hS 0 rfl rfl 2 (by decide) (hts _ q912) (fun _ h9 => h9) rfl (by decide +kernel) rfl rfl (Nat.le_of_ble_eq_true rfl) dJx4a65c_add_72be8_19 (fun H locs hP hD hS => ?_)
  have hP : va_P (dC, dI) classes ([(a, .inr (5, [.int mc, .ref e, .int (nI (n + 1))])), (e, .inl (cy 4, cap, .inr (.inr (.inr (.inr (lf ad (upN v n k) (n + 1)))))))]) H := hP
  have hD : va_D A ([(a, .inr (5, [.int mc, .ref e, .int (nI (n + 1))])), (e, .inl (cy 4, cap, .inr (.inr (.inr (.inr (lf ad (upN v n k) (n + 1)))))))]) := hD
  refine W.widen (k := 1) (n := 15) (Nat.le_of_ble_eq_true rfl) (Nat.le_of_ble_eq_true rfl) ?_
  have hP : va_P (dC, dI) classes ([(a, .inr (5, [.int mc, .ref e, .int (nI (n + 1))])), (e, .inl (cy 4, cap, .inr (.inr (.inr (.inr (lf ad (upN v n k) (n + 1)))))))]) H := hP
  exact W.vret hx hb hr (fun t ht hW => ⟨⟨(e, cap), rfl, ⟨by omega, hc⟩, by rw [ht]; exact hP, hD⟩, hS.F ht⟩) hS.2.2 dJx4a65c_add_72be8_22
set_option maxHeartbeats 4000000 in
set_option maxRecDepth 100000 in
theorem m_Jx4a65c_add_72be8_B (l : Launch) (dC : Nat → ClassId) (dI : Nat → Nat → Nat) (cy : Nat → ClassId) (ad : Nat → Nat) (t2 tc a sz : Nat) (e : Nat) (mc : Int32) (v : Nat → Nat) (hv9 : ∀ i, i < 10 → v i < 128) (k : Nat) (hk : k < 128) : Met l yJx4a65c_add_72be8 (ws_ yJx4a65c_add_72be8 cJx4a65c_add_72be8 4 none) ({ frames := 5, cells := 1, slots := 15, locals := 180 } : Room) (va_Pc [.ref a, .ref (ad (k + 128)), .ref e, .int (nI 10)] (PcL dC dI cy t2 tc ad ([(a, .inr (5, [.int mc, .ref e, .int (nI 10)])), (e, .inl (cy 4, 10, .inr (.inr (.inr (.inr (lf ad v 10))))))]) sz)) (va_Qv (fun u : Nat × Nat => (10 + 1) ≤ u.2 ∧ (u.2 = 10 ∨ u.2 = 15)) (fun u t => va_P (dC, dI) classes ([(a, .inr (5, [.int mc, .ref u.1, .int (nI (10 + 1))])), (u.1, .inl (cy 4, u.2, .inr (.inr (.inr (.inr (lf ad (upN v 10 k) (10 + 1)))))))]) t.heap ∧ va_D (va_A ([(a, .inr (5, [.int mc, .ref e, .int (nI 10)])), (e, .inl (cy 4, 10, .inr (.inr (.inr (.inr (lf ad v 10))))))]) sz) ([(a, .inr (5, [.int mc, .ref u.1, .int (nI (10 + 1))])), (u.1, .inl (cy 4, u.2, .inr (.inr (.inr (.inr (lf ad (upN v 10 k) (10 + 1)))))))])) (va_A ([(a, .inr (5, [.int mc, .ref e, .int (nI 10)])), (e, .inl (cy 4, 10, .inr (.inr (.inr (.inr (lf ad v 10))))))]) sz)) 1 15 (va_A ([(a, .inr (5, [.int mc, .ref e, .int (nI 10)])), (e, .inl (cy 4, 10, .inr (.inr (.inr (.inr (lf ad v 10))))))]) sz) := by
  refine Met.ofCx (own := RJx4a65c) (by decide) rfl (Nat.le_of_ble_eq_true rfl) ?_
  intro p e9 s m below meth c hC hv ls hl
  obtain ⟨hx, hb, hr, hml, hown, hts, hlocks⟩ := hC
  have hl : lv_has ls 4 [(0, .ref a), (1, .ref (ad (k + 128))), (2, .ref e), (3, .int (nI 10))] := hl
  obtain ⟨hsz, hP, hK, hD0, hZ⟩ := hv
  subst hsz
  have hD := hD0.self (sz := s.heap.size)
  generalize hAe : va_A ([(a, .inr (5, [.int mc, .ref e, .int (nI 10)])), (e, .inl (cy 4, 10, .inr (.inr (.inr (.inr (lf ad v 10))))))]) s.heap.size = A at hD hZ ⊢
  have hA : ∀ q : Nat, s.heap.size ≤ q → A q := fun q h => by rw [← hAe]; exact Or.inr h
  have hS : va_S A s.heap s.heap [] := va_S.rf
  clear hAe
  refine lv_iload_n hx hb dJx4a65c_add_72be8_0 rfl (lv_at hl 3 rfl) ?_
  refine lv_aload_n hx hb dJx4a65c_add_72be8_1 rfl (lv_at hl 2 rfl) ?_
  refine va_alen hx hb hK.1 hP 1 4 rfl rfl (v := Int32.ofNat 10) rfl dJx4a65c_add_72be8_2 ?_
  refine lv_icmp_ne (tgt := 11) hx hb dJx4a65c_add_72be8_3 (by decide) (fun cz => absurd (rfl) cz) (fun cz => ?_)
  refine lv_aload_n hx hb dJx4a65c_add_72be8_6 rfl (lv_at hl 0 rfl) ?_
  have hPc := hP.sub (ws' := [(a, .inr (5, [.int mc, .ref e, .int (nI 10)])), (e, .inl (cy 4, 10, .inr (.inr (.inr (.inr (lf ad v 10))))))]) [0, 1] rfl
  have hDc := hD.sub (ws' := [(a, .inr (5, [.int mc, .ref e, .int (nI 10)])), (e, .inl (cy 4, 10, .inr (.inr (.inr (.inr (lf ad v 10))))))]) [0, 1] (by decide) rfl
  have hFc := va_free (wc := [(a, .inr (5, [.int mc, .ref e, .int (nI 10)])), (e, .inl (cy 4, 10, .inr (.inr (.inr (.inr (lf ad v 10))))))]) hD hS hA [0, 1] rfl
  refine va_callr (va_runV (As := []) (rest := []) ⟨hx, hb, hml, hown, hts⟩ (m_Jx4a65c_grow_d5877_B l dC dI cy ad t2 tc a _ e mc v hv9) (cbV hts k_Jx4a65c_grow_d5877 q1267 ⟨rfl, rfl⟩ ⟨Nat.le_of_ble_eq_true rfl, Nat.le_of_ble_eq_true rfl⟩) (preL 0 hK hPc hDc rfl rfl hZ hS hFc) rfl rfl hl.1 rfl (lv_room (Nat.le_of_ble_eq_true rfl)) dJx4a65c_add_72be8_7 ⟨Nat.le_of_ble_eq_true rfl, Nat.le_of_ble_eq_true rfl⟩) hS (fun q _ h => hFc q h) hFc (fun u r7 t H1 locs ht hvm hw hB hz1 hk1 hS => ?_)
  obtain ⟨hP1, hD1⟩ := hB
  rw [ht] at hP1
  obtain ⟨hP, hD⟩ := va_join (wr := []) (w1 := [(a, .inr (5, [.int mc, .ref r7, .int (nI 10)])), (r7, .inl (cy 4, 15, .inr (.inr (.inr (.inr (lf ad v 10))))))]) hP hD [0, 1] [] rfl rfl (by decide) (by decide) hk1 hFc hP1 hD1
  generalize H1 = H at hP hS ⊢
  have hP : va_P (dC, dI) classes ([(a, .inr (5, [.int mc, .ref r7, .int (nI 10)])), (r7, .inl (cy 4, 15, .inr (.inr (.inr (.inr (lf ad v 10))))))]) H := hP
  have hD : va_D A ([(a, .inr (5, [.int mc, .ref r7, .int (nI 10)])), (r7, .inl (cy 4, 15, .inr (.inr (.inr (.inr (lf ad v 10))))))]) := hD
  refine lv_astore_n (lv' := [(2, .ref r7), (0, .ref a), (1, .ref (ad (k + 128))), (3, .int (nI 10))]) hx hb dJx4a65c_add_72be8_10 rfl hl (by decide) rfl (fun ls hl => ?_)
  refine lv_aload_n hx hb dJx4a65c_add_72be8_11 rfl (lv_at hl 0 rfl) ?_
  refine lv_iload_n hx hb dJx4a65c_add_72be8_12 rfl (lv_at hl 3 rfl) ?_
  refine lv_aload_n hx hb dJx4a65c_add_72be8_13 rfl (lv_at hl 2 rfl) ?_
  refine vb_astq (C := "java/lang/Integer") hx hb hK.1 hP hD hS 1 4 rfl rfl (box_at hZ hS (by omega)) (fun comp c0 h1 h2 => vb_asgC (hK.2.2.2.2.2.2.2.2.2.2.1 _ (List.mem_of_getElem? (i := 11) rfl)) comp c0 h1 h2) (vp_in_nI (by omega) (by omega)) dJx4a65c_add_72be8_14 (fun H locs hP hD hS => ?_)
  simp only [List.set] at hP hD
  rw [show va_up (lf ad v 10) (nI 10).toNatClampNeg (some ((ad (k + 128)))) = lf ad (upN v 10 k) (10 + 1) from by rw [nI_clamp (by omega)]; exact lf_add ad v 10 k] at hP hD
  have hP : va_P (dC, dI) classes ([(a, .inr (5, [.int mc, .ref r7, .int (nI 10)])), (r7, .inl (cy 4, 15, .inr (.inr (.inr (.inr (lf ad (upN v 10 k) (10 + 1)))))))]) H := hP
  have hD : va_D A ([(a, .inr (5, [.int mc, .ref r7, .int (nI 10)])), (r7, .inl (cy 4, 15, .inr (.inr (.inr (.inr (lf ad (upN v 10 k) (10 + 1)))))))]) := hD
  refine lv_aload_n hx hb dJx4a65c_add_72be8_15 rfl (lv_at hl 1 rfl) ?_
  refine lv_iload_n hx hb dJx4a65c_add_72be8_16 rfl (lv_at hl 3 rfl) ?_
  refine lv_iconst (v := 1) hx hb dJx4a65c_add_72be8_17 (by decide) ?_
  refine lv_iadd hx hb dJx4a65c_add_72be8_18 ?_
  rw [show ((nI 10) + 1 : Int32) = nI (10 + 1) from nI_1 10]
  refine va_put (D := (dC, dI)) (ci := 5) (v := .int (nI (10 + 1))) (ty := .int) (C := RJx4a65c) (T := TJx4a65c) (N := 3) hx hb hts in_Jx4a65c tyJx4a65c tyJx4a65c_ok nmJx4a65c hown hK.1 hP hD hS 0 rfl rfl 2 (by decide) (hts _ q912) (fun _ h9 => h9) rfl (by decide +kernel) rfl rfl (Nat.le_of_ble_eq_true rfl) dJx4a65c_add_72be8_19 (fun H locs hP hD hS => ?_)
  have hP : va_P (dC, dI) classes ([(a, .inr (5, [.int mc, .ref r7, .int (nI (10 + 1))])), (r7, .inl (cy 4, 15, .inr (.inr (.inr (.inr (lf ad (upN v 10 k) (10 + 1)))))))]) H := hP
  have hD : va_D A ([(a, .inr (5, [.int mc, .ref r7, .int (nI (10 + 1))])), (r7, .inl (cy 4, 15, .inr (.inr (.inr (.inr (lf ad (upN v 10 k) (10 + 1)))))))]) := hD
  have hP : va_P (dC, dI) classes ([(a, .inr (5, [.int mc, .ref r7, .int (nI (10 + 1))])), (r7, .inl (cy 4, 15, .inr (.inr (.inr (.inr (lf ad (upN v 10 k) (10 + 1)))))))]) H := hP
  exact W.vret hx hb hr (fun t ht hW => ⟨⟨(r7, 15), rfl, ⟨(show 11 ≤ 15 by decide), Or.inr rfl⟩, by rw [ht]; exact hP, hD⟩, hS.F ht⟩) hS.2.2 dJx4a65c_add_72be8_22
set_option maxHeartbeats 4000000 in
set_option maxRecDepth 100000 in
theorem m_Jx4a65c_add_72be8_C (l : Launch) (dC : Nat → ClassId) (dI : Nat → Nat → Nat) (cy : Nat → ClassId) (ad : Nat → Nat) (t2 tc a sz : Nat) (mc : Int32) (v : Nat → Nat) (k : Nat) (hk : k < 128) : Met l yJx4a65c_add_72be8 (ws_ yJx4a65c_add_72be8 cJx4a65c_add_72be8 4 none) ({ frames := 5, cells := 1, slots := 15, locals := 180 } : Room) (va_Pc [.ref a, .ref (ad (k + 128)), .ref t2, .int (nI 0)] (PcL dC dI cy t2 tc ad ([(a, .inr (5, [.int mc, .ref t2, .int 0]))]) sz)) (va_Qv (fun u : Nat × Nat => (0 + 1) ≤ u.2 ∧ (u.2 = 10 ∨ u.2 = 15)) (fun u t => va_P (dC, dI) classes ([(a, .inr (5, [.int mc, .ref u.1, .int (nI (0 + 1))])), (u.1, .inl (cy 4, u.2, .inr (.inr (.inr (.inr (lf ad (upN v 0 k) (0 + 1)))))))]) t.heap ∧ va_D (va_A ([(a, .inr (5, [.int mc, .ref t2, .int 0]))]) sz) ([(a, .inr (5, [.int mc, .ref u.1, .int (nI (0 + 1))])), (u.1, .inl (cy 4, u.2, .inr (.inr (.inr (.inr (lf ad (upN v 0 k) (0 + 1)))))))])) (va_A ([(a, .inr (5, [.int mc, .ref t2, .int 0]))]) sz)) 1 15 (va_A ([(a, .inr (5, [.int mc, .ref t2, .int 0]))]) sz) := by
  refine Met.ofCx (own := RJx4a65c) (by decide) rfl (Nat.le_of_ble_eq_true rfl) ?_
  intro p e9 s m below meth c hC hv ls hl
  obtain ⟨hx, hb, hr, hml, hown, hts, hlocks⟩ := hC
  have hl : lv_has ls 4 [(0, .ref a), (1, .ref (ad (k + 128))), (2, .ref t2), (3, .int (nI 0))] := hl
  obtain ⟨hsz, hP, hK, hD0, hZ⟩ := hv
  subst hsz
  have hD := hD0.self (sz := s.heap.size)
  generalize hAe : va_A ([(a, .inr (5, [.int mc, .ref t2, .int 0]))]) s.heap.size = A at hD hZ ⊢
  have hA : ∀ q : Nat, s.heap.size ≤ q → A q := fun q h => by rw [← hAe]; exact Or.inr h
  have hS : va_S A s.heap s.heap [] := va_S.rf
  clear hAe
  refine lv_iload_n hx hb dJx4a65c_add_72be8_0 rfl (lv_at hl 3 rfl) ?_
  refine lv_aload_n hx hb dJx4a65c_add_72be8_1 rfl (lv_at hl 2 rfl) ?_
  refine va_tlen hx hb hZ.2.1 hS (v := 0) rfl dJx4a65c_add_72be8_2 ?_
  refine lv_icmp_ne (tgt := 11) hx hb dJx4a65c_add_72be8_3 (by decide) (fun cz => absurd (rfl) cz) (fun cz => ?_)
  refine lv_aload_n hx hb dJx4a65c_add_72be8_6 rfl (lv_at hl 0 rfl) ?_
  have hPc := hP.sub (ws' := [(a, .inr (5, [.int mc, .ref t2, .int 0]))]) [0] rfl
  have hDc := hD.sub (ws' := [(a, .inr (5, [.int mc, .ref t2, .int 0]))]) [0] (by decide) rfl
  have hFc := va_free (wc := [(a, .inr (5, [.int mc, .ref t2, .int 0]))]) hD hS hA [0] rfl
  refine va_callr (va_runV (As := []) (rest := []) ⟨hx, hb, hml, hown, hts⟩ (m_Jx4a65c_grow_d5877_C l dC dI cy ad t2 tc a _ mc) (cbV hts k_Jx4a65c_grow_d5877 q1267 ⟨rfl, rfl⟩ ⟨Nat.le_of_ble_eq_true rfl, Nat.le_of_ble_eq_true rfl⟩) (preL 0 hK hPc hDc rfl rfl hZ hS hFc) rfl rfl hl.1 rfl (lv_room (Nat.le_of_ble_eq_true rfl)) dJx4a65c_add_72be8_7 ⟨Nat.le_of_ble_eq_true rfl, Nat.le_of_ble_eq_true rfl⟩) hS (fun q _ h => hFc q h) hFc (fun u r7 t H1 locs ht hvm hw hB hz1 hk1 hS => ?_)
  obtain ⟨hP1, hD1⟩ := hB
  rw [ht] at hP1
  obtain ⟨hP, hD⟩ := va_join (wr := []) (w1 := [(a, .inr (5, [.int mc, .ref r7, .int 0])), (r7, .inl (cy 4, 10, .inr (.inr (.inr (.inr (fun _ => none))))))]) hP hD [0] [] rfl rfl (by decide) (by decide) hk1 hFc hP1 hD1
  generalize H1 = H at hP hS ⊢
  have hP : va_P (dC, dI) classes ([(a, .inr (5, [.int mc, .ref r7, .int 0])), (r7, .inl (cy 4, 10, .inr (.inr (.inr (.inr (fun _ => none))))))]) H := hP
  have hD : va_D A ([(a, .inr (5, [.int mc, .ref r7, .int 0])), (r7, .inl (cy 4, 10, .inr (.inr (.inr (.inr (fun _ => none))))))]) := hD
  refine lv_astore_n (lv' := [(2, .ref r7), (0, .ref a), (1, .ref (ad (k + 128))), (3, .int (nI 0))]) hx hb dJx4a65c_add_72be8_10 rfl hl (by decide) rfl (fun ls hl => ?_)
  refine lv_aload_n hx hb dJx4a65c_add_72be8_11 rfl (lv_at hl 0 rfl) ?_
  refine lv_iload_n hx hb dJx4a65c_add_72be8_12 rfl (lv_at hl 3 rfl) ?_
  refine lv_aload_n hx hb dJx4a65c_add_72be8_13 rfl (lv_at hl 2 rfl) ?_
  refine vb_astq (C := "java/lang/Integer") hx hb hK.1 hP hD hS 1 4 rfl rfl (box_at hZ hS (by omega)) (fun comp c0 h1 h2 => vb_asgC (hK.2.2.2.2.2.2.2.2.2.2.1 _ (List.mem_of_getElem? (i := 11) rfl)) comp c0 h1 h2) (vp_in_nI (by omega) (by omega)) dJx4a65c_add_72be8_14 (fun H locs hP hD hS => ?_)
  simp only [List.set] at hP hD
  rw [show va_up (fun _ => none) (nI 0).toNatClampNeg (some ((ad (k + 128)))) = lf ad (upN v 0 k) (0 + 1) from by rw [nI_clamp (by omega), lf_0 ad v]; exact lf_add ad v 0 k] at hP hD
  have hP : va_P (dC, dI) classes ([(a, .inr (5, [.int mc, .ref r7, .int 0])), (r7, .inl (cy 4, 10, .inr (.inr (.inr (.inr (lf ad (upN v 0 k) (0 + 1)))))))]) H := hP
  have hD : va_D A ([(a, .inr (5, [.int mc, .ref r7, .int 0])), (r7, .inl (cy 4, 10, .inr (.inr (.inr (.inr (lf ad (upN v 0 k) (0 + 1)))))))]) := hD
  refine lv_aload_n hx hb dJx4a65c_add_72be8_15 rfl (lv_at hl 1 rfl) ?_
  refine lv_iload_n hx hb dJx4a65c_add_72be8_16 rfl (lv_at hl 3 rfl) ?_
  refine lv_iconst (v := 1) hx hb dJx4a65c_add_72be8_17 (by decide) ?_
  refine lv_iadd hx hb dJx4a65c_add_72be8_18 ?_
  rw [show ((nI 0) + 1 : Int32) = nI (0 + 1) from nI_1 0]
  refine va_put (D := (dC, dI)) (ci := 5) (v := .int (nI (0 + 1))) (ty := .int) (C := RJx4a65c) (T := TJx4a65c) (N := 3) hx hb hts in_Jx4a65c tyJx4a65c tyJx4a65c_ok nmJx4a65c hown hK.1 hP hD hS 0 rfl rfl 2 (by decide) (hts _ q912) (fun _ h9 => h9) rfl (by decide +kernel) rfl rfl (Nat.le_of_ble_eq_true rfl) dJx4a65c_add_72be8_19 (fun H locs hP hD hS => ?_)
  have hP : va_P (dC, dI) classes ([(a, .inr (5, [.int mc, .ref r7, .int (nI (0 + 1))])), (r7, .inl (cy 4, 10, .inr (.inr (.inr (.inr (lf ad (upN v 0 k) (0 + 1)))))))]) H := hP
  have hD : va_D A ([(a, .inr (5, [.int mc, .ref r7, .int (nI (0 + 1))])), (r7, .inl (cy 4, 10, .inr (.inr (.inr (.inr (lf ad (upN v 0 k) (0 + 1)))))))]) := hD
  have hP : va_P (dC, dI) classes ([(a, .inr (5, [.int mc, .ref r7, .int (nI (0 + 1))])), (r7, .inl (cy 4, 10, .inr (.inr (.inr (.inr (lf ad (upN v 0 k) (0 + 1)))))))]) H := hP
  exact W.vret hx hb hr (fun t ht hW => ⟨⟨(r7, 10), rfl, ⟨(show 1 ≤ 10 by decide), Or.inl rfl⟩, by rw [ht]; exact hP, hD⟩, hS.F ht⟩) hS.2.2 dJx4a65c_add_72be8_22
