theorem dX3_behindJump_0 : decode cX3_behindJump 0 = .ok (.aload_n 0, 1) := by decide +kernel
theorem dX3_behindJump_1 : decode cX3_behindJump 1 = .ok (.getfield 10, 3) := by decide +kernel
theorem dX3_behindJump_4 : decode cX3_behindJump 4 = .ok (.iload_n 1, 1) := by decide +kernel
theorem dX3_behindJump_5 : decode cX3_behindJump 5 = .ok (.aload_n 0, 1) := by decide +kernel
theorem dX3_behindJump_6 : decode cX3_behindJump 6 = .ok (.getfield 10, 3) := by decide +kernel
theorem dX3_behindJump_9 : decode cX3_behindJump 9 = .ok (.iload_n 2, 1) := by decide +kernel
theorem dX3_behindJump_10 : decode cX3_behindJump 10 = .ok (.bipush 100, 2) := by decide +kernel
theorem dX3_behindJump_12 : decode cX3_behindJump 12 = .ok (.imul, 1) := by decide +kernel
theorem dX3_behindJump_13 : decode cX3_behindJump 13 = .ok (.iload_n 3, 1) := by decide +kernel
theorem dX3_behindJump_14 : decode cX3_behindJump 14 = .ok (.iadd, 1) := by decide +kernel
theorem dX3_behindJump_15 : decode cX3_behindJump 15 = .ok (.invokevirtual 152, 3) := by decide +kernel
theorem dX3_behindJump_18 : decode cX3_behindJump 18 = .ok (.invokevirtual 136, 3) := by decide +kernel
theorem dX3_behindJump_21 : decode cX3_behindJump 21 = .ok (.ireturn, 1) := by decide +kernel
def wp_X3_behindJump (fu : Nat) (σ : SX) (x1 : Int32) (x2 : Int32) (x3 : Int32) (P : Int32 → Prop) : Prop := (wp_X0_lineOf fu σ ((x2 * 100) + x3) (fun r15 => (wp_X0_behind σ x1 r15 (fun r18 => (P r18)))))
theorem k_X3_behindJump : KV RX3 yX3_behindJump cX3_behindJump 4 (some .int) 3 := ⟨q658, qs17, q1, q659, by decide +kernel⟩
set_option maxHeartbeats 4000000 in
set_option maxRecDepth 100000 in
theorem m_X3_behindJump (l : Launch) (dC : Nat → ClassId) (dI : Nat → Nat → Nat) (h : Nat → Nat) (cy : Nat → ClassId) (fu : Nat) (σ : SX) (x1 : Int32) (x2 : Int32) (x3 : Int32) (P : Int32 → Prop) (hF : wp_X3_behindJump fu σ x1 x2 x3 P) : Met l yX3_behindJump (ws_ yX3_behindJump cX3_behindJump 4 (some .int)) ({ frames := 2, cells := 0, slots := 0, locals := 44 } : Room) (va_Pc [.ref (h 16), .int x1, .int x2, .int x3] (fun U => va_P (dC, dI) classes (wH h cy σ) U.heap ∧ kwX dC dI cy U)) (vp_Si P) 0 0 (fun _ => False) := by
  refine Met.ofCx (own := RX3) (by decide) rfl (Nat.le_of_ble_eq_true rfl) ?_
  intro p e s m below meth c hC hv ls hl
  obtain ⟨hx, hb, hr, hml, hown, hts, hlocks⟩ := hC
  have hl : lv_has ls 4 [(0, .ref (h 16)), (1, .int x1), (2, .int x2), (3, .int x3)] := hl
  obtain ⟨hP, hK⟩ := hv
  unfold wp_X3_behindJump at hF
  refine lv_aload_n hx hb dX3_behindJump_0 rfl (lv_at hl 0 rfl) ?_
  refine va_get (D := (dC, dI)) (ci := 3) (v := .ref (h 0)) (C := RX3) (T := TX3) (N := 6) hx hb hts in_X3 hown hK.1 hP 16 rfl rfl 0 (by decide) (hts _ q141) (fun _ h9 => h9) rfl dX3_behindJump_1 ?_
  refine lv_iload_n hx hb dX3_behindJump_4 rfl (lv_at hl 1 rfl) ?_
  refine lv_aload_n hx hb dX3_behindJump_5 rfl (lv_at hl 0 rfl) ?_
  refine va_get (D := (dC, dI)) (ci := 3) (v := .ref (h 0)) (C := RX3) (T := TX3) (N := 6) hx hb hts in_X3 hown hK.1 hP 16 rfl rfl 0 (by decide) (hts _ q141) (fun _ h9 => h9) rfl dX3_behindJump_6 ?_
  refine lv_iload_n hx hb dX3_behindJump_9 rfl (lv_at hl 2 rfl) ?_
  refine lv_bipush (v := 100) hx hb dX3_behindJump_10 (by decide) ?_
  refine lv_imul hx hb dX3_behindJump_12 ?_
  refine lv_iload_n hx hb dX3_behindJump_13 rfl (lv_at hl 3 rfl) ?_
  refine lv_iadd hx hb dX3_behindJump_14 ?_
  have hPc := hP.sub (ws' := wB h cy σ) [0, 1, 2, 3, 4, 5, 6, 7, 8, 9, 10, 11] rfl
  refine cpVi (q0 := 0) (As := [.int ((x2 * 100) + x3)]) (rest := [.int x1, .ref (h 0)]) ⟨hx, hb, hr, hml, hown, hts, hlocks⟩ hK hPc rfl rfl (m_X0_lineOf l dC dI h cy fu σ ((x2 * 100) + x3) _ hF) k_X0_lineOf q380 ⟨rfl, rfl⟩ ⟨Nat.le_of_ble_eq_true rfl, Nat.le_of_ble_eq_true rfl⟩ hl.1 rfl rfl (Nat.le_of_ble_eq_true rfl) dX3_behindJump_15 ⟨Nat.le_of_ble_eq_true rfl, Nat.le_of_ble_eq_true rfl⟩ (fun r15 hF => ?_)
  have hPc := hP.sub (ws' := wB h cy σ) [0, 1, 2, 3, 4, 5, 6, 7, 8, 9, 10, 11] rfl
  refine cpVi (q0 := 0) (As := [.int x1, .int r15]) (rest := []) ⟨hx, hb, hr, hml, hown, hts, hlocks⟩ hK hPc rfl rfl (m_X0_behind l dC dI h cy σ x1 r15 _ hF) k_X0_behind q388 ⟨rfl, rfl⟩ ⟨Nat.le_of_ble_eq_true rfl, Nat.le_of_ble_eq_true rfl⟩ hl.1 rfl rfl (Nat.le_of_ble_eq_true rfl) dX3_behindJump_18 ⟨Nat.le_of_ble_eq_true rfl, Nat.le_of_ble_eq_true rfl⟩ (fun r18 hF => ?_)
  exact W.iret (v := r18) hx hb hr (fun t ht hW => ⟨r18, rfl, hF, ht⟩) (fun q hq => absurd hq List.not_mem_nil) dX3_behindJump_21
theorem dX3_canEnd_0 : decode cX3_canEnd 0 = .ok (.aload_n 0, 1) := by decide +kernel
theorem dX3_canEnd_1 : decode cX3_canEnd 1 = .ok (.getfield 21, 3) := by decide +kernel
theorem dX3_canEnd_4 : decode cX3_canEnd 4 = .ok (.aload_n 0, 1) := by decide +kernel
theorem dX3_canEnd_5 : decode cX3_canEnd 5 = .ok (.getfield 83, 3) := by decide +kernel
theorem dX3_canEnd_8 : decode cX3_canEnd 8 = .ok (.invokevirtual 169, 3) := by decide +kernel
theorem dX3_canEnd_11 : decode cX3_canEnd 11 = .ok (.aload_n 0, 1) := by decide +kernel
theorem dX3_canEnd_12 : decode cX3_canEnd 12 = .ok (.getfield 21, 3) := by decide +kernel
theorem dX3_canEnd_15 : decode cX3_canEnd 15 = .ok (.aload_n 0, 1) := by decide +kernel
theorem dX3_canEnd_16 : decode cX3_canEnd 16 = .ok (.getfield 87, 3) := by decide +kernel
theorem dX3_canEnd_19 : decode cX3_canEnd 19 = .ok (.invokevirtual 172, 3) := by decide +kernel
theorem dX3_canEnd_22 : decode cX3_canEnd 22 = .ok (.lconst 0, 1) := by decide +kernel
theorem dX3_canEnd_23 : decode cX3_canEnd 23 = .ok (.lcmp, 1) := by decide +kernel
theorem dX3_canEnd_24 : decode cX3_canEnd 24 = .ok (.ifCond .le 7, 3) := by decide +kernel
theorem dX3_canEnd_27 : decode cX3_canEnd 27 = .ok (.iconst 1, 1) := by decide +kernel
theorem dX3_canEnd_28 : decode cX3_canEnd 28 = .ok (.goto 4, 3) := by decide +kernel
theorem dX3_canEnd_31 : decode cX3_canEnd 31 = .ok (.iconst 0, 1) := by decide +kernel
theorem dX3_canEnd_32 : decode cX3_canEnd 32 = .ok (.ireturn, 1) := by decide +kernel
def wp_X3_canEnd (fu : Nat) (σ : SX) (P : Int32 → SX → Prop) : Prop := (wp_X2_begin fu σ (σ.1 15) (fun s8 => (wp_X2_waysTo (mgX2 σ s8) (σ.1 16) (fun r19 => (((lg_cmp r19 0) ≤ 0 → (P 0 (mgX2 σ s8))) ∧ (¬ (lg_cmp r19 0) ≤ 0 → (P 1 (mgX2 σ s8))))))))
theorem k_X3_canEnd : KV RX3 yX3_canEnd cX3_canEnd 1 (some .boolean) 0 := ⟨q229, q230, q1, q231, by decide +kernel⟩
set_option maxHeartbeats 4000000 in
set_option maxRecDepth 100000 in
theorem m_X3_canEnd (l : Launch) (dC : Nat → ClassId) (dI : Nat → Nat → Nat) (h : Nat → Nat) (cy : Nat → ClassId) (sz : Nat) (fu : Nat) (σ : SX) (P : Int32 → SX → Prop) (hF : wp_X3_canEnd fu σ P) : Met l yX3_canEnd (ws_ yX3_canEnd cX3_canEnd 1 (some .boolean)) ({ frames := 4, cells := 0, slots := 0, locals := 90 } : Room) (va_Pc [.ref (h 16)] (fun U => U.heap.size = sz ∧ va_P (dC, dI) classes (wH h cy σ) U.heap ∧ kwX dC dI cy U ∧ va_D (fun _ => True) (wH h cy σ))) (va_Qi (fun r u => P r u) (fun (u : SX) t => va_P (dC, dI) classes (wH h cy u) t.heap ∧ kwX dC dI cy t ∧ va_D (va_A (wH h cy σ) sz) (wH h cy u)) (va_A (wH h cy σ) sz)) 0 0 (va_A (wH h cy σ) sz) := by
  refine Met.ofCx (own := RX3) (by decide) rfl (Nat.le_of_ble_eq_true rfl) ?_
  intro p e s m below meth c hC hv ls hl
  obtain ⟨hx, hb, hr, hml, hown, hts, hlocks⟩ := hC
  have hl : lv_has ls 1 [(0, .ref (h 16))] := hl
  obtain ⟨hsz, hP, hK, hD0⟩ := hv
  subst hsz
  have hD := hD0.self (sz := s.heap.size)
  generalize hAe : va_A (wH h cy σ) s.heap.size = A at hD ⊢
  have hA : ∀ q : Nat, s.heap.size ≤ q → A q := fun q h => by rw [← hAe]; exact Or.inr h
  have hS : va_S A s.heap s.heap [] := va_S.rf
  clear hAe
  unfold wp_X3_canEnd at hF
  refine lv_aload_n hx hb dX3_canEnd_0 rfl (lv_at hl 0 rfl) ?_
  refine va_get (D := (dC, dI)) (ci := 3) (v := .ref (h 12)) (C := RX3) (T := TX3) (N := 6) hx hb hts in_X3 hown hK.1 hP 16 rfl rfl 1 (by decide) (hts _ q142) (fun _ h9 => h9) rfl dX3_canEnd_1 ?_
  refine lv_aload_n hx hb dX3_canEnd_4 rfl (lv_at hl 0 rfl) ?_
  refine va_get (D := (dC, dI)) (ci := 3) (v := .int (σ.1 15)) (C := RX3) (T := TX3) (N := 6) hx hb hts in_X3 hown hK.1 hP 16 rfl rfl 4 (by decide) (hts _ q145) (fun _ h9 => h9) rfl dX3_canEnd_5 ?_
  have hPc := hP.sub (ws' := wW h cy σ) [0, 1, 2, 3, 4, 5, 6, 7, 8, 9, 10, 11, 12, 13, 14, 15] rfl
  have hDc := hD.sub (ws' := wW h cy σ) [0, 1, 2, 3, 4, 5, 6, 7, 8, 9, 10, 11, 12, 13, 14, 15] (by decide) rfl
  have hFc := va_free (wc := wW h cy σ) hD hS hA [0, 1, 2, 3, 4, 5, 6, 7, 8, 9, 10, 11, 12, 13, 14, 15] rfl
  refine cwVv (q0 := 12) (As := [.int (σ.1 15)]) (rest := []) ⟨hx, hb, hr, hml, hown, hts, hlocks⟩ hK hPc hDc rfl rfl hS hFc (m_X2_begin l dC dI h cy _ fu σ (σ.1 15) _ hF) k_X2_begin q232 ⟨rfl, rfl⟩ ⟨Nat.le_of_ble_eq_true rfl, Nat.le_of_ble_eq_true rfl⟩ hl.1 rfl rfl (Nat.le_of_ble_eq_true rfl) dX3_canEnd_8 ⟨Nat.le_of_ble_eq_true rfl, Nat.le_of_ble_eq_true rfl⟩ (fun u H1 locs hF hP1 hD1 hk1 hS => ?_)
  obtain ⟨s8, rfl⟩ : ∃ z, z = u := ⟨_, rfl⟩
  obtain ⟨hP, hD⟩ := va_join (wr := [(h 16, .inr (3, [.ref (h 0), .ref (h 12), .ref (h 17), .ref (h 19), .int (σ.1 15), .int (σ.1 16)])), (h 17, .inr (1, [.ref (h 18), .int (σ.1 17)])), (h 18, .inl (cy 0, 12, .inl (σ.2.1 8))), (h 19, .inr (1, [.ref (h 20), .int (σ.1 18)])), (h 20, .inl (cy 0, 12, .inl (σ.2.1 9)))]) (w1 := wW h cy s8) hP hD [0, 1, 2, 3, 4, 5, 6, 7, 8, 9, 10, 11, 12, 13, 14, 15] [16, 17, 18, 19, 20] rfl rfl (by decide) (by decide) hk1 hFc hP1 hD1
  have hP := hP.sub (ws' := wH h cy (mgX2 σ s8)) [5, 6, 7, 8, 9, 10, 11, 12, 13, 14, 15, 16, 17, 18, 19, 20, 0, 1, 2, 3, 4] rfl
  have hD := hD.sub (ws' := wH h cy (mgX2 σ s8)) [5, 6, 7, 8, 9, 10, 11, 12, 13, 14, 15, 16, 17, 18, 19, 20, 0, 1, 2, 3, 4] (by decide) rfl
  generalize H1 = H at hP hS ⊢
  have hP : va_P (dC, dI) classes (wH h cy (mgX2 σ s8)) H := hP
  have hD : va_D A (wH h cy (mgX2 σ s8)) := hD
  refine lv_aload_n hx hb dX3_canEnd_11 rfl (lv_at hl 0 rfl) ?_
  refine va_get (D := (dC, dI)) (ci := 3) (v := .ref (h 12)) (C := RX3) (T := TX3) (N := 6) hx hb hts in_X3 hown hK.1 hP 16 rfl rfl 1 (by decide) (hts _ q142) (fun _ h9 => h9) rfl dX3_canEnd_12 ?_
  refine lv_aload_n hx hb dX3_canEnd_15 rfl (lv_at hl 0 rfl) ?_
  refine va_get (D := (dC, dI)) (ci := 3) (v := .int (σ.1 16)) (C := RX3) (T := TX3) (N := 6) hx hb hts in_X3 hown hK.1 hP 16 rfl rfl 5 (by decide) (hts _ q146) (fun _ h9 => h9) rfl dX3_canEnd_16 ?_
  have hPc := hP.sub (ws' := wW h cy (mgX2 σ s8)) [0, 1, 2, 3, 4, 5, 6, 7, 8, 9, 10, 11, 12, 13, 14, 15] rfl
  refine cpVl (q0 := 12) (As := [.int (σ.1 16)]) (rest := []) ⟨hx, hb, hr, hml, hown, hts, hlocks⟩ hK hPc rfl rfl (m_X2_waysTo l dC dI h cy (mgX2 σ s8) (σ.1 16) _ hF) k_X2_waysTo q263 ⟨rfl, rfl⟩ ⟨Nat.le_of_ble_eq_true rfl, Nat.le_of_ble_eq_true rfl⟩ hl.1 rfl rfl (Nat.le_of_ble_eq_true rfl) dX3_canEnd_19 ⟨Nat.le_of_ble_eq_true rfl, Nat.le_of_ble_eq_true rfl⟩ (fun r19 hF => ?_)
  refine lv_lconst (v := 0) hx hb dX3_canEnd_22 (by decide) ?_
  refine W.lcmp hx hb dX3_canEnd_23 ?_
  refine lv_if_le (tgt := 31) hx hb dX3_canEnd_24 (by decide) (fun cz => ?_) (fun cz => ?_)
  · have hF := hF.1 cz
    refine lv_iconst (v := 0) hx hb dX3_canEnd_31 (by decide) ?_
    exact W.zret (v := 0) hx hb hr rfl (fun t ht hW => ⟨⟨0, mgX2 σ s8, rfl, hF, by rw [ht]; exact hP, hK.warm hW, hD⟩, hS.F ht⟩) hS.2.2 dX3_canEnd_32
  · have hF := hF.2 cz
    refine lv_iconst (v := 1) hx hb dX3_canEnd_27 (by decide) ?_
    refine lv_goto (tgt := 32) hx hb dX3_canEnd_28 (by decide) ?_
    exact W.zret (v := 1) hx hb hr rfl (fun t ht hW => ⟨⟨1, mgX2 σ s8, rfl, hF, by rw [ht]; exact hP, hK.warm hW, hD⟩, hS.F ht⟩) hS.2.2 dX3_canEnd_32
theorem dX3_checksum_0 : decode cX3_checksum 0 = .ok (.ldc2_w 253, 3) := by decide +kernel
theorem dX3_checksum_3 : decode cX3_checksum 3 = .ok (.lstore_n 1, 1) := by decide +kernel
theorem dX3_checksum_4 : decode cX3_checksum 4 = .ok (.iconst 0, 1) := by decide +kernel
theorem dX3_checksum_5 : decode cX3_checksum 5 = .ok (.istore_n 3, 1) := by decide +kernel
theorem dX3_checksum_6 : decode cX3_checksum 6 = .ok (.iload_n 3, 1) := by decide +kernel
theorem dX3_checksum_7 : decode cX3_checksum 7 = .ok (.aload_n 0, 1) := by decide +kernel
theorem dX3_checksum_8 : decode cX3_checksum 8 = .ok (.getfield 10, 3) := by decide +kernel
theorem dX3_checksum_11 : decode cX3_checksum 11 = .ok (.invokevirtual 67, 3) := by decide +kernel
theorem dX3_checksum_14 : decode cX3_checksum 14 = .ok (.if_icmp .ge 41, 3) := by decide +kernel
theorem dX3_checksum_17 : decode cX3_checksum 17 = .ok (.ldc2_w 255, 3) := by decide +kernel
theorem dX3_checksum_20 : decode cX3_checksum 20 = .ok (.lload_n 1, 1) := by decide +kernel
theorem dX3_checksum_21 : decode cX3_checksum 21 = .ok (.lmul, 1) := by decide +kernel
theorem dX3_checksum_22 : decode cX3_checksum 22 = .ok (.aload_n 0, 1) := by decide +kernel
theorem dX3_checksum_23 : decode cX3_checksum 23 = .ok (.getfield 10, 3) := by decide +kernel
theorem dX3_checksum_26 : decode cX3_checksum 26 = .ok (.iload_n 3, 1) := by decide +kernel
theorem dX3_checksum_27 : decode cX3_checksum 27 = .ok (.invokevirtual 101, 3) := by decide +kernel
theorem dX3_checksum_30 : decode cX3_checksum 30 = .ok (.i2l, 1) := by decide +kernel
theorem dX3_checksum_31 : decode cX3_checksum 31 = .ok (.ladd, 1) := by decide +kernel
theorem dX3_checksum_32 : decode cX3_checksum 32 = .ok (.lstore_n 1, 1) := by decide +kernel
theorem dX3_checksum_33 : decode cX3_checksum 33 = .ok (.ldc2_w 255, 3) := by decide +kernel
theorem dX3_checksum_36 : decode cX3_checksum 36 = .ok (.lload_n 1, 1) := by decide +kernel
theorem dX3_checksum_37 : decode cX3_checksum 37 = .ok (.lmul, 1) := by decide +kernel
theorem dX3_checksum_38 : decode cX3_checksum 38 = .ok (.aload_n 0, 1) := by decide +kernel
theorem dX3_checksum_39 : decode cX3_checksum 39 = .ok (.getfield 10, 3) := by decide +kernel
theorem dX3_checksum_42 : decode cX3_checksum 42 = .ok (.iload_n 3, 1) := by decide +kernel
theorem dX3_checksum_43 : decode cX3_checksum 43 = .ok (.invokevirtual 209, 3) := by decide +kernel
theorem dX3_checksum_46 : decode cX3_checksum 46 = .ok (.i2l, 1) := by decide +kernel
theorem dX3_checksum_47 : decode cX3_checksum 47 = .ok (.ladd, 1) := by decide +kernel
theorem dX3_checksum_48 : decode cX3_checksum 48 = .ok (.lstore_n 1, 1) := by decide +kernel
theorem dX3_checksum_49 : decode cX3_checksum 49 = .ok (.iinc 3 1, 3) := by decide +kernel
theorem dX3_checksum_52 : decode cX3_checksum 52 = .ok (.goto (-46), 3) := by decide +kernel
theorem dX3_checksum_55 : decode cX3_checksum 55 = .ok (.ldc2_w 255, 3) := by decide +kernel
theorem dX3_checksum_58 : decode cX3_checksum 58 = .ok (.lload_n 1, 1) := by decide +kernel
theorem dX3_checksum_59 : decode cX3_checksum 59 = .ok (.lmul, 1) := by decide +kernel
theorem dX3_checksum_60 : decode cX3_checksum 60 = .ok (.aload_n 0, 1) := by decide +kernel
theorem dX3_checksum_61 : decode cX3_checksum 61 = .ok (.getfield 83, 3) := by decide +kernel
theorem dX3_checksum_64 : decode cX3_checksum 64 = .ok (.i2l, 1) := by decide +kernel
theorem dX3_checksum_65 : decode cX3_checksum 65 = .ok (.ladd, 1) := by decide +kernel
theorem dX3_checksum_66 : decode cX3_checksum 66 = .ok (.lstore_n 1, 1) := by decide +kernel
theorem dX3_checksum_67 : decode cX3_checksum 67 = .ok (.ldc2_w 255, 3) := by decide +kernel
theorem dX3_checksum_70 : decode cX3_checksum 70 = .ok (.lload_n 1, 1) := by decide +kernel
theorem dX3_checksum_71 : decode cX3_checksum 71 = .ok (.lmul, 1) := by decide +kernel
theorem dX3_checksum_72 : decode cX3_checksum 72 = .ok (.aload_n 0, 1) := by decide +kernel
theorem dX3_checksum_73 : decode cX3_checksum 73 = .ok (.getfield 87, 3) := by decide +kernel
theorem dX3_checksum_76 : decode cX3_checksum 76 = .ok (.i2l, 1) := by decide +kernel
theorem dX3_checksum_77 : decode cX3_checksum 77 = .ok (.ladd, 1) := by decide +kernel
theorem dX3_checksum_78 : decode cX3_checksum 78 = .ok (.lstore_n 1, 1) := by decide +kernel
theorem dX3_checksum_79 : decode cX3_checksum 79 = .ok (.iconst 0, 1) := by decide +kernel
theorem dX3_checksum_80 : decode cX3_checksum 80 = .ok (.istore_n 3, 1) := by decide +kernel
theorem dX3_checksum_81 : decode cX3_checksum 81 = .ok (.iload_n 3, 1) := by decide +kernel
theorem dX3_checksum_82 : decode cX3_checksum 82 = .ok (.aload_n 0, 1) := by decide +kernel
theorem dX3_checksum_83 : decode cX3_checksum 83 = .ok (.getfield 30, 3) := by decide +kernel
theorem dX3_checksum_86 : decode cX3_checksum 86 = .ok (.invokevirtual 144, 3) := by decide +kernel
theorem dX3_checksum_89 : decode cX3_checksum 89 = .ok (.if_icmp .ge 25, 3) := by decide +kernel
theorem dX3_checksum_92 : decode cX3_checksum 92 = .ok (.ldc2_w 255, 3) := by decide +kernel
theorem dX3_checksum_95 : decode cX3_checksum 95 = .ok (.lload_n 1, 1) := by decide +kernel
theorem dX3_checksum_96 : decode cX3_checksum 96 = .ok (.lmul, 1) := by decide +kernel
theorem dX3_checksum_97 : decode cX3_checksum 97 = .ok (.aload_n 0, 1) := by decide +kernel
theorem dX3_checksum_98 : decode cX3_checksum 98 = .ok (.getfield 30, 3) := by decide +kernel
theorem dX3_checksum_101 : decode cX3_checksum 101 = .ok (.iload_n 3, 1) := by decide +kernel
theorem dX3_checksum_102 : decode cX3_checksum 102 = .ok (.invokevirtual 158, 3) := by decide +kernel
theorem dX3_checksum_105 : decode cX3_checksum 105 = .ok (.i2l, 1) := by decide +kernel
theorem dX3_checksum_106 : decode cX3_checksum 106 = .ok (.ladd, 1) := by decide +kernel
theorem dX3_checksum_107 : decode cX3_checksum 107 = .ok (.lstore_n 1, 1) := by decide +kernel
theorem dX3_checksum_108 : decode cX3_checksum 108 = .ok (.iinc 3 1, 3) := by decide +kernel
theorem dX3_checksum_111 : decode cX3_checksum 111 = .ok (.goto (-30), 3) := by decide +kernel
theorem dX3_checksum_114 : decode cX3_checksum 114 = .ok (.lload_n 1, 1) := by decide +kernel
theorem dX3_checksum_115 : decode cX3_checksum 115 = .ok (.lreturn, 1) := by decide +kernel
def wp_X3_checksum_B81 (σ : SX) (K81 : Int64 → Prop) (rec81 : Int32 → Int64 → Prop) (v3_81 : Int32) (v1_81 : Int64) : Prop := (wp_X1_size 12 (σ.2.1 8) (σ.1 17)  (fun r86 => ((r86 ≤ v3_81 → (K81 v1_81)) ∧ (¬ r86 ≤ v3_81 → (wp_X1_at 12 (σ.2.1 8) (σ.1 17) v3_81 (fun r102 => (rec81 (v3_81 + 1) ((31 * v1_81) + r102.toInt64))))))))
def wp_X3_checksum_L81 (σ : SX) (K81 : Int64 → Prop) : Nat → Int32 → Int64 → Prop
  | 0, _, _ => False
  | nn + 1, v3_81, v1_81 => wp_X3_checksum_B81 σ K81 (wp_X3_checksum_L81 σ K81 nn) v3_81 v1_81
def wp_X3_checksum_B6 (σ : SX) (K6 : Int64 → Prop) (rec6 : Int32 → Int64 → Prop) (v3_6 : Int32) (v1_6 : Int64) : Prop := (wp_X0_holes σ  (fun r11 => ((r11 ≤ v3_6 → (K6 v1_6)) ∧ (¬ r11 ≤ v3_6 → (wp_X0_cellOf σ v3_6 (fun r27 => (wp_X0_weightOf σ v3_6 (fun r43 => (rec6 (v3_6 + 1) ((31 * ((31 * v1_6) + r27.toInt64)) + r43.toInt64))))))))))
def wp_X3_checksum_L6 (σ : SX) (K6 : Int64 → Prop) : Nat → Int32 → Int64 → Prop
  | 0, _, _ => False
  | nn + 1, v3_6, v1_6 => wp_X3_checksum_B6 σ K6 (wp_X3_checksum_L6 σ K6 nn) v3_6 v1_6
def wp_X3_checksum (fu : Nat) (σ : SX) (P : Int64 → Prop) : Prop := (wp_X3_checksum_L6 σ (fun (v1_55 : Int64) => (wp_X3_checksum_L81 σ (fun (v1_114 : Int64) => (P v1_114)) fu 0 ((31 * ((31 * v1_55) + ((σ.1 15).toInt64))) + ((σ.1 16).toInt64)))) fu 0 7)
theorem k_X3_checksum : KV RX3 yX3_checksum cX3_checksum 4 (some .long) 0 := ⟨q346, q347, q1, q348, by decide +kernel⟩
set_option maxHeartbeats 4000000 in
set_option maxRecDepth 100000 in
theorem m_X3_checksum (l : Launch) (dC : Nat → ClassId) (dI : Nat → Nat → Nat) (h : Nat → Nat) (cy : Nat → ClassId) (fu : Nat) (σ : SX) (P : Int64 → Prop) (hF : wp_X3_checksum fu σ P) : Met l yX3_checksum (ws_ yX3_checksum cX3_checksum 4 (some .long)) ({ frames := 2, cells := 0, slots := 0, locals := 43 } : Room) (va_Pc [.ref (h 16)] (fun U => va_P (dC, dI) classes (wH h cy σ) U.heap ∧ kwX dC dI cy U)) (vp_Sl P) 0 0 (fun _ => False) := by
  refine Met.ofCx (own := RX3) (by decide) rfl (Nat.le_of_ble_eq_true rfl) ?_
  intro p e s m below meth c hC hv ls hl
  obtain ⟨hx, hb, hr, hml, hown, hts, hlocks⟩ := hC
  have hl : lv_has ls 4 [(0, .ref (h 16))] := hl
  obtain ⟨hP, hK⟩ := hv
  unfold wp_X3_checksum at hF
  refine lv_ldc2 (v := 7) hx hb hown (hts _ q349) dX3_checksum_0 ?_
  refine lv_lstore_n (lv' := [(1, .long 7), (0, .ref (h 16))]) hx hb dX3_checksum_3 rfl hl (by decide) rfl (fun ls hl => ?_)
  refine lv_iconst (v := 0) hx hb dX3_checksum_4 (by decide) ?_
  refine lv_istore_n (lv' := [(3, .int 0), (1, .long 7), (0, .ref (h 16))]) hx hb dX3_checksum_5 rfl hl (by decide) rfl (fun ls hl => ?_)
  have hX6 : ∀ (v1_55 : Int64), (fun (v1_55 : Int64) => (wp_X3_checksum_L81 σ (fun (v1_114 : Int64) => (P v1_114)) fu 0 ((31 * ((31 * v1_55) + ((σ.1 15).toInt64))) + ((σ.1 16).toInt64)))) v1_55 → ∀ (ls : Array Slot), lv_has ls 4 [(1, .long v1_55), (0, .ref (h 16))] → W p l e ({ frames := 2, cells := 0, slots := 0, locals := 43 } : Room) s m ([.ref (h 16)] : List Value).toArray below meth c s.heap [] 0 0 (MQ below (vp_Sl P) ([.ref (h 16)] : List Value).toArray s 0 0 (fun _ => False)) (F0 m 55 ls []) := by
    intro v1_55 hF ls hl
    refine lv_ldc2 (v := 31) hx hb hown (hts _ q354) dX3_checksum_55 ?_
    refine lv_lload_n hx hb dX3_checksum_58 rfl (lv_at hl 0 rfl) ?_
    refine lv_lmul hx hb dX3_checksum_59 ?_
    refine lv_aload_n hx hb dX3_checksum_60 rfl (lv_at hl 1 rfl) ?_
    refine va_get (D := (dC, dI)) (ci := 3) (v := .int (σ.1 15)) (C := RX3) (T := TX3) (N := 6) hx hb hts in_X3 hown hK.1 hP 16 rfl rfl 4 (by decide) (hts _ q145) (fun _ h9 => h9) rfl dX3_checksum_61 ?_
    refine lv_i2l hx hb dX3_checksum_64 rfl ?_
    refine lv_ladd hx hb dX3_checksum_65 ?_
    refine lv_lstore_n (lv' := [(1, .long ((31 * v1_55) + ((σ.1 15).toInt64))), (0, .ref (h 16))]) hx hb dX3_checksum_66 rfl hl (by decide) rfl (fun ls hl => ?_)
    refine lv_ldc2 (v := 31) hx hb hown (hts _ q354) dX3_checksum_67 ?_
    refine lv_lload_n hx hb dX3_checksum_70 rfl (lv_at hl 0 rfl) ?_
    refine lv_lmul hx hb dX3_checksum_71 ?_
    refine lv_aload_n hx hb dX3_checksum_72 rfl (lv_at hl 1 rfl) ?_
    refine va_get (D := (dC, dI)) (ci := 3) (v := .int (σ.1 16)) (C := RX3) (T := TX3) (N := 6) hx hb hts in_X3 hown hK.1 hP 16 rfl rfl 5 (by decide) (hts _ q146) (fun _ h9 => h9) rfl dX3_checksum_73 ?_
    refine lv_i2l hx hb dX3_checksum_76 rfl ?_
    refine lv_ladd hx hb dX3_checksum_77 ?_
    refine lv_lstore_n (lv' := [(1, .long ((31 * ((31 * v1_55) + ((σ.1 15).toInt64))) + ((σ.1 16).toInt64))), (0, .ref (h 16))]) hx hb dX3_checksum_78 rfl hl (by decide) rfl (fun ls hl => ?_)
    refine lv_iconst (v := 0) hx hb dX3_checksum_79 (by decide) ?_
    refine lv_istore_n (lv' := [(3, .int 0), (1, .long ((31 * ((31 * v1_55) + ((σ.1 15).toInt64))) + ((σ.1 16).toInt64))), (0, .ref (h 16))]) hx hb dX3_checksum_80 rfl hl (by decide) rfl (fun ls hl => ?_)
    have hX81 : ∀ (v1_114 : Int64), (fun (v1_114 : Int64) => (P v1_114)) v1_114 → ∀ (ls : Array Slot), lv_has ls 4 [(1, .long v1_114)] → W p l e ({ frames := 2, cells := 0, slots := 0, locals := 43 } : Room) s m ([.ref (h 16)] : List Value).toArray below meth c s.heap [] 0 0 (MQ below (vp_Sl P) ([.ref (h 16)] : List Value).toArray s 0 0 (fun _ => False)) (F0 m 114 ls []) := by
      intro v1_114 hF ls hl
      refine lv_lload_n hx hb dX3_checksum_114 rfl (lv_at hl 0 rfl) ?_
      exact W.lret (v := v1_114) hx hb hr (fun t ht hW => ⟨v1_114, rfl, hF, ht⟩) (fun q hq => absurd hq List.not_mem_nil) dX3_checksum_115
    have hL81 : ∀ (K81 : Int64 → Prop), (∀ (v1_114 : Int64), K81 v1_114 → ∀ (ls : Array Slot), lv_has ls 4 [(1, .long v1_114)] → W p l e ({ frames := 2, cells := 0, slots := 0, locals := 43 } : Room) s m ([.ref (h 16)] : List Value).toArray below meth c s.heap [] 0 0 (MQ below (vp_Sl P) ([.ref (h 16)] : List Value).toArray s 0 0 (fun _ => False)) (F0 m 114 ls [])) → ∀ (nn : Nat), ∀ (v3_81 : Int32), ∀ (v1_81 : Int64), wp_X3_checksum_L81 σ K81 nn v3_81 v1_81 → ∀ (ls : Array Slot), lv_has ls 4 [(3, .int v3_81), (1, .long v1_81), (0, .ref (h 16))] → W p l e ({ frames := 2, cells := 0, slots := 0, locals := 43 } : Room) s m ([.ref (h 16)] : List Value).toArray below meth c s.heap [] 0 0 (MQ below (vp_Sl P) ([.ref (h 16)] : List Value).toArray s 0 0 (fun _ => False)) (F0 m 81 ls []) := by
      intro K81 hX81 nn
      induction nn with
      | zero =>
        intro v3_81 v1_81 hF
        exact hF.elim
      | succ nn ih =>
        intro v3_81 v1_81 hF ls hl
        obtain ⟨rec81, hrec⟩ : ∃ z : Int32 → Int64 → Prop, z = wp_X3_checksum_L81 σ K81 nn := ⟨_, rfl⟩
        have hF : wp_X3_checksum_B81 σ K81 rec81 v3_81 v1_81 := by rw [hrec]; exact hF
        rw [← hrec] at ih
        clear hrec
        unfold wp_X3_checksum_B81 at hF
        refine lv_iload_n hx hb dX3_checksum_81 rfl (lv_at hl 0 rfl) ?_
        refine lv_aload_n hx hb dX3_checksum_82 rfl (lv_at hl 2 rfl) ?_
        refine va_get (D := (dC, dI)) (ci := 3) (v := .ref (h 17)) (C := RX3) (T := TX3) (N := 6) hx hb hts in_X3 hown hK.1 hP 16 rfl rfl 2 (by decide) (hts _ q143) (fun _ h9 => h9) rfl dX3_checksum_83 ?_
        have hPc := hP.sub (ws' := wR (h 17) (h 18) cy 12 (σ.2.1 8) (σ.1 17)) [17, 18] rfl
        refine cpVi (q0 := 0) (As := []) (rest := [.int v3_81]) ⟨hx, hb, hr, hml, hown, hts, hlocks⟩ hK hPc rfl rfl (m_X1_size l dC dI (h 17) (h 18) cy 12 (σ.2.1 8) (σ.1 17)  _ hF) k_X1_size q222 ⟨rfl, rfl⟩ ⟨Nat.le_of_ble_eq_true rfl, Nat.le_of_ble_eq_true rfl⟩ hl.1 rfl rfl (Nat.le_of_ble_eq_true rfl) dX3_checksum_86 ⟨Nat.le_of_ble_eq_true rfl, Nat.le_of_ble_eq_true rfl⟩ (fun r86 hF => ?_)
        refine lv_icmp_ge (tgt := 114) hx hb dX3_checksum_89 (by decide) (fun cz => ?_) (fun cz => ?_)
        · have hF := hF.1 cz
          exact hX81 v1_81 hF _ (lv_sub hl [1] rfl)
        · have hF := hF.2 cz
          refine lv_ldc2 (v := 31) hx hb hown (hts _ q354) dX3_checksum_92 ?_
          refine lv_lload_n hx hb dX3_checksum_95 rfl (lv_at hl 1 rfl) ?_
          refine lv_lmul hx hb dX3_checksum_96 ?_
          refine lv_aload_n hx hb dX3_checksum_97 rfl (lv_at hl 2 rfl) ?_
          refine va_get (D := (dC, dI)) (ci := 3) (v := .ref (h 17)) (C := RX3) (T := TX3) (N := 6) hx hb hts in_X3 hown hK.1 hP 16 rfl rfl 2 (by decide) (hts _ q143) (fun _ h9 => h9) rfl dX3_checksum_98 ?_
          refine lv_iload_n hx hb dX3_checksum_101 rfl (lv_at hl 0 rfl) ?_
          have hPc := hP.sub (ws' := wR (h 17) (h 18) cy 12 (σ.2.1 8) (σ.1 17)) [17, 18] rfl
          refine cpVi (q0 := 0) (As := [.int v3_81]) (rest := [.long (31 * v1_81)]) ⟨hx, hb, hr, hml, hown, hts, hlocks⟩ hK hPc rfl rfl (m_X1_at l dC dI (h 17) (h 18) cy 12 (σ.2.1 8) (σ.1 17) v3_81 _ hF) k_X1_at q227 ⟨rfl, rfl⟩ ⟨Nat.le_of_ble_eq_true rfl, Nat.le_of_ble_eq_true rfl⟩ hl.1 rfl rfl (Nat.le_of_ble_eq_true rfl) dX3_checksum_102 ⟨Nat.le_of_ble_eq_true rfl, Nat.le_of_ble_eq_true rfl⟩ (fun r102 hF => ?_)
          refine lv_i2l hx hb dX3_checksum_105 rfl ?_
          refine lv_ladd hx hb dX3_checksum_106 ?_
          refine lv_lstore_n (lv' := [(1, .long ((31 * v1_81) + r102.toInt64)), (3, .int v3_81), (0, .ref (h 16))]) hx hb dX3_checksum_107 rfl hl (by decide) rfl (fun ls hl => ?_)
          refine lv_iinc (v := v3_81 + 1) (lv' := [(3, .int (v3_81 + 1)), (1, .long ((31 * v1_81) + r102.toInt64)), (0, .ref (h 16))]) hx hb dX3_checksum_108 hl (k := 1) rfl (by rfl) (by decide) rfl (fun ls hl => ?_)
          refine lv_goto (tgt := 81) hx hb dX3_checksum_111 (by decide) ?_
          exact ih (v3_81 + 1) ((31 * v1_81) + r102.toInt64) hF _ (lv_sub hl [0, 1, 2] rfl)
    exact hL81 _ hX81 fu 0 ((31 * ((31 * v1_55) + ((σ.1 15).toInt64))) + ((σ.1 16).toInt64)) hF _ (lv_sub hl [0, 1, 2] rfl)
  have hL6 : ∀ (K6 : Int64 → Prop), (∀ (v1_55 : Int64), K6 v1_55 → ∀ (ls : Array Slot), lv_has ls 4 [(1, .long v1_55), (0, .ref (h 16))] → W p l e ({ frames := 2, cells := 0, slots := 0, locals := 43 } : Room) s m ([.ref (h 16)] : List Value).toArray below meth c s.heap [] 0 0 (MQ below (vp_Sl P) ([.ref (h 16)] : List Value).toArray s 0 0 (fun _ => False)) (F0 m 55 ls [])) → ∀ (nn : Nat), ∀ (v3_6 : Int32), ∀ (v1_6 : Int64), wp_X3_checksum_L6 σ K6 nn v3_6 v1_6 → ∀ (ls : Array Slot), lv_has ls 4 [(3, .int v3_6), (1, .long v1_6), (0, .ref (h 16))] → W p l e ({ frames := 2, cells := 0, slots := 0, locals := 43 } : Room) s m ([.ref (h 16)] : List Value).toArray below meth c s.heap [] 0 0 (MQ below (vp_Sl P) ([.ref (h 16)] : List Value).toArray s 0 0 (fun _ => False)) (F0 m 6 ls []) := by
    intro K6 hX6 nn
    induction nn with
    | zero =>
      intro v3_6 v1_6 hF
      exact hF.elim
    | succ nn ih =>
      intro v3_6 v1_6 hF ls hl
      obtain ⟨rec6, hrec⟩ : ∃ z : Int32 → Int64 → Prop, z = wp_X3_checksum_L6 σ K6 nn := ⟨_, rfl⟩
      have hF : wp_X3_checksum_B6 σ K6 rec6 v3_6 v1_6 := by rw [hrec]; exact hF
      rw [← hrec] at ih
      clear hrec
      unfold wp_X3_checksum_B6 at hF
      refine lv_iload_n hx hb dX3_checksum_6 rfl (lv_at hl 0 rfl) ?_
      refine lv_aload_n hx hb dX3_checksum_7 rfl (lv_at hl 2 rfl) ?_
      refine va_get (D := (dC, dI)) (ci := 3) (v := .ref (h 0)) (C := RX3) (T := TX3) (N := 6) hx hb hts in_X3 hown hK.1 hP 16 rfl rfl 0 (by decide) (hts _ q141) (fun _ h9 => h9) rfl dX3_checksum_8 ?_
      have hPc := hP.sub (ws' := wB h cy σ) [0, 1, 2, 3, 4, 5, 6, 7, 8, 9, 10, 11] rfl
      refine cpVi (q0 := 0) (As := []) (rest := [.int v3_6]) ⟨hx, hb, hr, hml, hown, hts, hlocks⟩ hK hPc rfl rfl (m_X0_holes l dC dI h cy σ  _ hF) k_X0_holes q350 ⟨rfl, rfl⟩ ⟨Nat.le_of_ble_eq_true rfl, Nat.le_of_ble_eq_true rfl⟩ hl.1 rfl rfl (Nat.le_of_ble_eq_true rfl) dX3_checksum_11 ⟨Nat.le_of_ble_eq_true rfl, Nat.le_of_ble_eq_true rfl⟩ (fun r11 hF => ?_)
      refine lv_icmp_ge (tgt := 55) hx hb dX3_checksum_14 (by decide) (fun cz => ?_) (fun cz => ?_)
      · have hF := hF.1 cz
        exact hX6 v1_6 hF _ (lv_sub hl [1, 2] rfl)
      · have hF := hF.2 cz
        refine lv_ldc2 (v := 31) hx hb hown (hts _ q354) dX3_checksum_17 ?_
        refine lv_lload_n hx hb dX3_checksum_20 rfl (lv_at hl 1 rfl) ?_
        refine lv_lmul hx hb dX3_checksum_21 ?_
        refine lv_aload_n hx hb dX3_checksum_22 rfl (lv_at hl 2 rfl) ?_
        refine va_get (D := (dC, dI)) (ci := 3) (v := .ref (h 0)) (C := RX3) (T := TX3) (N := 6) hx hb hts in_X3 hown hK.1 hP 16 rfl rfl 0 (by decide) (hts _ q141) (fun _ h9 => h9) rfl dX3_checksum_23 ?_
        refine lv_iload_n hx hb dX3_checksum_26 rfl (lv_at hl 0 rfl) ?_
        have hPc := hP.sub (ws' := wB h cy σ) [0, 1, 2, 3, 4, 5, 6, 7, 8, 9, 10, 11] rfl
        refine cpVi (q0 := 0) (As := [.int v3_6]) (rest := [.long (31 * v1_6)]) ⟨hx, hb, hr, hml, hown, hts, hlocks⟩ hK hPc rfl rfl (m_X0_cellOf l dC dI h cy σ v3_6 _ hF) k_X0_cellOf q355 ⟨rfl, rfl⟩ ⟨Nat.le_of_ble_eq_true rfl, Nat.le_of_ble_eq_true rfl⟩ hl.1 rfl rfl (Nat.le_of_ble_eq_true rfl) dX3_checksum_27 ⟨Nat.le_of_ble_eq_true rfl, Nat.le_of_ble_eq_true rfl⟩ (fun r27 hF => ?_)
        refine lv_i2l hx hb dX3_checksum_30 rfl ?_
        refine lv_ladd hx hb dX3_checksum_31 ?_
        refine lv_lstore_n (lv' := [(1, .long ((31 * v1_6) + r27.toInt64)), (3, .int v3_6), (0, .ref (h 16))]) hx hb dX3_checksum_32 rfl hl (by decide) rfl (fun ls hl => ?_)
        refine lv_ldc2 (v := 31) hx hb hown (hts _ q354) dX3_checksum_33 ?_
        refine lv_lload_n hx hb dX3_checksum_36 rfl (lv_at hl 0 rfl) ?_
        refine lv_lmul hx hb dX3_checksum_37 ?_
        refine lv_aload_n hx hb dX3_checksum_38 rfl (lv_at hl 2 rfl) ?_
        refine va_get (D := (dC, dI)) (ci := 3) (v := .ref (h 0)) (C := RX3) (T := TX3) (N := 6) hx hb hts in_X3 hown hK.1 hP 16 rfl rfl 0 (by decide) (hts _ q141) (fun _ h9 => h9) rfl dX3_checksum_39 ?_
        refine lv_iload_n hx hb dX3_checksum_42 rfl (lv_at hl 1 rfl) ?_
        have hPc := hP.sub (ws' := wB h cy σ) [0, 1, 2, 3, 4, 5, 6, 7, 8, 9, 10, 11] rfl
        refine cpVi (q0 := 0) (As := [.int v3_6]) (rest := [.long (31 * ((31 * v1_6) + r27.toInt64))]) ⟨hx, hb, hr, hml, hown, hts, hlocks⟩ hK hPc rfl rfl (m_X0_weightOf l dC dI h cy σ v3_6 _ hF) k_X0_weightOf q359 ⟨rfl, rfl⟩ ⟨Nat.le_of_ble_eq_true rfl, Nat.le_of_ble_eq_true rfl⟩ hl.1 rfl rfl (Nat.le_of_ble_eq_true rfl) dX3_checksum_43 ⟨Nat.le_of_ble_eq_true rfl, Nat.le_of_ble_eq_true rfl⟩ (fun r43 hF => ?_)
        refine lv_i2l hx hb dX3_checksum_46 rfl ?_
        refine lv_ladd hx hb dX3_checksum_47 ?_
        refine lv_lstore_n (lv' := [(1, .long ((31 * ((31 * v1_6) + r27.toInt64)) + r43.toInt64)), (3, .int v3_6), (0, .ref (h 16))]) hx hb dX3_checksum_48 rfl hl (by decide) rfl (fun ls hl => ?_)
        refine lv_iinc (v := v3_6 + 1) (lv' := [(3, .int (v3_6 + 1)), (1, .long ((31 * ((31 * v1_6) + r27.toInt64)) + r43.toInt64)), (0, .ref (h 16))]) hx hb dX3_checksum_49 hl (k := 1) rfl (by rfl) (by decide) rfl (fun ls hl => ?_)
        refine lv_goto (tgt := 6) hx hb dX3_checksum_52 (by decide) ?_
        exact ih (v3_6 + 1) ((31 * ((31 * v1_6) + r27.toInt64)) + r43.toInt64) hF _ (lv_sub hl [0, 1, 2] rfl)
  exact hL6 _ hX6 fu 0 7 hF _ (lv_sub hl [0, 1, 2] rfl)
theorem dX3_clear_0 : decode cX3_clear 0 = .ok (.aload_n 0, 1) := by decide +kernel
theorem dX3_clear_1 : decode cX3_clear 1 = .ok (.getfield 34, 3) := by decide +kernel
theorem dX3_clear_4 : decode cX3_clear 4 = .ok (.invokevirtual 144, 3) := by decide +kernel
theorem dX3_clear_7 : decode cX3_clear 7 = .ok (.istore_n 1, 1) := by decide +kernel
theorem dX3_clear_8 : decode cX3_clear 8 = .ok (.aload_n 0, 1) := by decide +kernel
theorem dX3_clear_9 : decode cX3_clear 9 = .ok (.getfield 34, 3) := by decide +kernel
theorem dX3_clear_12 : decode cX3_clear 12 = .ok (.invokevirtual 113, 3) := by decide +kernel
theorem dX3_clear_15 : decode cX3_clear 15 = .ok (.iload_n 1, 1) := by decide +kernel
theorem dX3_clear_16 : decode cX3_clear 16 = .ok (.ireturn, 1) := by decide +kernel
def wp_X3_clear (σ : SX) (P : Int32 → SX → Prop) : Prop := (wp_X1_size 12 (σ.2.1 9) (σ.1 18)  (fun r4 => (wp_X1_empty 12 (σ.2.1 9) (σ.1 18)  (fun f12 n12 => (P r4 (sI (sA σ 9 f12) 18 n12))))))
theorem k_X3_clear : KV RX3 yX3_clear cX3_clear 2 (some .int) 0 := ⟨q338, q339, q1, q340, by decide +kernel⟩
set_option maxHeartbeats 4000000 in
set_option maxRecDepth 100000 in
theorem m_X3_clear (l : Launch) (dC : Nat → ClassId) (dI : Nat → Nat → Nat) (h : Nat → Nat) (cy : Nat → ClassId) (sz : Nat) (σ : SX) (P : Int32 → SX → Prop) (hF : wp_X3_clear σ P) : Met l yX3_clear (ws_ yX3_clear cX3_clear 2 (some .int)) ({ frames := 1, cells := 0, slots := 0, locals := 20 } : Room) (va_Pc [.ref (h 16)] (fun U => U.heap.size = sz ∧ va_P (dC, dI) classes (wH h cy σ) U.heap ∧ kwX dC dI cy U ∧ va_D (fun _ => True) (wH h cy σ))) (va_Qi (fun r u => P r u) (fun (u : SX) t => va_P (dC, dI) classes (wH h cy u) t.heap ∧ kwX dC dI cy t ∧ va_D (va_A (wH h cy σ) sz) (wH h cy u)) (va_A (wH h cy σ) sz)) 0 0 (va_A (wH h cy σ) sz) := by
  refine Met.ofCx (own := RX3) (by decide) rfl (Nat.le_of_ble_eq_true rfl) ?_
  intro p e s m below meth c hC hv ls hl
  obtain ⟨hx, hb, hr, hml, hown, hts, hlocks⟩ := hC
  have hl : lv_has ls 2 [(0, .ref (h 16))] := hl
  obtain ⟨hsz, hP, hK, hD0⟩ := hv
  subst hsz
  have hD := hD0.self (sz := s.heap.size)
  generalize hAe : va_A (wH h cy σ) s.heap.size = A at hD ⊢
  have hA : ∀ q : Nat, s.heap.size ≤ q → A q := fun q h => by rw [← hAe]; exact Or.inr h
  have hS : va_S A s.heap s.heap [] := va_S.rf
  clear hAe
  unfold wp_X3_clear at hF
  refine lv_aload_n hx hb dX3_clear_0 rfl (lv_at hl 0 rfl) ?_
  refine va_get (D := (dC, dI)) (ci := 3) (v := .ref (h 19)) (C := RX3) (T := TX3) (N := 6) hx hb hts in_X3 hown hK.1 hP 16 rfl rfl 3 (by decide) (hts _ q144) (fun _ h9 => h9) rfl dX3_clear_1 ?_
  have hPc := hP.sub (ws' := wR (h 19) (h 20) cy 12 (σ.2.1 9) (σ.1 18)) [19, 20] rfl
  refine cpVi (q0 := 0) (As := []) (rest := []) ⟨hx, hb, hr, hml, hown, hts, hlocks⟩ hK hPc rfl rfl (m_X1_size l dC dI (h 19) (h 20) cy 12 (σ.2.1 9) (σ.1 18)  _ hF) k_X1_size q222 ⟨rfl, rfl⟩ ⟨Nat.le_of_ble_eq_true rfl, Nat.le_of_ble_eq_true rfl⟩ hl.1 rfl rfl (Nat.le_of_ble_eq_true rfl) dX3_clear_4 ⟨Nat.le_of_ble_eq_true rfl, Nat.le_of_ble_eq_true rfl⟩ (fun r4 hF => ?_)
  refine lv_istore_n (lv' := [(1, .int r4), (0, .ref (h 16))]) hx hb dX3_clear_7 rfl hl (by decide) rfl (fun ls hl => ?_)
  refine lv_aload_n hx hb dX3_clear_8 rfl (lv_at hl 1 rfl) ?_
  refine va_get (D := (dC, dI)) (ci := 3) (v := .ref (h 19)) (C := RX3) (T := TX3) (N := 6) hx hb hts in_X3 hown hK.1 hP 16 rfl rfl 3 (by decide) (hts _ q144) (fun _ h9 => h9) rfl dX3_clear_9 ?_
  have hPc := hP.sub (ws' := wR (h 19) (h 20) cy 12 (σ.2.1 9) (σ.1 18)) [19, 20] rfl
  have hDc := hD.sub (ws' := wR (h 19) (h 20) cy 12 (σ.2.1 9) (σ.1 18)) [19, 20] (by decide) rfl
  have hFc := va_free (wc := wR (h 19) (h 20) cy 12 (σ.2.1 9) (σ.1 18)) hD hS hA [19, 20] rfl
  refine cwVv (q0 := 0) (As := []) (rest := []) ⟨hx, hb, hr, hml, hown, hts, hlocks⟩ hK hPc hDc rfl rfl hS hFc (m_X1_empty l dC dI (h 19) (h 20) cy _ 12 (σ.2.1 9) (σ.1 18)  _ hF) k_X1_empty q341 ⟨rfl, rfl⟩ ⟨Nat.le_of_ble_eq_true rfl, Nat.le_of_ble_eq_true rfl⟩ hl.1 rfl rfl (Nat.le_of_ble_eq_true rfl) dX3_clear_12 ⟨Nat.le_of_ble_eq_true rfl, Nat.le_of_ble_eq_true rfl⟩ (fun u H1 locs hF hP1 hD1 hk1 hS => ?_)
  obtain ⟨f12, n12⟩ := u
  obtain ⟨hP, hD⟩ := va_join (wr := [(h 0, .inr (0, [.int (σ.1 0), .int (σ.1 1), .ref (h 1), .ref (h 2), .ref (h 4), .ref (h 6), .ref (h 8), .ref (h 10)])), (h 1, .inl (cy 0, 25, .inl (σ.2.1 0))), (h 2, .inr (1, [.ref (h 3), .int (σ.1 2)])), (h 3, .inl (cy 0, 13, .inl (σ.2.1 1))), (h 4, .inr (1, [.ref (h 5), .int (σ.1 3)])), (h 5, .inl (cy 0, 104, .inl (σ.2.1 2))), (h 6, .inr (1, [.ref (h 7), .int (σ.1 4)])), (h 7, .inl (cy 0, 104, .inl (σ.2.1 3))), (h 8, .inr (1, [.ref (h 9), .int (σ.1 5)])), (h 9, .inl (cy 0, 104, .inl (σ.2.1 4))), (h 10, .inr (1, [.ref (h 11), .int (σ.1 6)])), (h 11, .inl (cy 0, 104, .inl (σ.2.1 5))), (h 12, .inr (2, [.ref (h 0), .ref (h 13), .ref (h 14), .ref (h 15), .int (σ.1 7), .int (σ.1 8), .int (σ.1 9), .int (σ.1 10), .int (σ.1 11), .int (σ.1 12), .int (σ.1 13), .int (σ.1 14)])), (h 13, .inl (cy 0, 8192, .inl (σ.2.1 6))), (h 14, .inl (cy 1, 8192, .inr (.inl (σ.2.2)))), (h 15, .inl (cy 0, 10240, .inl (σ.2.1 7))), (h 16, .inr (3, [.ref (h 0), .ref (h 12), .ref (h 17), .ref (h 19), .int (σ.1 15), .int (σ.1 16)])), (h 17, .inr (1, [.ref (h 18), .int (σ.1 17)])), (h 18, .inl (cy 0, 12, .inl (σ.2.1 8)))]) (w1 := wR (h 19) (h 20) cy 12 f12 n12) hP hD [19, 20] [0, 1, 2, 3, 4, 5, 6, 7, 8, 9, 10, 11, 12, 13, 14, 15, 16, 17, 18] rfl rfl (by decide) (by decide) hk1 hFc hP1 hD1
  have hP := hP.sub (ws' := wH h cy (sI (sA σ 9 f12) 18 n12)) [0, 1, 2, 3, 4, 5, 6, 7, 8, 9, 10, 11, 12, 13, 14, 15, 16, 17, 18, 19, 20] rfl
  have hD := hD.sub (ws' := wH h cy (sI (sA σ 9 f12) 18 n12)) [0, 1, 2, 3, 4, 5, 6, 7, 8, 9, 10, 11, 12, 13, 14, 15, 16, 17, 18, 19, 20] (by decide) rfl
  generalize H1 = H at hP hS ⊢
  have hP : va_P (dC, dI) classes (wH h cy (sI (sA σ 9 f12) 18 n12)) H := hP
  have hD : va_D A (wH h cy (sI (sA σ 9 f12) 18 n12)) := hD
  refine lv_iload_n hx hb dX3_clear_15 rfl (lv_at hl 0 rfl) ?_
  exact W.iret (v := r4) hx hb hr (fun t ht hW => ⟨⟨r4, sI (sA σ 9 f12) 18 n12, rfl, hF, by rw [ht]; exact hP, hK.warm hW, hD⟩, hS.F ht⟩) hS.2.2 dX3_clear_16
theorem dX3_dead_0 : decode cX3_dead 0 = .ok (.aload_n 0, 1) := by decide +kernel
theorem dX3_dead_1 : decode cX3_dead 1 = .ok (.getfield 21, 3) := by decide +kernel
theorem dX3_dead_4 : decode cX3_dead 4 = .ok (.aload_n 0, 1) := by decide +kernel
theorem dX3_dead_5 : decode cX3_dead 5 = .ok (.getfield 83, 3) := by decide +kernel
theorem dX3_dead_8 : decode cX3_dead 8 = .ok (.invokevirtual 169, 3) := by decide +kernel
theorem dX3_dead_11 : decode cX3_dead 11 = .ok (.aload_n 0, 1) := by decide +kernel
theorem dX3_dead_12 : decode cX3_dead 12 = .ok (.getfield 21, 3) := by decide +kernel
theorem dX3_dead_15 : decode cX3_dead 15 = .ok (.getfield 189, 3) := by decide +kernel
theorem dX3_dead_18 : decode cX3_dead 18 = .ok (.ireturn, 1) := by decide +kernel
def wp_X3_dead (fu : Nat) (σ : SX) (P : Int32 → SX → Prop) : Prop := (wp_X2_begin fu σ (σ.1 15) (fun s8 => (P (s8.1 9) (mgX2 σ s8))))
theorem k_X3_dead : KV RX3 yX3_dead cX3_dead 1 (some .int) 0 := ⟨q273, q274, q1, q275, by decide +kernel⟩
set_option maxHeartbeats 4000000 in
set_option maxRecDepth 100000 in
theorem m_X3_dead (l : Launch) (dC : Nat → ClassId) (dI : Nat → Nat → Nat) (h : Nat → Nat) (cy : Nat → ClassId) (sz : Nat) (fu : Nat) (σ : SX) (P : Int32 → SX → Prop) (hF : wp_X3_dead fu σ P) : Met l yX3_dead (ws_ yX3_dead cX3_dead 1 (some .int)) ({ frames := 4, cells := 0, slots := 0, locals := 90 } : Room) (va_Pc [.ref (h 16)] (fun U => U.heap.size = sz ∧ va_P (dC, dI) classes (wH h cy σ) U.heap ∧ kwX dC dI cy U ∧ va_D (fun _ => True) (wH h cy σ))) (va_Qi (fun r u => P r u) (fun (u : SX) t => va_P (dC, dI) classes (wH h cy u) t.heap ∧ kwX dC dI cy t ∧ va_D (va_A (wH h cy σ) sz) (wH h cy u)) (va_A (wH h cy σ) sz)) 0 0 (va_A (wH h cy σ) sz) := by
  refine Met.ofCx (own := RX3) (by decide) rfl (Nat.le_of_ble_eq_true rfl) ?_
  intro p e s m below meth c hC hv ls hl
  obtain ⟨hx, hb, hr, hml, hown, hts, hlocks⟩ := hC
  have hl : lv_has ls 1 [(0, .ref (h 16))] := hl
  obtain ⟨hsz, hP, hK, hD0⟩ := hv
  subst hsz
  have hD := hD0.self (sz := s.heap.size)
  generalize hAe : va_A (wH h cy σ) s.heap.size = A at hD ⊢
  have hA : ∀ q : Nat, s.heap.size ≤ q → A q := fun q h => by rw [← hAe]; exact Or.inr h
  have hS : va_S A s.heap s.heap [] := va_S.rf
  clear hAe
  unfold wp_X3_dead at hF
  refine lv_aload_n hx hb dX3_dead_0 rfl (lv_at hl 0 rfl) ?_
  refine va_get (D := (dC, dI)) (ci := 3) (v := .ref (h 12)) (C := RX3) (T := TX3) (N := 6) hx hb hts in_X3 hown hK.1 hP 16 rfl rfl 1 (by decide) (hts _ q142) (fun _ h9 => h9) rfl dX3_dead_1 ?_
  refine lv_aload_n hx hb dX3_dead_4 rfl (lv_at hl 0 rfl) ?_
  refine va_get (D := (dC, dI)) (ci := 3) (v := .int (σ.1 15)) (C := RX3) (T := TX3) (N := 6) hx hb hts in_X3 hown hK.1 hP 16 rfl rfl 4 (by decide) (hts _ q145) (fun _ h9 => h9) rfl dX3_dead_5 ?_
  have hPc := hP.sub (ws' := wW h cy σ) [0, 1, 2, 3, 4, 5, 6, 7, 8, 9, 10, 11, 12, 13, 14, 15] rfl
  have hDc := hD.sub (ws' := wW h cy σ) [0, 1, 2, 3, 4, 5, 6, 7, 8, 9, 10, 11, 12, 13, 14, 15] (by decide) rfl
  have hFc := va_free (wc := wW h cy σ) hD hS hA [0, 1, 2, 3, 4, 5, 6, 7, 8, 9, 10, 11, 12, 13, 14, 15] rfl
  refine cwVv (q0 := 12) (As := [.int (σ.1 15)]) (rest := []) ⟨hx, hb, hr, hml, hown, hts, hlocks⟩ hK hPc hDc rfl rfl hS hFc (m_X2_begin l dC dI h cy _ fu σ (σ.1 15) _ hF) k_X2_begin q232 ⟨rfl, rfl⟩ ⟨Nat.le_of_ble_eq_true rfl, Nat.le_of_ble_eq_true rfl⟩ hl.1 rfl rfl (Nat.le_of_ble_eq_true rfl) dX3_dead_8 ⟨Nat.le_of_ble_eq_true rfl, Nat.le_of_ble_eq_true rfl⟩ (fun u H1 locs hF hP1 hD1 hk1 hS => ?_)
  obtain ⟨s8, rfl⟩ : ∃ z, z = u := ⟨_, rfl⟩
  obtain ⟨hP, hD⟩ := va_join (wr := [(h 16, .inr (3, [.ref (h 0), .ref (h 12), .ref (h 17), .ref (h 19), .int (σ.1 15), .int (σ.1 16)])), (h 17, .inr (1, [.ref (h 18), .int (σ.1 17)])), (h 18, .inl (cy 0, 12, .inl (σ.2.1 8))), (h 19, .inr (1, [.ref (h 20), .int (σ.1 18)])), (h 20, .inl (cy 0, 12, .inl (σ.2.1 9)))]) (w1 := wW h cy s8) hP hD [0, 1, 2, 3, 4, 5, 6, 7, 8, 9, 10, 11, 12, 13, 14, 15] [16, 17, 18, 19, 20] rfl rfl (by decide) (by decide) hk1 hFc hP1 hD1
  have hP := hP.sub (ws' := wH h cy (mgX2 σ s8)) [5, 6, 7, 8, 9, 10, 11, 12, 13, 14, 15, 16, 17, 18, 19, 20, 0, 1, 2, 3, 4] rfl
  have hD := hD.sub (ws' := wH h cy (mgX2 σ s8)) [5, 6, 7, 8, 9, 10, 11, 12, 13, 14, 15, 16, 17, 18, 19, 20, 0, 1, 2, 3, 4] (by decide) rfl
  generalize H1 = H at hP hS ⊢
  have hP : va_P (dC, dI) classes (wH h cy (mgX2 σ s8)) H := hP
  have hD : va_D A (wH h cy (mgX2 σ s8)) := hD
  refine lv_aload_n hx hb dX3_dead_11 rfl (lv_at hl 0 rfl) ?_
  refine va_get (D := (dC, dI)) (ci := 3) (v := .ref (h 12)) (C := RX3) (T := TX3) (N := 6) hx hb hts in_X3 hown hK.1 hP 16 rfl rfl 1 (by decide) (hts _ q142) (fun _ h9 => h9) rfl dX3_dead_12 ?_
  refine va_getN (D := (dC, dI)) (ci := 2) (v := .int (s8.1 9)) (C := RX2) (T := TX2) (N := 12) hx hb hts in_X2 hown hK.1 hP 12 rfl rfl 6 (by decide) (va_Nw.use rfl hK.2.2.2.2.1) (fun _ h9 => h9) rfl dX3_dead_15 ?_
  exact W.iret (v := s8.1 9) hx hb hr (fun t ht hW => ⟨⟨s8.1 9, mgX2 σ s8, rfl, hF, by rw [ht]; exact hP, hK.warm hW, hD⟩, hS.F ht⟩) hS.2.2 dX3_dead_18
theorem dX3_forgetAll_0 : decode cX3_forgetAll 0 = .ok (.aload_n 0, 1) := by decide +kernel
theorem dX3_forgetAll_1 : decode cX3_forgetAll 1 = .ok (.getfield 30, 3) := by decide +kernel
theorem dX3_forgetAll_4 : decode cX3_forgetAll 4 = .ok (.invokevirtual 113, 3) := by decide +kernel
theorem dX3_forgetAll_7 : decode cX3_forgetAll 7 = .ok (.aload_n 0, 1) := by decide +kernel
theorem dX3_forgetAll_8 : decode cX3_forgetAll 8 = .ok (.getfield 34, 3) := by decide +kernel
theorem dX3_forgetAll_11 : decode cX3_forgetAll 11 = .ok (.invokevirtual 113, 3) := by decide +kernel
theorem dX3_forgetAll_14 : decode cX3_forgetAll 14 = .ok (.aload_n 0, 1) := by decide +kernel
theorem dX3_forgetAll_15 : decode cX3_forgetAll 15 = .ok (.getfield 21, 3) := by decide +kernel
theorem dX3_forgetAll_18 : decode cX3_forgetAll 18 = .ok (.invokevirtual 292, 3) := by decide +kernel
theorem dX3_forgetAll_21 : decode cX3_forgetAll 21 = .ok (.return_, 1) := by decide +kernel
def wp_X3_forgetAll (σ : SX) (P : SX → Prop) : Prop := (wp_X1_empty 12 (σ.2.1 8) (σ.1 17)  (fun f4 n4 => (wp_X1_empty 12 (σ.2.1 9) (σ.1 18)  (fun f11 n11 => (wp_X2_forget (sI (sA (sI (sA σ 8 f4) 17 n4) 9 f11) 18 n11)  (fun s18 => (P (mgX2 (sI (sA (sI (sA σ 8 f4) 17 n4) 9 f11) 18 n11) s18))))))))
theorem k_X3_forgetAll : KV RX3 yX3_forgetAll cX3_forgetAll 1 none 0 := ⟨q493, qs13, q1, q494, by decide +kernel⟩
set_option maxHeartbeats 4000000 in
set_option maxRecDepth 100000 in
theorem m_X3_forgetAll (l : Launch) (dC : Nat → ClassId) (dI : Nat → Nat → Nat) (h : Nat → Nat) (cy : Nat → ClassId) (sz : Nat) (σ : SX) (P : SX → Prop) (hF : wp_X3_forgetAll σ P) : Met l yX3_forgetAll (ws_ yX3_forgetAll cX3_forgetAll 1 none) ({ frames := 1, cells := 0, slots := 0, locals := 20 } : Room) (va_Pc [.ref (h 16)] (fun U => U.heap.size = sz ∧ va_P (dC, dI) classes (wH h cy σ) U.heap ∧ kwX dC dI cy U ∧ va_D (fun _ => True) (wH h cy σ))) (va_Qv (fun u => P u) (fun (u : SX) t => va_P (dC, dI) classes (wH h cy u) t.heap ∧ kwX dC dI cy t ∧ va_D (va_A (wH h cy σ) sz) (wH h cy u)) (va_A (wH h cy σ) sz)) 0 0 (va_A (wH h cy σ) sz) := by
  refine Met.ofCx (own := RX3) (by decide) rfl (Nat.le_of_ble_eq_true rfl) ?_
  intro p e s m below meth c hC hv ls hl
  obtain ⟨hx, hb, hr, hml, hown, hts, hlocks⟩ := hC
  have hl : lv_has ls 1 [(0, .ref (h 16))] := hl
  obtain ⟨hsz, hP, hK, hD0⟩ := hv
  subst hsz
  have hD := hD0.self (sz := s.heap.size)
  generalize hAe : va_A (wH h cy σ) s.heap.size = A at hD ⊢
  have hA : ∀ q : Nat, s.heap.size ≤ q → A q := fun q h => by rw [← hAe]; exact Or.inr h
  have hS : va_S A s.heap s.heap [] := va_S.rf
  clear hAe
  unfold wp_X3_forgetAll at hF
  refine lv_aload_n hx hb dX3_forgetAll_0 rfl (lv_at hl 0 rfl) ?_
  refine va_get (D := (dC, dI)) (ci := 3) (v := .ref (h 17)) (C := RX3) (T := TX3) (N := 6) hx hb hts in_X3 hown hK.1 hP 16 rfl rfl 2 (by decide) (hts _ q143) (fun _ h9 => h9) rfl dX3_forgetAll_1 ?_
  have hPc := hP.sub (ws' := wR (h 17) (h 18) cy 12 (σ.2.1 8) (σ.1 17)) [17, 18] rfl
  have hDc := hD.sub (ws' := wR (h 17) (h 18) cy 12 (σ.2.1 8) (σ.1 17)) [17, 18] (by decide) rfl
  have hFc := va_free (wc := wR (h 17) (h 18) cy 12 (σ.2.1 8) (σ.1 17)) hD hS hA [17, 18] rfl
  refine cwVv (q0 := 0) (As := []) (rest := []) ⟨hx, hb, hr, hml, hown, hts, hlocks⟩ hK hPc hDc rfl rfl hS hFc (m_X1_empty l dC dI (h 17) (h 18) cy _ 12 (σ.2.1 8) (σ.1 17)  _ hF) k_X1_empty q341 ⟨rfl, rfl⟩ ⟨Nat.le_of_ble_eq_true rfl, Nat.le_of_ble_eq_true rfl⟩ hl.1 rfl rfl (Nat.le_of_ble_eq_true rfl) dX3_forgetAll_4 ⟨Nat.le_of_ble_eq_true rfl, Nat.le_of_ble_eq_true rfl⟩ (fun u H1 locs hF hP1 hD1 hk1 hS => ?_)
  obtain ⟨f4, n4⟩ := u
  obtain ⟨hP, hD⟩ := va_join (wr := [(h 0, .inr (0, [.int (σ.1 0), .int (σ.1 1), .ref (h 1), .ref (h 2), .ref (h 4), .ref (h 6), .ref (h 8), .ref (h 10)])), (h 1, .inl (cy 0, 25, .inl (σ.2.1 0))), (h 2, .inr (1, [.ref (h 3), .int (σ.1 2)])), (h 3, .inl (cy 0, 13, .inl (σ.2.1 1))), (h 4, .inr (1, [.ref (h 5), .int (σ.1 3)])), (h 5, .inl (cy 0, 104, .inl (σ.2.1 2))), (h 6, .inr (1, [.ref (h 7), .int (σ.1 4)])), (h 7, .inl (cy 0, 104, .inl (σ.2.1 3))), (h 8, .inr (1, [.ref (h 9), .int (σ.1 5)])), (h 9, .inl (cy 0, 104, .inl (σ.2.1 4))), (h 10, .inr (1, [.ref (h 11), .int (σ.1 6)])), (h 11, .inl (cy 0, 104, .inl (σ.2.1 5))), (h 12, .inr (2, [.ref (h 0), .ref (h 13), .ref (h 14), .ref (h 15), .int (σ.1 7), .int (σ.1 8), .int (σ.1 9), .int (σ.1 10), .int (σ.1 11), .int (σ.1 12), .int (σ.1 13), .int (σ.1 14)])), (h 13, .inl (cy 0, 8192, .inl (σ.2.1 6))), (h 14, .inl (cy 1, 8192, .inr (.inl (σ.2.2)))), (h 15, .inl (cy 0, 10240, .inl (σ.2.1 7))), (h 16, .inr (3, [.ref (h 0), .ref (h 12), .ref (h 17), .ref (h 19), .int (σ.1 15), .int (σ.1 16)])), (h 19, .inr (1, [.ref (h 20), .int (σ.1 18)])), (h 20, .inl (cy 0, 12, .inl (σ.2.1 9)))]) (w1 := wR (h 17) (h 18) cy 12 f4 n4) hP hD [17, 18] [0, 1, 2, 3, 4, 5, 6, 7, 8, 9, 10, 11, 12, 13, 14, 15, 16, 19, 20] rfl rfl (by decide) (by decide) hk1 hFc hP1 hD1
  have hP := hP.sub (ws' := wH h cy (sI (sA σ 8 f4) 17 n4)) [0, 1, 2, 3, 4, 5, 6, 7, 8, 9, 10, 11, 12, 13, 14, 15, 16, 19, 20, 17, 18] rfl
  have hD := hD.sub (ws' := wH h cy (sI (sA σ 8 f4) 17 n4)) [0, 1, 2, 3, 4, 5, 6, 7, 8, 9, 10, 11, 12, 13, 14, 15, 16, 19, 20, 17, 18] (by decide) rfl
  generalize H1 = H at hP hS ⊢
  have hP : va_P (dC, dI) classes (wH h cy (sI (sA σ 8 f4) 17 n4)) H := hP
  have hD : va_D A (wH h cy (sI (sA σ 8 f4) 17 n4)) := hD
  refine lv_aload_n hx hb dX3_forgetAll_7 rfl (lv_at hl 0 rfl) ?_
  refine va_get (D := (dC, dI)) (ci := 3) (v := .ref (h 19)) (C := RX3) (T := TX3) (N := 6) hx hb hts in_X3 hown hK.1 hP 16 rfl rfl 3 (by decide) (hts _ q144) (fun _ h9 => h9) rfl dX3_forgetAll_8 ?_
  have hPc := hP.sub (ws' := wR (h 19) (h 20) cy 12 (σ.2.1 9) (σ.1 18)) [19, 20] rfl
  have hDc := hD.sub (ws' := wR (h 19) (h 20) cy 12 (σ.2.1 9) (σ.1 18)) [19, 20] (by decide) rfl
  have hFc := va_free (wc := wR (h 19) (h 20) cy 12 (σ.2.1 9) (σ.1 18)) hD hS hA [19, 20] rfl
  refine cwVv (q0 := 0) (As := []) (rest := []) ⟨hx, hb, hr, hml, hown, hts, hlocks⟩ hK hPc hDc rfl rfl hS hFc (m_X1_empty l dC dI (h 19) (h 20) cy _ 12 (σ.2.1 9) (σ.1 18)  _ hF) k_X1_empty q341 ⟨rfl, rfl⟩ ⟨Nat.le_of_ble_eq_true rfl, Nat.le_of_ble_eq_true rfl⟩ hl.1 rfl rfl (Nat.le_of_ble_eq_true rfl) dX3_forgetAll_11 ⟨Nat.le_of_ble_eq_true rfl, Nat.le_of_ble_eq_true rfl⟩ (fun u H1 locs hF hP1 hD1 hk1 hS => ?_)
  obtain ⟨f11, n11⟩ := u
  obtain ⟨hP, hD⟩ := va_join (wr := [(h 0, .inr (0, [.int (σ.1 0), .int (σ.1 1), .ref (h 1), .ref (h 2), .ref (h 4), .ref (h 6), .ref (h 8), .ref (h 10)])), (h 1, .inl (cy 0, 25, .inl (σ.2.1 0))), (h 2, .inr (1, [.ref (h 3), .int (σ.1 2)])), (h 3, .inl (cy 0, 13, .inl (σ.2.1 1))), (h 4, .inr (1, [.ref (h 5), .int (σ.1 3)])), (h 5, .inl (cy 0, 104, .inl (σ.2.1 2))), (h 6, .inr (1, [.ref (h 7), .int (σ.1 4)])), (h 7, .inl (cy 0, 104, .inl (σ.2.1 3))), (h 8, .inr (1, [.ref (h 9), .int (σ.1 5)])), (h 9, .inl (cy 0, 104, .inl (σ.2.1 4))), (h 10, .inr (1, [.ref (h 11), .int (σ.1 6)])), (h 11, .inl (cy 0, 104, .inl (σ.2.1 5))), (h 12, .inr (2, [.ref (h 0), .ref (h 13), .ref (h 14), .ref (h 15), .int (σ.1 7), .int (σ.1 8), .int (σ.1 9), .int (σ.1 10), .int (σ.1 11), .int (σ.1 12), .int (σ.1 13), .int (σ.1 14)])), (h 13, .inl (cy 0, 8192, .inl (σ.2.1 6))), (h 14, .inl (cy 1, 8192, .inr (.inl (σ.2.2)))), (h 15, .inl (cy 0, 10240, .inl (σ.2.1 7))), (h 16, .inr (3, [.ref (h 0), .ref (h 12), .ref (h 17), .ref (h 19), .int (σ.1 15), .int (σ.1 16)])), (h 17, .inr (1, [.ref (h 18), .int (n4)])), (h 18, .inl (cy 0, 12, .inl (f4)))]) (w1 := wR (h 19) (h 20) cy 12 f11 n11) hP hD [19, 20] [0, 1, 2, 3, 4, 5, 6, 7, 8, 9, 10, 11, 12, 13, 14, 15, 16, 17, 18] rfl rfl (by decide) (by decide) hk1 hFc hP1 hD1
  have hP := hP.sub (ws' := wH h cy (sI (sA (sI (sA σ 8 f4) 17 n4) 9 f11) 18 n11)) [0, 1, 2, 3, 4, 5, 6, 7, 8, 9, 10, 11, 12, 13, 14, 15, 16, 17, 18, 19, 20] rfl
  have hD := hD.sub (ws' := wH h cy (sI (sA (sI (sA σ 8 f4) 17 n4) 9 f11) 18 n11)) [0, 1, 2, 3, 4, 5, 6, 7, 8, 9, 10, 11, 12, 13, 14, 15, 16, 17, 18, 19, 20] (by decide) rfl
  generalize H1 = H at hP hS ⊢
  have hP : va_P (dC, dI) classes (wH h cy (sI (sA (sI (sA σ 8 f4) 17 n4) 9 f11) 18 n11)) H := hP
  have hD : va_D A (wH h cy (sI (sA (sI (sA σ 8 f4) 17 n4) 9 f11) 18 n11)) := hD
  refine lv_aload_n hx hb dX3_forgetAll_14 rfl (lv_at hl 0 rfl) ?_
  refine va_get (D := (dC, dI)) (ci := 3) (v := .ref (h 12)) (C := RX3) (T := TX3) (N := 6) hx hb hts in_X3 hown hK.1 hP 16 rfl rfl 1 (by decide) (hts _ q142) (fun _ h9 => h9) rfl dX3_forgetAll_15 ?_
  have hPc := hP.sub (ws' := wW h cy (sI (sA (sI (sA σ 8 f4) 17 n4) 9 f11) 18 n11)) [0, 1, 2, 3, 4, 5, 6, 7, 8, 9, 10, 11, 12, 13, 14, 15] rfl
  have hDc := hD.sub (ws' := wW h cy (sI (sA (sI (sA σ 8 f4) 17 n4) 9 f11) 18 n11)) [0, 1, 2, 3, 4, 5, 6, 7, 8, 9, 10, 11, 12, 13, 14, 15] (by decide) rfl
  have hFc := va_free (wc := wW h cy (sI (sA (sI (sA σ 8 f4) 17 n4) 9 f11) 18 n11)) hD hS hA [0, 1, 2, 3, 4, 5, 6, 7, 8, 9, 10, 11, 12, 13, 14, 15] rfl
  refine cwVv (q0 := 12) (As := []) (rest := []) ⟨hx, hb, hr, hml, hown, hts, hlocks⟩ hK hPc hDc rfl rfl hS hFc (m_X2_forget l dC dI h cy _ (sI (sA (sI (sA σ 8 f4) 17 n4) 9 f11) 18 n11)  _ hF) k_X2_forget q495 ⟨rfl, rfl⟩ ⟨Nat.le_of_ble_eq_true rfl, Nat.le_of_ble_eq_true rfl⟩ hl.1 rfl rfl (Nat.le_of_ble_eq_true rfl) dX3_forgetAll_18 ⟨Nat.le_of_ble_eq_true rfl, Nat.le_of_ble_eq_true rfl⟩ (fun u H1 locs hF hP1 hD1 hk1 hS => ?_)
  obtain ⟨s18, rfl⟩ : ∃ z, z = u := ⟨_, rfl⟩
  obtain ⟨hP, hD⟩ := va_join (wr := [(h 16, .inr (3, [.ref (h 0), .ref (h 12), .ref (h 17), .ref (h 19), .int (σ.1 15), .int (σ.1 16)])), (h 17, .inr (1, [.ref (h 18), .int (n4)])), (h 18, .inl (cy 0, 12, .inl (f4))), (h 19, .inr (1, [.ref (h 20), .int (n11)])), (h 20, .inl (cy 0, 12, .inl (f11)))]) (w1 := wW h cy s18) hP hD [0, 1, 2, 3, 4, 5, 6, 7, 8, 9, 10, 11, 12, 13, 14, 15] [16, 17, 18, 19, 20] rfl rfl (by decide) (by decide) hk1 hFc hP1 hD1
  have hP := hP.sub (ws' := wH h cy (mgX2 (sI (sA (sI (sA σ 8 f4) 17 n4) 9 f11) 18 n11) s18)) [5, 6, 7, 8, 9, 10, 11, 12, 13, 14, 15, 16, 17, 18, 19, 20, 0, 1, 2, 3, 4] rfl
  have hD := hD.sub (ws' := wH h cy (mgX2 (sI (sA (sI (sA σ 8 f4) 17 n4) 9 f11) 18 n11) s18)) [5, 6, 7, 8, 9, 10, 11, 12, 13, 14, 15, 16, 17, 18, 19, 20, 0, 1, 2, 3, 4] (by decide) rfl
  generalize H1 = H at hP hS ⊢
  have hP : va_P (dC, dI) classes (wH h cy (mgX2 (sI (sA (sI (sA σ 8 f4) 17 n4) 9 f11) 18 n11) s18)) H := hP
  have hD : va_D A (wH h cy (mgX2 (sI (sA (sI (sA σ 8 f4) 17 n4) 9 f11) 18 n11) s18)) := hD
  exact W.vret hx hb hr (fun t ht hW => ⟨⟨mgX2 (sI (sA (sI (sA σ 8 f4) 17 n4) 9 f11) 18 n11) s18, rfl, hF, by rw [ht]; exact hP, hK.warm hW, hD⟩, hS.F ht⟩) hS.2.2 dX3_forgetAll_21
theorem dX3_rowFault_0 : decode cX3_rowFault 0 = .ok (.aload_n 0, 1) := by decide +kernel
theorem dX3_rowFault_1 : decode cX3_rowFault 1 = .ok (.getfield 34, 3) := by decide +kernel
theorem dX3_rowFault_4 : decode cX3_rowFault 4 = .ok (.iconst 0, 1) := by decide +kernel
theorem dX3_rowFault_5 : decode cX3_rowFault 5 = .ok (.invokevirtual 158, 3) := by decide +kernel
theorem dX3_rowFault_8 : decode cX3_rowFault 8 = .ok (.istore_n 1, 1) := by decide +kernel
theorem dX3_rowFault_9 : decode cX3_rowFault 9 = .ok (.iload_n 1, 1) := by decide +kernel
theorem dX3_rowFault_10 : decode cX3_rowFault 10 = .ok (.iconst (-1), 1) := by decide +kernel
theorem dX3_rowFault_11 : decode cX3_rowFault 11 = .ok (.if_icmp .eq 14, 3) := by decide +kernel
theorem dX3_rowFault_14 : decode cX3_rowFault 14 = .ok (.aload_n 0, 1) := by decide +kernel
theorem dX3_rowFault_15 : decode cX3_rowFault 15 = .ok (.getfield 83, 3) := by decide +kernel
theorem dX3_rowFault_18 : decode cX3_rowFault 18 = .ok (.iload_n 1, 1) := by decide +kernel
theorem dX3_rowFault_19 : decode cX3_rowFault 19 = .ok (.ishr, 1) := by decide +kernel
theorem dX3_rowFault_20 : decode cX3_rowFault 20 = .ok (.iconst 1, 1) := by decide +kernel
theorem dX3_rowFault_21 : decode cX3_rowFault 21 = .ok (.iand, 1) := by decide +kernel
theorem dX3_rowFault_22 : decode cX3_rowFault 22 = .ok (.ifCond .ne 5, 3) := by decide +kernel
theorem dX3_rowFault_25 : decode cX3_rowFault 25 = .ok (.iconst 0, 1) := by decide +kernel
theorem dX3_rowFault_26 : decode cX3_rowFault 26 = .ok (.ireturn, 1) := by decide +kernel
theorem dX3_rowFault_27 : decode cX3_rowFault 27 = .ok (.aload_n 0, 1) := by decide +kernel
theorem dX3_rowFault_28 : decode cX3_rowFault 28 = .ok (.getfield 34, 3) := by decide +kernel
theorem dX3_rowFault_31 : decode cX3_rowFault 31 = .ok (.invokevirtual 144, 3) := by decide +kernel
theorem dX3_rowFault_34 : decode cX3_rowFault 34 = .ok (.iconst 1, 1) := by decide +kernel
theorem dX3_rowFault_35 : decode cX3_rowFault 35 = .ok (.if_icmp .ne 5, 3) := by decide +kernel
theorem dX3_rowFault_38 : decode cX3_rowFault 38 = .ok (.iconst 1, 1) := by decide +kernel
theorem dX3_rowFault_39 : decode cX3_rowFault 39 = .ok (.ireturn, 1) := by decide +kernel
theorem dX3_rowFault_40 : decode cX3_rowFault 40 = .ok (.aload_n 0, 1) := by decide +kernel
theorem dX3_rowFault_41 : decode cX3_rowFault 41 = .ok (.getfield 83, 3) := by decide +kernel
theorem dX3_rowFault_44 : decode cX3_rowFault 44 = .ok (.istore_n 2, 1) := by decide +kernel
theorem dX3_rowFault_45 : decode cX3_rowFault 45 = .ok (.iconst 1, 1) := by decide +kernel
theorem dX3_rowFault_46 : decode cX3_rowFault 46 = .ok (.istore_n 3, 1) := by decide +kernel
theorem dX3_rowFault_47 : decode cX3_rowFault 47 = .ok (.iload_n 3, 1) := by decide +kernel
theorem dX3_rowFault_48 : decode cX3_rowFault 48 = .ok (.aload_n 0, 1) := by decide +kernel
theorem dX3_rowFault_49 : decode cX3_rowFault 49 = .ok (.getfield 34, 3) := by decide +kernel
theorem dX3_rowFault_52 : decode cX3_rowFault 52 = .ok (.invokevirtual 144, 3) := by decide +kernel
theorem dX3_rowFault_55 : decode cX3_rowFault 55 = .ok (.if_icmp .ge 40, 3) := by decide +kernel
theorem dX3_rowFault_58 : decode cX3_rowFault 58 = .ok (.aload_n 0, 1) := by decide +kernel
theorem dX3_rowFault_59 : decode cX3_rowFault 59 = .ok (.iload_n 2, 1) := by decide +kernel
theorem dX3_rowFault_60 : decode cX3_rowFault 60 = .ok (.aload_n 0, 1) := by decide +kernel
theorem dX3_rowFault_61 : decode cX3_rowFault 61 = .ok (.getfield 34, 3) := by decide +kernel
theorem dX3_rowFault_64 : decode cX3_rowFault 64 = .ok (.iload_n 3, 1) := by decide +kernel
theorem dX3_rowFault_65 : decode cX3_rowFault 65 = .ok (.iconst 1, 1) := by decide +kernel
theorem dX3_rowFault_66 : decode cX3_rowFault 66 = .ok (.isub, 1) := by decide +kernel
theorem dX3_rowFault_67 : decode cX3_rowFault 67 = .ok (.invokevirtual 158, 3) := by decide +kernel
theorem dX3_rowFault_70 : decode cX3_rowFault 70 = .ok (.aload_n 0, 1) := by decide +kernel
theorem dX3_rowFault_71 : decode cX3_rowFault 71 = .ok (.getfield 34, 3) := by decide +kernel
theorem dX3_rowFault_74 : decode cX3_rowFault 74 = .ok (.iload_n 3, 1) := by decide +kernel
theorem dX3_rowFault_75 : decode cX3_rowFault 75 = .ok (.invokevirtual 158, 3) := by decide +kernel
theorem dX3_rowFault_78 : decode cX3_rowFault 78 = .ok (.invokevirtual 116, 3) := by decide +kernel
theorem dX3_rowFault_81 : decode cX3_rowFault 81 = .ok (.istore_n 2, 1) := by decide +kernel
theorem dX3_rowFault_82 : decode cX3_rowFault 82 = .ok (.iload_n 2, 1) := by decide +kernel
theorem dX3_rowFault_83 : decode cX3_rowFault 83 = .ok (.iconst (-1), 1) := by decide +kernel
theorem dX3_rowFault_84 : decode cX3_rowFault 84 = .ok (.if_icmp .ne 5, 3) := by decide +kernel
theorem dX3_rowFault_87 : decode cX3_rowFault 87 = .ok (.iload_n 3, 1) := by decide +kernel
theorem dX3_rowFault_88 : decode cX3_rowFault 88 = .ok (.ireturn, 1) := by decide +kernel
theorem dX3_rowFault_89 : decode cX3_rowFault 89 = .ok (.iinc 3 1, 3) := by decide +kernel
theorem dX3_rowFault_92 : decode cX3_rowFault 92 = .ok (.goto (-45), 3) := by decide +kernel
theorem dX3_rowFault_95 : decode cX3_rowFault 95 = .ok (.iconst (-1), 1) := by decide +kernel
theorem dX3_rowFault_96 : decode cX3_rowFault 96 = .ok (.ireturn, 1) := by decide +kernel
def wp_X3_rowFault_B47 (fu : Nat) (σ : SX) (P : Int32 → Prop) (K47 : Prop) (rec47 : Int32 → Int32 → Prop) (v3_47 : Int32) (v2_47 : Int32) : Prop := (wp_X1_size 12 (σ.2.1 9) (σ.1 18)  (fun r52 => ((r52 ≤ v3_47 → K47) ∧ (¬ r52 ≤ v3_47 → (wp_X1_at 12 (σ.2.1 9) (σ.1 18) (v3_47 - 1) (fun r67 => (wp_X1_at 12 (σ.2.1 9) (σ.1 18) v3_47 (fun r75 => (wp_X3_behindJump fu σ v2_47 r67 r75 (fun r78 => ((¬ r78 = (-1) → (rec47 (v3_47 + 1) r78)) ∧ (r78 = (-1) → (P v3_47)))))))))))))
def wp_X3_rowFault_L47 (fu : Nat) (σ : SX) (P : Int32 → Prop) (K47 : Prop) : Nat → Int32 → Int32 → Prop
  | 0, _, _ => False
  | nn + 1, v3_47, v2_47 => wp_X3_rowFault_B47 fu σ P K47 (wp_X3_rowFault_L47 fu σ P K47 nn) v3_47 v2_47
def wp_X3_rowFault (fu : Nat) (σ : SX) (P : Int32 → Prop) : Prop := (wp_X1_at 12 (σ.2.1 9) (σ.1 18) 0 (fun r5 => ((r5 = (-1) → (P 0)) ∧ (¬ r5 = (-1) → ((¬ (((σ.1 15) >>> (r5 &&& 31)) &&& 1) = 0 → (wp_X1_size 12 (σ.2.1 9) (σ.1 18)  (fun r31 => ((¬ r31 = 1 → (wp_X3_rowFault_L47 fu σ P (P (-1)) fu 1 (σ.1 15))) ∧ (r31 = 1 → (P 1)))))) ∧ ((((σ.1 15) >>> (r5 &&& 31)) &&& 1) = 0 → (P 0)))))))
theorem k_X3_rowFault : KV RX3 yX3_rowFault cX3_rowFault 4 (some .int) 0 := ⟨q850, qs24, q1, q851, by decide +kernel⟩
set_option maxHeartbeats 4000000 in
set_option maxRecDepth 100000 in
theorem m_X3_rowFault (l : Launch) (dC : Nat → ClassId) (dI : Nat → Nat → Nat) (h : Nat → Nat) (cy : Nat → ClassId) (fu : Nat) (σ : SX) (P : Int32 → Prop) (hF : wp_X3_rowFault fu σ P) : Met l yX3_rowFault (ws_ yX3_rowFault cX3_rowFault 4 (some .int)) ({ frames := 3, cells := 0, slots := 0, locals := 67 } : Room) (va_Pc [.ref (h 16)] (fun U => va_P (dC, dI) classes (wH h cy σ) U.heap ∧ kwX dC dI cy U)) (vp_Si P) 0 0 (fun _ => False) := by
  refine Met.ofCx (own := RX3) (by decide) rfl (Nat.le_of_ble_eq_true rfl) ?_
  intro p e s m below meth c hC hv ls hl
  obtain ⟨hx, hb, hr, hml, hown, hts, hlocks⟩ := hC
  have hl : lv_has ls 4 [(0, .ref (h 16))] := hl
  obtain ⟨hP, hK⟩ := hv
  unfold wp_X3_rowFault at hF
  refine lv_aload_n hx hb dX3_rowFault_0 rfl (lv_at hl 0 rfl) ?_
  refine va_get (D := (dC, dI)) (ci := 3) (v := .ref (h 19)) (C := RX3) (T := TX3) (N := 6) hx hb hts in_X3 hown hK.1 hP 16 rfl rfl 3 (by decide) (hts _ q144) (fun _ h9 => h9) rfl dX3_rowFault_1 ?_
  refine lv_iconst (v := 0) hx hb dX3_rowFault_4 (by decide) ?_
  have hPc := hP.sub (ws' := wR (h 19) (h 20) cy 12 (σ.2.1 9) (σ.1 18)) [19, 20] rfl
  refine cpVi (q0 := 0) (As := [.int 0]) (rest := []) ⟨hx, hb, hr, hml, hown, hts, hlocks⟩ hK hPc rfl rfl (m_X1_at l dC dI (h 19) (h 20) cy 12 (σ.2.1 9) (σ.1 18) 0 _ hF) k_X1_at q227 ⟨rfl, rfl⟩ ⟨Nat.le_of_ble_eq_true rfl, Nat.le_of_ble_eq_true rfl⟩ hl.1 rfl rfl (Nat.le_of_ble_eq_true rfl) dX3_rowFault_5 ⟨Nat.le_of_ble_eq_true rfl, Nat.le_of_ble_eq_true rfl⟩ (fun r5 hF => ?_)
  refine lv_istore_n (lv' := [(1, .int r5), (0, .ref (h 16))]) hx hb dX3_rowFault_8 rfl hl (by decide) rfl (fun ls hl => ?_)
  refine lv_iload_n hx hb dX3_rowFault_9 rfl (lv_at hl 0 rfl) ?_
  refine lv_iconst (v := (-1)) hx hb dX3_rowFault_10 (by decide) ?_
  refine lv_icmp_eq (tgt := 25) hx hb dX3_rowFault_11 (by decide) (fun cz => ?_) (fun cz => ?_)
  · have hF := hF.1 cz
    refine lv_iconst (v := 0) hx hb dX3_rowFault_25 (by decide) ?_
    exact W.iret (v := 0) hx hb hr (fun t ht hW => ⟨0, rfl, hF, ht⟩) (fun q hq => absurd hq List.not_mem_nil) dX3_rowFault_26
  · have hF := hF.2 cz
    refine lv_aload_n hx hb dX3_rowFault_14 rfl (lv_at hl 1 rfl) ?_
    refine va_get (D := (dC, dI)) (ci := 3) (v := .int (σ.1 15)) (C := RX3) (T := TX3) (N := 6) hx hb hts in_X3 hown hK.1 hP 16 rfl rfl 4 (by decide) (hts _ q145) (fun _ h9 => h9) rfl dX3_rowFault_15 ?_
    refine lv_iload_n hx hb dX3_rowFault_18 rfl (lv_at hl 0 rfl) ?_
    refine lv_ishr hx hb dX3_rowFault_19 ?_
    refine lv_iconst (v := 1) hx hb dX3_rowFault_20 (by decide) ?_
    refine lv_iand hx hb dX3_rowFault_21 ?_
    refine lv_if_ne (tgt := 27) hx hb dX3_rowFault_22 (by decide) (fun cz => ?_) (fun cz => ?_)
    · have hF := hF.1 cz
      refine lv_aload_n hx hb dX3_rowFault_27 rfl (lv_at hl 1 rfl) ?_
      refine va_get (D := (dC, dI)) (ci := 3) (v := .ref (h 19)) (C := RX3) (T := TX3) (N := 6) hx hb hts in_X3 hown hK.1 hP 16 rfl rfl 3 (by decide) (hts _ q144) (fun _ h9 => h9) rfl dX3_rowFault_28 ?_
      have hPc := hP.sub (ws' := wR (h 19) (h 20) cy 12 (σ.2.1 9) (σ.1 18)) [19, 20] rfl
      refine cpVi (q0 := 0) (As := []) (rest := []) ⟨hx, hb, hr, hml, hown, hts, hlocks⟩ hK hPc rfl rfl (m_X1_size l dC dI (h 19) (h 20) cy 12 (σ.2.1 9) (σ.1 18)  _ hF) k_X1_size q222 ⟨rfl, rfl⟩ ⟨Nat.le_of_ble_eq_true rfl, Nat.le_of_ble_eq_true rfl⟩ hl.1 rfl rfl (Nat.le_of_ble_eq_true rfl) dX3_rowFault_31 ⟨Nat.le_of_ble_eq_true rfl, Nat.le_of_ble_eq_true rfl⟩ (fun r31 hF => ?_)
      refine lv_iconst (v := 1) hx hb dX3_rowFault_34 (by decide) ?_
      refine lv_icmp_ne (tgt := 40) hx hb dX3_rowFault_35 (by decide) (fun cz => ?_) (fun cz => ?_)
      · have hF := hF.1 cz
        refine lv_aload_n hx hb dX3_rowFault_40 rfl (lv_at hl 1 rfl) ?_
        refine va_get (D := (dC, dI)) (ci := 3) (v := .int (σ.1 15)) (C := RX3) (T := TX3) (N := 6) hx hb hts in_X3 hown hK.1 hP 16 rfl rfl 4 (by decide) (hts _ q145) (fun _ h9 => h9) rfl dX3_rowFault_41 ?_
        refine lv_istore_n (lv' := [(2, .int (σ.1 15)), (1, .int r5), (0, .ref (h 16))]) hx hb dX3_rowFault_44 rfl hl (by decide) rfl (fun ls hl => ?_)
        refine lv_iconst (v := 1) hx hb dX3_rowFault_45 (by decide) ?_
        refine lv_istore_n (lv' := [(3, .int 1), (2, .int (σ.1 15)), (1, .int r5), (0, .ref (h 16))]) hx hb dX3_rowFault_46 rfl hl (by decide) rfl (fun ls hl => ?_)
        have hX47 : (P (-1)) → ∀ (ls : Array Slot), lv_has ls 4 [] → W p l e ({ frames := 3, cells := 0, slots := 0, locals := 67 } : Room) s m ([.ref (h 16)] : List Value).toArray below meth c s.heap [] 0 0 (MQ below (vp_Si P) ([.ref (h 16)] : List Value).toArray s 0 0 (fun _ => False)) (F0 m 95 ls []) := by
          intro hF ls hl
          refine lv_iconst (v := (-1)) hx hb dX3_rowFault_95 (by decide) ?_
          exact W.iret (v := (-1)) hx hb hr (fun t ht hW => ⟨(-1), rfl, hF, ht⟩) (fun q hq => absurd hq List.not_mem_nil) dX3_rowFault_96
        have hL47 : ∀ (K47 : Prop), (K47 → ∀ (ls : Array Slot), lv_has ls 4 [] → W p l e ({ frames := 3, cells := 0, slots := 0, locals := 67 } : Room) s m ([.ref (h 16)] : List Value).toArray below meth c s.heap [] 0 0 (MQ below (vp_Si P) ([.ref (h 16)] : List Value).toArray s 0 0 (fun _ => False)) (F0 m 95 ls [])) → ∀ (nn : Nat), ∀ (v3_47 : Int32), ∀ (v2_47 : Int32), wp_X3_rowFault_L47 fu σ P K47 nn v3_47 v2_47 → ∀ (ls : Array Slot), lv_has ls 4 [(3, .int v3_47), (2, .int v2_47), (0, .ref (h 16))] → W p l e ({ frames := 3, cells := 0, slots := 0, locals := 67 } : Room) s m ([.ref (h 16)] : List Value).toArray below meth c s.heap [] 0 0 (MQ below (vp_Si P) ([.ref (h 16)] : List Value).toArray s 0 0 (fun _ => False)) (F0 m 47 ls []) := by
          intro K47 hX47 nn
          induction nn with
          | zero =>
            intro v3_47 v2_47 hF
            exact hF.elim
          | succ nn ih =>
            intro v3_47 v2_47 hF ls hl
            obtain ⟨rec47, hrec⟩ : ∃ z : Int32 → Int32 → Prop, z = wp_X3_rowFault_L47 fu σ P K47 nn := ⟨_, rfl⟩
            have hF : wp_X3_rowFault_B47 fu σ P K47 rec47 v3_47 v2_47 := by rw [hrec]; exact hF
            rw [← hrec] at ih
            clear hrec
            unfold wp_X3_rowFault_B47 at hF
            refine lv_iload_n hx hb dX3_rowFault_47 rfl (lv_at hl 0 rfl) ?_
            refine lv_aload_n hx hb dX3_rowFault_48 rfl (lv_at hl 2 rfl) ?_
            refine va_get (D := (dC, dI)) (ci := 3) (v := .ref (h 19)) (C := RX3) (T := TX3) (N := 6) hx hb hts in_X3 hown hK.1 hP 16 rfl rfl 3 (by decide) (hts _ q144) (fun _ h9 => h9) rfl dX3_rowFault_49 ?_
            have hPc := hP.sub (ws' := wR (h 19) (h 20) cy 12 (σ.2.1 9) (σ.1 18)) [19, 20] rfl
            refine cpVi (q0 := 0) (As := []) (rest := [.int v3_47]) ⟨hx, hb, hr, hml, hown, hts, hlocks⟩ hK hPc rfl rfl (m_X1_size l dC dI (h 19) (h 20) cy 12 (σ.2.1 9) (σ.1 18)  _ hF) k_X1_size q222 ⟨rfl, rfl⟩ ⟨Nat.le_of_ble_eq_true rfl, Nat.le_of_ble_eq_true rfl⟩ hl.1 rfl rfl (Nat.le_of_ble_eq_true rfl) dX3_rowFault_52 ⟨Nat.le_of_ble_eq_true rfl, Nat.le_of_ble_eq_true rfl⟩ (fun r52 hF => ?_)
            refine lv_icmp_ge (tgt := 95) hx hb dX3_rowFault_55 (by decide) (fun cz => ?_) (fun cz => ?_)
            · have hF := hF.1 cz
              exact hX47 hF _ (lv_sub hl [] rfl)
            · have hF := hF.2 cz
              refine lv_aload_n hx hb dX3_rowFault_58 rfl (lv_at hl 2 rfl) ?_
              refine lv_iload_n hx hb dX3_rowFault_59 rfl (lv_at hl 1 rfl) ?_
              refine lv_aload_n hx hb dX3_rowFault_60 rfl (lv_at hl 2 rfl) ?_
              refine va_get (D := (dC, dI)) (ci := 3) (v := .ref (h 19)) (C := RX3) (T := TX3) (N := 6) hx hb hts in_X3 hown hK.1 hP 16 rfl rfl 3 (by decide) (hts _ q144) (fun _ h9 => h9) rfl dX3_rowFault_61 ?_
              refine lv_iload_n hx hb dX3_rowFault_64 rfl (lv_at hl 0 rfl) ?_
              refine lv_iconst (v := 1) hx hb dX3_rowFault_65 (by decide) ?_
              refine lv_isub hx hb dX3_rowFault_66 ?_
              have hPc := hP.sub (ws' := wR (h 19) (h 20) cy 12 (σ.2.1 9) (σ.1 18)) [19, 20] rfl
              refine cpVi (q0 := 0) (As := [.int (v3_47 - 1)]) (rest := [.int v2_47, .ref (h 16)]) ⟨hx, hb, hr, hml, hown, hts, hlocks⟩ hK hPc rfl rfl (m_X1_at l dC dI (h 19) (h 20) cy 12 (σ.2.1 9) (σ.1 18) (v3_47 - 1) _ hF) k_X1_at q227 ⟨rfl, rfl⟩ ⟨Nat.le_of_ble_eq_true rfl, Nat.le_of_ble_eq_true rfl⟩ hl.1 rfl rfl (Nat.le_of_ble_eq_true rfl) dX3_rowFault_67 ⟨Nat.le_of_ble_eq_true rfl, Nat.le_of_ble_eq_true rfl⟩ (fun r67 hF => ?_)
              refine lv_aload_n hx hb dX3_rowFault_70 rfl (lv_at hl 2 rfl) ?_
              refine va_get (D := (dC, dI)) (ci := 3) (v := .ref (h 19)) (C := RX3) (T := TX3) (N := 6) hx hb hts in_X3 hown hK.1 hP 16 rfl rfl 3 (by decide) (hts _ q144) (fun _ h9 => h9) rfl dX3_rowFault_71 ?_
              refine lv_iload_n hx hb dX3_rowFault_74 rfl (lv_at hl 0 rfl) ?_
              have hPc := hP.sub (ws' := wR (h 19) (h 20) cy 12 (σ.2.1 9) (σ.1 18)) [19, 20] rfl
              refine cpVi (q0 := 0) (As := [.int v3_47]) (rest := [.int r67, .int v2_47, .ref (h 16)]) ⟨hx, hb, hr, hml, hown, hts, hlocks⟩ hK hPc rfl rfl (m_X1_at l dC dI (h 19) (h 20) cy 12 (σ.2.1 9) (σ.1 18) v3_47 _ hF) k_X1_at q227 ⟨rfl, rfl⟩ ⟨Nat.le_of_ble_eq_true rfl, Nat.le_of_ble_eq_true rfl⟩ hl.1 rfl rfl (Nat.le_of_ble_eq_true rfl) dX3_rowFault_75 ⟨Nat.le_of_ble_eq_true rfl, Nat.le_of_ble_eq_true rfl⟩ (fun r75 hF => ?_)
              refine cpVi (q0 := 16) (As := [.int v2_47, .int r67, .int r75]) (rest := []) ⟨hx, hb, hr, hml, hown, hts, hlocks⟩ hK hP rfl rfl (m_X3_behindJump l dC dI h cy fu σ v2_47 r67 r75 _ hF) k_X3_behindJump q656 ⟨rfl, rfl⟩ ⟨Nat.le_of_ble_eq_true rfl, Nat.le_of_ble_eq_true rfl⟩ hl.1 rfl rfl (Nat.le_of_ble_eq_true rfl) dX3_rowFault_78 ⟨Nat.le_of_ble_eq_true rfl, Nat.le_of_ble_eq_true rfl⟩ (fun r78 hF => ?_)
              refine lv_istore_n (lv' := [(2, .int r78), (3, .int v3_47), (0, .ref (h 16))]) hx hb dX3_rowFault_81 rfl hl (by decide) rfl (fun ls hl => ?_)
              refine lv_iload_n hx hb dX3_rowFault_82 rfl (lv_at hl 0 rfl) ?_
              refine lv_iconst (v := (-1)) hx hb dX3_rowFault_83 (by decide) ?_
              refine lv_icmp_ne (tgt := 89) hx hb dX3_rowFault_84 (by decide) (fun cz => ?_) (fun cz => ?_)
              · have hF := hF.1 cz
                refine lv_iinc (v := v3_47 + 1) (lv' := [(3, .int (v3_47 + 1)), (2, .int r78), (0, .ref (h 16))]) hx hb dX3_rowFault_89 hl (k := 1) rfl (by rfl) (by decide) rfl (fun ls hl => ?_)
                refine lv_goto (tgt := 47) hx hb dX3_rowFault_92 (by decide) ?_
                exact ih (v3_47 + 1) r78 hF _ (lv_sub hl [0, 1, 2] rfl)
              · have hF := hF.2 cz
                refine lv_iload_n hx hb dX3_rowFault_87 rfl (lv_at hl 1 rfl) ?_
                exact W.iret (v := v3_47) hx hb hr (fun t ht hW => ⟨v3_47, rfl, hF, ht⟩) (fun q hq => absurd hq List.not_mem_nil) dX3_rowFault_88
        exact hL47 _ hX47 fu 1 (σ.1 15) hF _ (lv_sub hl [0, 1, 3] rfl)
      · have hF := hF.2 cz
        refine lv_iconst (v := 1) hx hb dX3_rowFault_38 (by decide) ?_
        exact W.iret (v := 1) hx hb hr (fun t ht hW => ⟨1, rfl, hF, ht⟩) (fun q hq => absurd hq List.not_mem_nil) dX3_rowFault_39
    · have hF := hF.2 cz
      refine lv_iconst (v := 0) hx hb dX3_rowFault_25 (by decide) ?_
      exact W.iret (v := 0) hx hb hr (fun t ht hW => ⟨0, rfl, hF, ht⟩) (fun q hq => absurd hq List.not_mem_nil) dX3_rowFault_26
theorem dX3_fewest_0 : decode cX3_fewest 0 = .ok (.aload_n 0, 1) := by decide +kernel
theorem dX3_fewest_1 : decode cX3_fewest 1 = .ok (.getfield 21, 3) := by decide +kernel
theorem dX3_fewest_4 : decode cX3_fewest 4 = .ok (.aload_n 0, 1) := by decide +kernel
theorem dX3_fewest_5 : decode cX3_fewest 5 = .ok (.getfield 83, 3) := by decide +kernel
theorem dX3_fewest_8 : decode cX3_fewest 8 = .ok (.invokevirtual 169, 3) := by decide +kernel
theorem dX3_fewest_11 : decode cX3_fewest 11 = .ok (.aload_n 0, 1) := by decide +kernel
theorem dX3_fewest_12 : decode cX3_fewest 12 = .ok (.getfield 21, 3) := by decide +kernel
theorem dX3_fewest_15 : decode cX3_fewest 15 = .ok (.getfield 192, 3) := by decide +kernel
theorem dX3_fewest_18 : decode cX3_fewest 18 = .ok (.ireturn, 1) := by decide +kernel
def wp_X3_fewest (fu : Nat) (σ : SX) (P : Int32 → SX → Prop) : Prop := (wp_X2_begin fu σ (σ.1 15) (fun s8 => (P (s8.1 10) (mgX2 σ s8))))
theorem k_X3_fewest : KV RX3 yX3_fewest cX3_fewest 1 (some .int) 0 := ⟨q277, q278, q1, q279, by decide +kernel⟩
set_option maxHeartbeats 4000000 in
set_option maxRecDepth 100000 in
theorem m_X3_fewest (l : Launch) (dC : Nat → ClassId) (dI : Nat → Nat → Nat) (h : Nat → Nat) (cy : Nat → ClassId) (sz : Nat) (fu : Nat) (σ : SX) (P : Int32 → SX → Prop) (hF : wp_X3_fewest fu σ P) : Met l yX3_fewest (ws_ yX3_fewest cX3_fewest 1 (some .int)) ({ frames := 4, cells := 0, slots := 0, locals := 90 } : Room) (va_Pc [.ref (h 16)] (fun U => U.heap.size = sz ∧ va_P (dC, dI) classes (wH h cy σ) U.heap ∧ kwX dC dI cy U ∧ va_D (fun _ => True) (wH h cy σ))) (va_Qi (fun r u => P r u) (fun (u : SX) t => va_P (dC, dI) classes (wH h cy u) t.heap ∧ kwX dC dI cy t ∧ va_D (va_A (wH h cy σ) sz) (wH h cy u)) (va_A (wH h cy σ) sz)) 0 0 (va_A (wH h cy σ) sz) := by
  refine Met.ofCx (own := RX3) (by decide) rfl (Nat.le_of_ble_eq_true rfl) ?_
  intro p e s m below meth c hC hv ls hl
  obtain ⟨hx, hb, hr, hml, hown, hts, hlocks⟩ := hC
  have hl : lv_has ls 1 [(0, .ref (h 16))] := hl
  obtain ⟨hsz, hP, hK, hD0⟩ := hv
  subst hsz
  have hD := hD0.self (sz := s.heap.size)
  generalize hAe : va_A (wH h cy σ) s.heap.size = A at hD ⊢
  have hA : ∀ q : Nat, s.heap.size ≤ q → A q := fun q h => by rw [← hAe]; exact Or.inr h
  have hS : va_S A s.heap s.heap [] := va_S.rf
  clear hAe
  unfold wp_X3_fewest at hF
  refine lv_aload_n hx hb dX3_fewest_0 rfl (lv_at hl 0 rfl) ?_
  refine va_get (D := (dC, dI)) (ci := 3) (v := .ref (h 12)) (C := RX3) (T := TX3) (N := 6) hx hb hts in_X3 hown hK.1 hP 16 rfl rfl 1 (by decide) (hts _ q142) (fun _ h9 => h9) rfl dX3_fewest_1 ?_
  refine lv_aload_n hx hb dX3_fewest_4 rfl (lv_at hl 0 rfl) ?_
  refine va_get (D := (dC, dI)) (ci := 3) (v := .int (σ.1 15)) (C := RX3) (T := TX3) (N := 6) hx hb hts in_X3 hown hK.1 hP 16 rfl rfl 4 (by decide) (hts _ q145) (fun _ h9 => h9) rfl dX3_fewest_5 ?_
  have hPc := hP.sub (ws' := wW h cy σ) [0, 1, 2, 3, 4, 5, 6, 7, 8, 9, 10, 11, 12, 13, 14, 15] rfl
  have hDc := hD.sub (ws' := wW h cy σ) [0, 1, 2, 3, 4, 5, 6, 7, 8, 9, 10, 11, 12, 13, 14, 15] (by decide) rfl
  have hFc := va_free (wc := wW h cy σ) hD hS hA [0, 1, 2, 3, 4, 5, 6, 7, 8, 9, 10, 11, 12, 13, 14, 15] rfl
  refine cwVv (q0 := 12) (As := [.int (σ.1 15)]) (rest := []) ⟨hx, hb, hr, hml, hown, hts, hlocks⟩ hK hPc hDc rfl rfl hS hFc (m_X2_begin l dC dI h cy _ fu σ (σ.1 15) _ hF) k_X2_begin q232 ⟨rfl, rfl⟩ ⟨Nat.le_of_ble_eq_true rfl, Nat.le_of_ble_eq_true rfl⟩ hl.1 rfl rfl (Nat.le_of_ble_eq_true rfl) dX3_fewest_8 ⟨Nat.le_of_ble_eq_true rfl, Nat.le_of_ble_eq_true rfl⟩ (fun u H1 locs hF hP1 hD1 hk1 hS => ?_)
  obtain ⟨s8, rfl⟩ : ∃ z, z = u := ⟨_, rfl⟩
  obtain ⟨hP, hD⟩ := va_join (wr := [(h 16, .inr (3, [.ref (h 0), .ref (h 12), .ref (h 17), .ref (h 19), .int (σ.1 15), .int (σ.1 16)])), (h 17, .inr (1, [.ref (h 18), .int (σ.1 17)])), (h 18, .inl (cy 0, 12, .inl (σ.2.1 8))), (h 19, .inr (1, [.ref (h 20), .int (σ.1 18)])), (h 20, .inl (cy 0, 12, .inl (σ.2.1 9)))]) (w1 := wW h cy s8) hP hD [0, 1, 2, 3, 4, 5, 6, 7, 8, 9, 10, 11, 12, 13, 14, 15] [16, 17, 18, 19, 20] rfl rfl (by decide) (by decide) hk1 hFc hP1 hD1
  have hP := hP.sub (ws' := wH h cy (mgX2 σ s8)) [5, 6, 7, 8, 9, 10, 11, 12, 13, 14, 15, 16, 17, 18, 19, 20, 0, 1, 2, 3, 4] rfl
  have hD := hD.sub (ws' := wH h cy (mgX2 σ s8)) [5, 6, 7, 8, 9, 10, 11, 12, 13, 14, 15, 16, 17, 18, 19, 20, 0, 1, 2, 3, 4] (by decide) rfl
  generalize H1 = H at hP hS ⊢
  have hP : va_P (dC, dI) classes (wH h cy (mgX2 σ s8)) H := hP
  have hD : va_D A (wH h cy (mgX2 σ s8)) := hD
  refine lv_aload_n hx hb dX3_fewest_11 rfl (lv_at hl 0 rfl) ?_
  refine va_get (D := (dC, dI)) (ci := 3) (v := .ref (h 12)) (C := RX3) (T := TX3) (N := 6) hx hb hts in_X3 hown hK.1 hP 16 rfl rfl 1 (by decide) (hts _ q142) (fun _ h9 => h9) rfl dX3_fewest_12 ?_
  refine va_getN (D := (dC, dI)) (ci := 2) (v := .int (s8.1 10)) (C := RX2) (T := TX2) (N := 12) hx hb hts in_X2 hown hK.1 hP 12 rfl rfl 7 (by decide) (va_Nw.use rfl hK.2.2.2.2.2.1) (fun _ h9 => h9) rfl dX3_fewest_15 ?_
  exact W.iret (v := s8.1 10) hx hb hr (fun t ht hW => ⟨⟨s8.1 10, mgX2 σ s8, rfl, hF, by rw [ht]; exact hP, hK.warm hW, hD⟩, hS.F ht⟩) hS.2.2 dX3_fewest_18
theorem dX3_floatBits_0 : decode cX3_floatBits 0 = .ok (.fload_n 0, 1) := by decide +kernel
theorem dX3_floatBits_1 : decode cX3_floatBits 1 = .ok (.fconst 0, 1) := by decide +kernel
theorem dX3_floatBits_2 : decode cX3_floatBits 2 = .ok (.fcmp .g, 1) := by decide +kernel
theorem dX3_floatBits_3 : decode cX3_floatBits 3 = .ok (.ifCond .gt 5, 3) := by decide +kernel
theorem dX3_floatBits_6 : decode cX3_floatBits 6 = .ok (.iconst 0, 1) := by decide +kernel
theorem dX3_floatBits_7 : decode cX3_floatBits 7 = .ok (.ireturn, 1) := by decide +kernel
theorem dX3_floatBits_8 : decode cX3_floatBits 8 = .ok (.fload_n 0, 1) := by decide +kernel
theorem dX3_floatBits_9 : decode cX3_floatBits 9 = .ok (.fstore_n 1, 1) := by decide +kernel
theorem dX3_floatBits_10 : decode cX3_floatBits 10 = .ok (.bipush 127, 2) := by decide +kernel
theorem dX3_floatBits_12 : decode cX3_floatBits 12 = .ok (.istore_n 2, 1) := by decide +kernel
theorem dX3_floatBits_13 : decode cX3_floatBits 13 = .ok (.fload_n 1, 1) := by decide +kernel
theorem dX3_floatBits_14 : decode cX3_floatBits 14 = .ok (.fconst 1, 1) := by decide +kernel
theorem dX3_floatBits_15 : decode cX3_floatBits 15 = .ok (.fcmp .g, 1) := by decide +kernel
theorem dX3_floatBits_16 : decode cX3_floatBits 16 = .ok (.ifCond .ge 18, 3) := by decide +kernel
theorem dX3_floatBits_19 : decode cX3_floatBits 19 = .ok (.iload_n 2, 1) := by decide +kernel
theorem dX3_floatBits_20 : decode cX3_floatBits 20 = .ok (.iconst 1, 1) := by decide +kernel
theorem dX3_floatBits_21 : decode cX3_floatBits 21 = .ok (.if_icmp .le 13, 3) := by decide +kernel
theorem dX3_floatBits_24 : decode cX3_floatBits 24 = .ok (.fload_n 1, 1) := by decide +kernel
theorem dX3_floatBits_25 : decode cX3_floatBits 25 = .ok (.fconst 2, 1) := by decide +kernel
theorem dX3_floatBits_26 : decode cX3_floatBits 26 = .ok (.fmul, 1) := by decide +kernel
theorem dX3_floatBits_27 : decode cX3_floatBits 27 = .ok (.fstore_n 1, 1) := by decide +kernel
theorem dX3_floatBits_28 : decode cX3_floatBits 28 = .ok (.iinc 2 (-1), 3) := by decide +kernel
theorem dX3_floatBits_31 : decode cX3_floatBits 31 = .ok (.goto (-18), 3) := by decide +kernel
theorem dX3_floatBits_34 : decode cX3_floatBits 34 = .ok (.iload_n 2, 1) := by decide +kernel
theorem dX3_floatBits_35 : decode cX3_floatBits 35 = .ok (.bipush 23, 2) := by decide +kernel
theorem dX3_floatBits_37 : decode cX3_floatBits 37 = .ok (.ishl, 1) := by decide +kernel
theorem dX3_floatBits_38 : decode cX3_floatBits 38 = .ok (.fload_n 1, 1) := by decide +kernel
theorem dX3_floatBits_39 : decode cX3_floatBits 39 = .ok (.fconst 1, 1) := by decide +kernel
theorem dX3_floatBits_40 : decode cX3_floatBits 40 = .ok (.fsub, 1) := by decide +kernel
theorem dX3_floatBits_41 : decode cX3_floatBits 41 = .ok (.ldc_w 298, 3) := by decide +kernel
theorem dX3_floatBits_44 : decode cX3_floatBits 44 = .ok (.fmul, 1) := by decide +kernel
theorem dX3_floatBits_45 : decode cX3_floatBits 45 = .ok (.f2i, 1) := by decide +kernel
theorem dX3_floatBits_46 : decode cX3_floatBits 46 = .ok (.ior, 1) := by decide +kernel
theorem dX3_floatBits_47 : decode cX3_floatBits 47 = .ok (.ireturn, 1) := by decide +kernel
def wp_X3_floatBits_B13 (K13 : Int32 → UInt32 → Prop) (rec13 : Int32 → UInt32 → Prop) (v2_13 : Int32) (v1_13 : UInt32) : Prop := ((0 ≤ (Op.cmpValue (FP.fcmp v1_13 FP.fconst1) CmpOp.g) → (K13 v2_13 v1_13)) ∧ (¬ 0 ≤ (Op.cmpValue (FP.fcmp v1_13 FP.fconst1) CmpOp.g) → ((v2_13 ≤ 1 → (K13 v2_13 v1_13)) ∧ (¬ v2_13 ≤ 1 → (vf_n32 (FP.fmul v1_13 FP.fconst2) ∧ (rec13 (v2_13 + (-1)) (FP.fmul v1_13 FP.fconst2)))))))
def wp_X3_floatBits_L13 (K13 : Int32 → UInt32 → Prop) : Nat → Int32 → UInt32 → Prop
  | 0, _, _ => False
  | nn + 1, v2_13, v1_13 => wp_X3_floatBits_B13 K13 (wp_X3_floatBits_L13 K13 nn) v2_13 v1_13
def wp_X3_floatBits (fu : Nat) (x0 : UInt32) (P : Int32 → Prop) : Prop := ((0 < (Op.cmpValue (FP.fcmp x0 FP.fconst0) CmpOp.g) → (wp_X3_floatBits_L13 (fun (v2_34 : Int32) (v1_34 : UInt32) => (vf_n32 (FP.fsub v1_34 FP.fconst1) ∧ (vf_n32 (FP.fmul (FP.fsub v1_34 FP.fconst1) 1258291200) ∧ (P ((v2_34 <<< ((23 : Int32) &&& 31)) ||| (FP.f2i (FP.fmul (FP.fsub v1_34 FP.fconst1) 1258291200))))))) fu 127 x0)) ∧ (¬ 0 < (Op.cmpValue (FP.fcmp x0 FP.fconst0) CmpOp.g) → (P 0)))
theorem k_X3_floatBits : KS yX3_floatBits cX3_floatBits 3 (some .int) 1 := ⟨q886, q1, q887, by decide +kernel⟩
set_option maxHeartbeats 4000000 in
set_option maxRecDepth 100000 in
theorem m_X3_floatBits (l : Launch) (fu : Nat) (x0 : UInt32) (P : Int32 → Prop) (hF : wp_X3_floatBits fu x0 P) : Met l yX3_floatBits (ws_ yX3_floatBits cX3_floatBits 3 (some .int)) ({ frames := 0, cells := 0, slots := 0, locals := 0 } : Room) (va_Pc [.float x0] (fun _ => True)) (vp_Si P) 0 0 (fun _ => False) := by
  refine Met.ofCx (own := RX3) (by decide) rfl (Nat.le_of_ble_eq_true rfl) ?_
  intro p e s m below meth c hC hv ls hl
  obtain ⟨hx, hb, hr, hml, hown, hts, hlocks⟩ := hC
  have hl : lv_has ls 3 [(0, .float x0)] := hl
  unfold wp_X3_floatBits at hF
  refine lv_fload_n hx hb dX3_floatBits_0 rfl (lv_at hl 0 rfl) ?_
  refine lv_fconst0 hx hb dX3_floatBits_1 ?_
  refine lv_fcmp hx hb dX3_floatBits_2 ?_
  refine lv_if_gt (tgt := 8) hx hb dX3_floatBits_3 (by decide) (fun cz => ?_) (fun cz => ?_)
  · have hF := hF.1 cz
    refine lv_fload_n hx hb dX3_floatBits_8 rfl (lv_at hl 0 rfl) ?_
    refine lv_fstore_n (lv' := [(1, .float x0), (0, .float x0)]) hx hb dX3_floatBits_9 rfl hl (by decide) rfl (fun ls hl => ?_)
    refine lv_bipush (v := 127) hx hb dX3_floatBits_10 (by decide) ?_
    refine lv_istore_n (lv' := [(2, .int 127), (1, .float x0), (0, .float x0)]) hx hb dX3_floatBits_12 rfl hl (by decide) rfl (fun ls hl => ?_)
    have hX13 : ∀ (v2_34 : Int32), ∀ (v1_34 : UInt32), (fun (v2_34 : Int32) (v1_34 : UInt32) => (vf_n32 (FP.fsub v1_34 FP.fconst1) ∧ (vf_n32 (FP.fmul (FP.fsub v1_34 FP.fconst1) 1258291200) ∧ (P ((v2_34 <<< ((23 : Int32) &&& 31)) ||| (FP.f2i (FP.fmul (FP.fsub v1_34 FP.fconst1) 1258291200))))))) v2_34 v1_34 → ∀ (ls : Array Slot), lv_has ls 3 [(2, .int v2_34), (1, .float v1_34)] → W p l e ({ frames := 0, cells := 0, slots := 0, locals := 0 } : Room) s m ([.float x0] : List Value).toArray below meth c s.heap [] 0 0 (MQ below (vp_Si P) ([.float x0] : List Value).toArray s 0 0 (fun _ => False)) (F0 m 34 ls []) := by
      intro v2_34 v1_34 hF ls hl
      refine lv_iload_n hx hb dX3_floatBits_34 rfl (lv_at hl 0 rfl) ?_
      refine lv_bipush (v := 23) hx hb dX3_floatBits_35 (by decide) ?_
      refine lv_ishl hx hb dX3_floatBits_37 ?_
      refine lv_fload_n hx hb dX3_floatBits_38 rfl (lv_at hl 1 rfl) ?_
      refine lv_fconst1 hx hb dX3_floatBits_39 ?_
      have hO := hF.1
      have hF := hF.2
      refine lv_fsub hx hb dX3_floatBits_40 hO ?_
      refine lv_ldcwF (v := 1258291200) hx hb hown (hts _ q888) dX3_floatBits_41 ?_
      have hO := hF.1
      have hF := hF.2
      refine lv_fmul hx hb dX3_floatBits_44 hO ?_
      refine lv_f2i hx hb dX3_floatBits_45 ?_
      refine lv_ior hx hb dX3_floatBits_46 ?_
      exact W.iret (v := (v2_34 <<< ((23 : Int32) &&& 31)) ||| (FP.f2i (FP.fmul (FP.fsub v1_34 FP.fconst1) 1258291200))) hx hb hr (fun t ht hW => ⟨(v2_34 <<< ((23 : Int32) &&& 31)) ||| (FP.f2i (FP.fmul (FP.fsub v1_34 FP.fconst1) 1258291200)), rfl, hF, ht⟩) (fun q hq => absurd hq List.not_mem_nil) dX3_floatBits_47
    have hL13 : ∀ (K13 : Int32 → UInt32 → Prop), (∀ (v2_34 : Int32), ∀ (v1_34 : UInt32), K13 v2_34 v1_34 → ∀ (ls : Array Slot), lv_has ls 3 [(2, .int v2_34), (1, .float v1_34)] → W p l e ({ frames := 0, cells := 0, slots := 0, locals := 0 } : Room) s m ([.float x0] : List Value).toArray below meth c s.heap [] 0 0 (MQ below (vp_Si P) ([.float x0] : List Value).toArray s 0 0 (fun _ => False)) (F0 m 34 ls [])) → ∀ (nn : Nat), ∀ (v2_13 : Int32), ∀ (v1_13 : UInt32), wp_X3_floatBits_L13 K13 nn v2_13 v1_13 → ∀ (ls : Array Slot), lv_has ls 3 [(2, .int v2_13), (1, .float v1_13)] → W p l e ({ frames := 0, cells := 0, slots := 0, locals := 0 } : Room) s m ([.float x0] : List Value).toArray below meth c s.heap [] 0 0 (MQ below (vp_Si P) ([.float x0] : List Value).toArray s 0 0 (fun _ => False)) (F0 m 13 ls []) := by
      intro K13 hX13 nn
      induction nn with
      | zero =>
        intro v2_13 v1_13 hF
        exact hF.elim
      | succ nn ih =>
        intro v2_13 v1_13 hF ls hl
        obtain ⟨rec13, hrec⟩ : ∃ z : Int32 → UInt32 → Prop, z = wp_X3_floatBits_L13 K13 nn := ⟨_, rfl⟩
        have hF : wp_X3_floatBits_B13 K13 rec13 v2_13 v1_13 := by rw [hrec]; exact hF
        rw [← hrec] at ih
        clear hrec
        unfold wp_X3_floatBits_B13 at hF
        refine lv_fload_n hx hb dX3_floatBits_13 rfl (lv_at hl 1 rfl) ?_
        refine lv_fconst1 hx hb dX3_floatBits_14 ?_
        refine lv_fcmp hx hb dX3_floatBits_15 ?_
        refine lv_if_ge (tgt := 34) hx hb dX3_floatBits_16 (by decide) (fun cz => ?_) (fun cz => ?_)
        · have hF := hF.1 cz
          exact hX13 v2_13 v1_13 hF _ (lv_sub hl [0, 1] rfl)
        · have hF := hF.2 cz
          refine lv_iload_n hx hb dX3_floatBits_19 rfl (lv_at hl 0 rfl) ?_
          refine lv_iconst (v := 1) hx hb dX3_floatBits_20 (by decide) ?_
          refine lv_icmp_le (tgt := 34) hx hb dX3_floatBits_21 (by decide) (fun cz => ?_) (fun cz => ?_)
          · have hF := hF.1 cz
            exact hX13 v2_13 v1_13 hF _ (lv_sub hl [0, 1] rfl)
          · have hF := hF.2 cz
            refine lv_fload_n hx hb dX3_floatBits_24 rfl (lv_at hl 1 rfl) ?_
            refine lv_fconst2 hx hb dX3_floatBits_25 ?_
            have hO := hF.1
            have hF := hF.2
            refine lv_fmul hx hb dX3_floatBits_26 hO ?_
            refine lv_fstore_n (lv' := [(1, .float (FP.fmul v1_13 FP.fconst2)), (2, .int v2_13)]) hx hb dX3_floatBits_27 rfl hl (by decide) rfl (fun ls hl => ?_)
            refine lv_iinc (v := v2_13 + (-1)) (lv' := [(2, .int (v2_13 + (-1))), (1, .float (FP.fmul v1_13 FP.fconst2))]) hx hb dX3_floatBits_28 hl (k := 1) rfl (by rfl) (by decide) rfl (fun ls hl => ?_)
            refine lv_goto (tgt := 13) hx hb dX3_floatBits_31 (by decide) ?_
            exact ih (v2_13 + (-1)) (FP.fmul v1_13 FP.fconst2) hF _ (lv_sub hl [0, 1] rfl)
    exact hL13 _ hX13 fu 127 x0 hF _ (lv_sub hl [0, 1] rfl)
  · have hF := hF.2 cz
    refine lv_iconst (v := 0) hx hb dX3_floatBits_6 (by decide) ?_
    exact W.iret (v := 0) hx hb hr (fun t ht hW => ⟨0, rfl, hF, ht⟩) (fun q hq => absurd hq List.not_mem_nil) dX3_floatBits_7
theorem dX3_lineTo_0 : decode cX3_lineTo 0 = .ok (.iconst 0, 1) := by decide +kernel
theorem dX3_lineTo_1 : decode cX3_lineTo 1 = .ok (.istore_n 2, 1) := by decide +kernel
theorem dX3_lineTo_2 : decode cX3_lineTo 2 = .ok (.iload_n 2, 1) := by decide +kernel
theorem dX3_lineTo_3 : decode cX3_lineTo 3 = .ok (.aload_n 0, 1) := by decide +kernel
theorem dX3_lineTo_4 : decode cX3_lineTo 4 = .ok (.getfield 10, 3) := by decide +kernel
theorem dX3_lineTo_7 : decode cX3_lineTo 7 = .ok (.invokevirtual 104, 3) := by decide +kernel
theorem dX3_lineTo_10 : decode cX3_lineTo 10 = .ok (.if_icmp .ge 41, 3) := by decide +kernel
theorem dX3_lineTo_13 : decode cX3_lineTo 13 = .ok (.aload_n 0, 1) := by decide +kernel
theorem dX3_lineTo_14 : decode cX3_lineTo 14 = .ok (.getfield 10, 3) := by decide +kernel
theorem dX3_lineTo_17 : decode cX3_lineTo 17 = .ok (.aload_n 0, 1) := by decide +kernel
theorem dX3_lineTo_18 : decode cX3_lineTo 18 = .ok (.getfield 83, 3) := by decide +kernel
theorem dX3_lineTo_21 : decode cX3_lineTo 21 = .ok (.iload_n 2, 1) := by decide +kernel
theorem dX3_lineTo_22 : decode cX3_lineTo 22 = .ok (.invokevirtual 136, 3) := by decide +kernel
theorem dX3_lineTo_25 : decode cX3_lineTo 25 = .ok (.istore_n 3, 1) := by decide +kernel
theorem dX3_lineTo_26 : decode cX3_lineTo 26 = .ok (.iload_n 3, 1) := by decide +kernel
theorem dX3_lineTo_27 : decode cX3_lineTo 27 = .ok (.iconst (-1), 1) := by decide +kernel
theorem dX3_lineTo_28 : decode cX3_lineTo 28 = .ok (.if_icmp .eq 17, 3) := by decide +kernel
theorem dX3_lineTo_31 : decode cX3_lineTo 31 = .ok (.aload_n 0, 1) := by decide +kernel
theorem dX3_lineTo_32 : decode cX3_lineTo 32 = .ok (.getfield 21, 3) := by decide +kernel
theorem dX3_lineTo_35 : decode cX3_lineTo 35 = .ok (.iload_n 3, 1) := by decide +kernel
theorem dX3_lineTo_36 : decode cX3_lineTo 36 = .ok (.invokevirtual 184, 3) := by decide +kernel
theorem dX3_lineTo_39 : decode cX3_lineTo 39 = .ok (.iload_n 1, 1) := by decide +kernel
theorem dX3_lineTo_40 : decode cX3_lineTo 40 = .ok (.if_icmp .ne 5, 3) := by decide +kernel
theorem dX3_lineTo_43 : decode cX3_lineTo 43 = .ok (.iload_n 2, 1) := by decide +kernel
theorem dX3_lineTo_44 : decode cX3_lineTo 44 = .ok (.ireturn, 1) := by decide +kernel
theorem dX3_lineTo_45 : decode cX3_lineTo 45 = .ok (.iinc 2 1, 3) := by decide +kernel
theorem dX3_lineTo_48 : decode cX3_lineTo 48 = .ok (.goto (-46), 3) := by decide +kernel
theorem dX3_lineTo_51 : decode cX3_lineTo 51 = .ok (.iconst (-1), 1) := by decide +kernel
theorem dX3_lineTo_52 : decode cX3_lineTo 52 = .ok (.ireturn, 1) := by decide +kernel
def wp_X3_lineTo_J45 (rec2 : Int32 → Prop) (v2_2 : Int32) : Prop := (rec2 (v2_2 + 1))
def wp_X3_lineTo_B2 (σ : SX) (x1 : Int32) (P : Int32 → Prop) (K2 : Prop) (rec2 : Int32 → Prop) (v2_2 : Int32) : Prop := (wp_X0_lineCount σ  (fun r7 => ((r7 ≤ v2_2 → K2) ∧ (¬ r7 ≤ v2_2 → (wp_X0_behind σ (σ.1 15) v2_2 (fun r22 => ((r22 = (-1) → wp_X3_lineTo_J45 rec2 v2_2) ∧ (¬ r22 = (-1) → (wp_X2_figureAt σ r22 (fun r36 => ((¬ r36 = x1 → wp_X3_lineTo_J45 rec2 v2_2) ∧ (r36 = x1 → (P v2_2)))))))))))))
def wp_X3_lineTo_L2 (σ : SX) (x1 : Int32) (P : Int32 → Prop) (K2 : Prop) : Nat → Int32 → Prop
  | 0, _ => False
  | nn + 1, v2_2 => wp_X3_lineTo_B2 σ x1 P K2 (wp_X3_lineTo_L2 σ x1 P K2 nn) v2_2
def wp_X3_lineTo (fu : Nat) (σ : SX) (x1 : Int32) (P : Int32 → Prop) : Prop := (wp_X3_lineTo_L2 σ x1 P (P (-1)) fu 0)
theorem k_X3_lineTo : KV RX3 yX3_lineTo cX3_lineTo 4 (some .int) 1 := ⟨q739, qs21, q1, q740, by decide +kernel⟩
set_option maxHeartbeats 4000000 in
set_option maxRecDepth 100000 in
theorem m_X3_lineTo (l : Launch) (dC : Nat → ClassId) (dI : Nat → Nat → Nat) (h : Nat → Nat) (cy : Nat → ClassId) (fu : Nat) (σ : SX) (x1 : Int32) (P : Int32 → Prop) (hF : wp_X3_lineTo fu σ x1 P) : Met l yX3_lineTo (ws_ yX3_lineTo cX3_lineTo 4 (some .int)) ({ frames := 2, cells := 0, slots := 0, locals := 44 } : Room) (va_Pc [.ref (h 16), .int x1] (fun U => va_P (dC, dI) classes (wH h cy σ) U.heap ∧ kwX dC dI cy U)) (vp_Si P) 0 0 (fun _ => False) := by
  refine Met.ofCx (own := RX3) (by decide) rfl (Nat.le_of_ble_eq_true rfl) ?_
  intro p e s m below meth c hC hv ls hl
  obtain ⟨hx, hb, hr, hml, hown, hts, hlocks⟩ := hC
  have hl : lv_has ls 4 [(0, .ref (h 16)), (1, .int x1)] := hl
  obtain ⟨hP, hK⟩ := hv
  unfold wp_X3_lineTo at hF
  refine lv_iconst (v := 0) hx hb dX3_lineTo_0 (by decide) ?_
  refine lv_istore_n (lv' := [(2, .int 0), (0, .ref (h 16)), (1, .int x1)]) hx hb dX3_lineTo_1 rfl hl (by decide) rfl (fun ls hl => ?_)
  have hX2 : (P (-1)) → ∀ (ls : Array Slot), lv_has ls 4 [] → W p l e ({ frames := 2, cells := 0, slots := 0, locals := 44 } : Room) s m ([.ref (h 16), .int x1] : List Value).toArray below meth c s.heap [] 0 0 (MQ below (vp_Si P) ([.ref (h 16), .int x1] : List Value).toArray s 0 0 (fun _ => False)) (F0 m 51 ls []) := by
    intro hF ls hl
    refine lv_iconst (v := (-1)) hx hb dX3_lineTo_51 (by decide) ?_
    exact W.iret (v := (-1)) hx hb hr (fun t ht hW => ⟨(-1), rfl, hF, ht⟩) (fun q hq => absurd hq List.not_mem_nil) dX3_lineTo_52
  have hL2 : ∀ (K2 : Prop), (K2 → ∀ (ls : Array Slot), lv_has ls 4 [] → W p l e ({ frames := 2, cells := 0, slots := 0, locals := 44 } : Room) s m ([.ref (h 16), .int x1] : List Value).toArray below meth c s.heap [] 0 0 (MQ below (vp_Si P) ([.ref (h 16), .int x1] : List Value).toArray s 0 0 (fun _ => False)) (F0 m 51 ls [])) → ∀ (nn : Nat), ∀ (v2_2 : Int32), wp_X3_lineTo_L2 σ x1 P K2 nn v2_2 → ∀ (ls : Array Slot), lv_has ls 4 [(2, .int v2_2), (0, .ref (h 16)), (1, .int x1)] → W p l e ({ frames := 2, cells := 0, slots := 0, locals := 44 } : Room) s m ([.ref (h 16), .int x1] : List Value).toArray below meth c s.heap [] 0 0 (MQ below (vp_Si P) ([.ref (h 16), .int x1] : List Value).toArray s 0 0 (fun _ => False)) (F0 m 2 ls []) := by
    intro K2 hX2 nn
    induction nn with
    | zero =>
      intro v2_2 hF
      exact hF.elim
    | succ nn ih =>
      intro v2_2 hF ls hl
      obtain ⟨rec2, hrec⟩ : ∃ z : Int32 → Prop, z = wp_X3_lineTo_L2 σ x1 P K2 nn := ⟨_, rfl⟩
      have hF : wp_X3_lineTo_B2 σ x1 P K2 rec2 v2_2 := by rw [hrec]; exact hF
      rw [← hrec] at ih
      clear hrec
      unfold wp_X3_lineTo_B2 at hF
      refine lv_iload_n hx hb dX3_lineTo_2 rfl (lv_at hl 0 rfl) ?_
      refine lv_aload_n hx hb dX3_lineTo_3 rfl (lv_at hl 1 rfl) ?_
      refine va_get (D := (dC, dI)) (ci := 3) (v := .ref (h 0)) (C := RX3) (T := TX3) (N := 6) hx hb hts in_X3 hown hK.1 hP 16 rfl rfl 0 (by decide) (hts _ q141) (fun _ h9 => h9) rfl dX3_lineTo_4 ?_
      have hPc := hP.sub (ws' := wB h cy σ) [0, 1, 2, 3, 4, 5, 6, 7, 8, 9, 10, 11] rfl
      refine cpVi (q0 := 0) (As := []) (rest := [.int v2_2]) ⟨hx, hb, hr, hml, hown, hts, hlocks⟩ hK hPc rfl rfl (m_X0_lineCount l dC dI h cy σ  _ hF) k_X0_lineCount q164 ⟨rfl, rfl⟩ ⟨Nat.le_of_ble_eq_true rfl, Nat.le_of_ble_eq_true rfl⟩ hl.1 rfl rfl (Nat.le_of_ble_eq_true rfl) dX3_lineTo_7 ⟨Nat.le_of_ble_eq_true rfl, Nat.le_of_ble_eq_true rfl⟩ (fun r7 hF => ?_)
      refine lv_icmp_ge (tgt := 51) hx hb dX3_lineTo_10 (by decide) (fun cz => ?_) (fun cz => ?_)
      · have hF := hF.1 cz
        exact hX2 hF _ (lv_sub hl [] rfl)
      · have hF := hF.2 cz
        refine lv_aload_n hx hb dX3_lineTo_13 rfl (lv_at hl 1 rfl) ?_
        refine va_get (D := (dC, dI)) (ci := 3) (v := .ref (h 0)) (C := RX3) (T := TX3) (N := 6) hx hb hts in_X3 hown hK.1 hP 16 rfl rfl 0 (by decide) (hts _ q141) (fun _ h9 => h9) rfl dX3_lineTo_14 ?_
        refine lv_aload_n hx hb dX3_lineTo_17 rfl (lv_at hl 1 rfl) ?_
        refine va_get (D := (dC, dI)) (ci := 3) (v := .int (σ.1 15)) (C := RX3) (T := TX3) (N := 6) hx hb hts in_X3 hown hK.1 hP 16 rfl rfl 4 (by decide) (hts _ q145) (fun _ h9 => h9) rfl dX3_lineTo_18 ?_
        refine lv_iload_n hx hb dX3_lineTo_21 rfl (lv_at hl 0 rfl) ?_
        have hPc := hP.sub (ws' := wB h cy σ) [0, 1, 2, 3, 4, 5, 6, 7, 8, 9, 10, 11] rfl
        refine cpVi (q0 := 0) (As := [.int (σ.1 15), .int v2_2]) (rest := []) ⟨hx, hb, hr, hml, hown, hts, hlocks⟩ hK hPc rfl rfl (m_X0_behind l dC dI h cy σ (σ.1 15) v2_2 _ hF) k_X0_behind q388 ⟨rfl, rfl⟩ ⟨Nat.le_of_ble_eq_true rfl, Nat.le_of_ble_eq_true rfl⟩ hl.1 rfl rfl (Nat.le_of_ble_eq_true rfl) dX3_lineTo_22 ⟨Nat.le_of_ble_eq_true rfl, Nat.le_of_ble_eq_true rfl⟩ (fun r22 hF => ?_)
        refine lv_istore_n (lv' := [(3, .int r22), (2, .int v2_2), (0, .ref (h 16)), (1, .int x1)]) hx hb dX3_lineTo_25 rfl hl (by decide) rfl (fun ls hl => ?_)
        refine lv_iload_n hx hb dX3_lineTo_26 rfl (lv_at hl 0 rfl) ?_
        refine lv_iconst (v := (-1)) hx hb dX3_lineTo_27 (by decide) ?_
        have hJ45 : wp_X3_lineTo_J45 rec2 v2_2 → ∀ (ls : Array Slot), lv_has ls 4 [(2, .int v2_2), (0, .ref (h 16)), (1, .int x1)] → W p l e ({ frames := 2, cells := 0, slots := 0, locals := 44 } : Room) s m ([.ref (h 16), .int x1] : List Value).toArray below meth c s.heap [] 0 0 (MQ below (vp_Si P) ([.ref (h 16), .int x1] : List Value).toArray s 0 0 (fun _ => False)) (F0 m 45 ls []) := by
          intro hF ls hl
          unfold wp_X3_lineTo_J45 at hF
          refine lv_iinc (v := v2_2 + 1) (lv' := [(2, .int (v2_2 + 1)), (0, .ref (h 16)), (1, .int x1)]) hx hb dX3_lineTo_45 hl (k := 0) rfl (by rfl) (by decide) rfl (fun ls hl => ?_)
          refine lv_goto (tgt := 2) hx hb dX3_lineTo_48 (by decide) ?_
          exact ih (v2_2 + 1) hF _ (lv_sub hl [0, 1, 2] rfl)
        refine lv_icmp_eq (tgt := 45) hx hb dX3_lineTo_28 (by decide) (fun cz => ?_) (fun cz => ?_)
        · have hF := hF.1 cz
          exact hJ45 hF _ (lv_sub hl [1, 2, 3] rfl)
        · have hF := hF.2 cz
          refine lv_aload_n hx hb dX3_lineTo_31 rfl (lv_at hl 2 rfl) ?_
          refine va_get (D := (dC, dI)) (ci := 3) (v := .ref (h 12)) (C := RX3) (T := TX3) (N := 6) hx hb hts in_X3 hown hK.1 hP 16 rfl rfl 1 (by decide) (hts _ q142) (fun _ h9 => h9) rfl dX3_lineTo_32 ?_
          refine lv_iload_n hx hb dX3_lineTo_35 rfl (lv_at hl 0 rfl) ?_
          have hPc := hP.sub (ws' := wW h cy σ) [0, 1, 2, 3, 4, 5, 6, 7, 8, 9, 10, 11, 12, 13, 14, 15] rfl
          refine cpVi (q0 := 12) (As := [.int r22]) (rest := []) ⟨hx, hb, hr, hml, hown, hts, hlocks⟩ hK hPc rfl rfl (m_X2_figureAt l dC dI h cy σ r22 _ hF) k_X2_figureAt q336 ⟨rfl, rfl⟩ ⟨Nat.le_of_ble_eq_true rfl, Nat.le_of_ble_eq_true rfl⟩ hl.1 rfl rfl (Nat.le_of_ble_eq_true rfl) dX3_lineTo_36 ⟨Nat.le_of_ble_eq_true rfl, Nat.le_of_ble_eq_true rfl⟩ (fun r36 hF => ?_)
          refine lv_iload_n hx hb dX3_lineTo_39 rfl (lv_at hl 3 rfl) ?_
          refine lv_icmp_ne (tgt := 45) hx hb dX3_lineTo_40 (by decide) (fun cz => ?_) (fun cz => ?_)
          · have hF := hF.1 cz
            exact hJ45 hF _ (lv_sub hl [1, 2, 3] rfl)
          · have hF := hF.2 cz
            refine lv_iload_n hx hb dX3_lineTo_43 rfl (lv_at hl 1 rfl) ?_
            exact W.iret (v := v2_2) hx hb hr (fun t ht hW => ⟨v2_2, rfl, hF, ht⟩) (fun q hq => absurd hq List.not_mem_nil) dX3_lineTo_44
  exact hL2 _ hX2 fu 0 hF _ (lv_sub hl [0, 1, 2] rfl)
theorem dX3_isOddApart_0 : decode cX3_isOddApart 0 = .ok (.iconst 0, 1) := by decide +kernel
theorem dX3_isOddApart_1 : decode cX3_isOddApart 1 = .ok (.istore_n 2, 1) := by decide +kernel
theorem dX3_isOddApart_2 : decode cX3_isOddApart 2 = .ok (.iload_n 2, 1) := by decide +kernel
theorem dX3_isOddApart_3 : decode cX3_isOddApart 3 = .ok (.iconst 3, 1) := by decide +kernel
theorem dX3_isOddApart_4 : decode cX3_isOddApart 4 = .ok (.if_icmp .ge 95, 3) := by decide +kernel
theorem dX3_isOddApart_7 : decode cX3_isOddApart 7 = .ok (.iload_n 2, 1) := by decide +kernel
theorem dX3_isOddApart_8 : decode cX3_isOddApart 8 = .ok (.iconst 1, 1) := by decide +kernel
theorem dX3_isOddApart_9 : decode cX3_isOddApart 9 = .ok (.iadd, 1) := by decide +kernel
theorem dX3_isOddApart_10 : decode cX3_isOddApart 10 = .ok (.istore_n 3, 1) := by decide +kernel
theorem dX3_isOddApart_11 : decode cX3_isOddApart 11 = .ok (.iload_n 3, 1) := by decide +kernel
theorem dX3_isOddApart_12 : decode cX3_isOddApart 12 = .ok (.iconst 3, 1) := by decide +kernel
theorem dX3_isOddApart_13 : decode cX3_isOddApart 13 = .ok (.if_icmp .ge 80, 3) := by decide +kernel
theorem dX3_isOddApart_16 : decode cX3_isOddApart 16 = .ok (.aload_n 0, 1) := by decide +kernel
theorem dX3_isOddApart_17 : decode cX3_isOddApart 17 = .ok (.getfield 10, 3) := by decide +kernel
theorem dX3_isOddApart_20 : decode cX3_isOddApart 20 = .ok (.aload_n 0, 1) := by decide +kernel
theorem dX3_isOddApart_21 : decode cX3_isOddApart 21 = .ok (.getfield 83, 3) := by decide +kernel
theorem dX3_isOddApart_24 : decode cX3_isOddApart 24 = .ok (.iload_n 2, 1) := by decide +kernel
theorem dX3_isOddApart_25 : decode cX3_isOddApart 25 = .ok (.iload_n 1, 1) := by decide +kernel
theorem dX3_isOddApart_26 : decode cX3_isOddApart 26 = .ok (.invokevirtual 295, 3) := by decide +kernel
theorem dX3_isOddApart_29 : decode cX3_isOddApart 29 = .ok (.aload_n 0, 1) := by decide +kernel
theorem dX3_isOddApart_30 : decode cX3_isOddApart 30 = .ok (.getfield 10, 3) := by decide +kernel
theorem dX3_isOddApart_33 : decode cX3_isOddApart 33 = .ok (.aload_n 0, 1) := by decide +kernel
theorem dX3_isOddApart_34 : decode cX3_isOddApart 34 = .ok (.getfield 83, 3) := by decide +kernel
theorem dX3_isOddApart_37 : decode cX3_isOddApart 37 = .ok (.iload_n 3, 1) := by decide +kernel
theorem dX3_isOddApart_38 : decode cX3_isOddApart 38 = .ok (.iload_n 1, 1) := by decide +kernel
theorem dX3_isOddApart_39 : decode cX3_isOddApart 39 = .ok (.invokevirtual 295, 3) := by decide +kernel
theorem dX3_isOddApart_42 : decode cX3_isOddApart 42 = .ok (.iadd, 1) := by decide +kernel
theorem dX3_isOddApart_43 : decode cX3_isOddApart 43 = .ok (.istore 4, 2) := by decide +kernel
theorem dX3_isOddApart_45 : decode cX3_isOddApart 45 = .ok (.aload_n 0, 1) := by decide +kernel
theorem dX3_isOddApart_46 : decode cX3_isOddApart 46 = .ok (.getfield 10, 3) := by decide +kernel
theorem dX3_isOddApart_49 : decode cX3_isOddApart 49 = .ok (.aload_n 0, 1) := by decide +kernel
theorem dX3_isOddApart_50 : decode cX3_isOddApart 50 = .ok (.getfield 87, 3) := by decide +kernel
theorem dX3_isOddApart_53 : decode cX3_isOddApart 53 = .ok (.iload_n 2, 1) := by decide +kernel
theorem dX3_isOddApart_54 : decode cX3_isOddApart 54 = .ok (.iload_n 1, 1) := by decide +kernel
theorem dX3_isOddApart_55 : decode cX3_isOddApart 55 = .ok (.invokevirtual 295, 3) := by decide +kernel
theorem dX3_isOddApart_58 : decode cX3_isOddApart 58 = .ok (.aload_n 0, 1) := by decide +kernel
theorem dX3_isOddApart_59 : decode cX3_isOddApart 59 = .ok (.getfield 10, 3) := by decide +kernel
theorem dX3_isOddApart_62 : decode cX3_isOddApart 62 = .ok (.aload_n 0, 1) := by decide +kernel
theorem dX3_isOddApart_63 : decode cX3_isOddApart 63 = .ok (.getfield 87, 3) := by decide +kernel
theorem dX3_isOddApart_66 : decode cX3_isOddApart 66 = .ok (.iload_n 3, 1) := by decide +kernel
theorem dX3_isOddApart_67 : decode cX3_isOddApart 67 = .ok (.iload_n 1, 1) := by decide +kernel
theorem dX3_isOddApart_68 : decode cX3_isOddApart 68 = .ok (.invokevirtual 295, 3) := by decide +kernel
theorem dX3_isOddApart_71 : decode cX3_isOddApart 71 = .ok (.iadd, 1) := by decide +kernel
theorem dX3_isOddApart_72 : decode cX3_isOddApart 72 = .ok (.istore 5, 2) := by decide +kernel
theorem dX3_isOddApart_74 : decode cX3_isOddApart 74 = .ok (.iload 4, 2) := by decide +kernel
theorem dX3_isOddApart_76 : decode cX3_isOddApart 76 = .ok (.iconst 1, 1) := by decide +kernel
theorem dX3_isOddApart_77 : decode cX3_isOddApart 77 = .ok (.iand, 1) := by decide +kernel
theorem dX3_isOddApart_78 : decode cX3_isOddApart 78 = .ok (.iload 5, 2) := by decide +kernel
theorem dX3_isOddApart_80 : decode cX3_isOddApart 80 = .ok (.iconst 1, 1) := by decide +kernel
theorem dX3_isOddApart_81 : decode cX3_isOddApart 81 = .ok (.iand, 1) := by decide +kernel
theorem dX3_isOddApart_82 : decode cX3_isOddApart 82 = .ok (.if_icmp .eq 5, 3) := by decide +kernel
theorem dX3_isOddApart_85 : decode cX3_isOddApart 85 = .ok (.iconst 1, 1) := by decide +kernel
theorem dX3_isOddApart_86 : decode cX3_isOddApart 86 = .ok (.ireturn, 1) := by decide +kernel
theorem dX3_isOddApart_87 : decode cX3_isOddApart 87 = .ok (.iinc 3 1, 3) := by decide +kernel
theorem dX3_isOddApart_90 : decode cX3_isOddApart 90 = .ok (.goto (-79), 3) := by decide +kernel
theorem dX3_isOddApart_93 : decode cX3_isOddApart 93 = .ok (.iinc 2 1, 3) := by decide +kernel
theorem dX3_isOddApart_96 : decode cX3_isOddApart 96 = .ok (.goto (-94), 3) := by decide +kernel
theorem dX3_isOddApart_99 : decode cX3_isOddApart 99 = .ok (.iconst 0, 1) := by decide +kernel
theorem dX3_isOddApart_100 : decode cX3_isOddApart 100 = .ok (.ireturn, 1) := by decide +kernel
def wp_X3_isOddApart_B11 (fu : Nat) (σ : SX) (x1 : Int32) (P : Int32 → Prop) (v2_2 : Int32) (K11 : Prop) (rec11 : Int32 → Prop) (v3_11 : Int32) : Prop := ((3 ≤ v3_11 → K11) ∧ (¬ 3 ≤ v3_11 → (wp_X0_countColour fu σ (σ.1 15) v2_2 x1 (fun r26 => (wp_X0_countColour fu σ (σ.1 15) v3_11 x1 (fun r39 => (wp_X0_countColour fu σ (σ.1 16) v2_2 x1 (fun r55 => (wp_X0_countColour fu σ (σ.1 16) v3_11 x1 (fun r68 => ((((r26 + r39) &&& 1) = ((r55 + r68) &&& 1) → (rec11 (v3_11 + 1))) ∧ (¬ ((r26 + r39) &&& 1) = ((r55 + r68) &&& 1) → (P 1)))))))))))))
def wp_X3_isOddApart_L11 (fu : Nat) (σ : SX) (x1 : Int32) (P : Int32 → Prop) (v2_2 : Int32) (K11 : Prop) : Nat → Int32 → Prop
  | 0, _ => False
  | nn + 1, v3_11 => wp_X3_isOddApart_B11 fu σ x1 P v2_2 K11 (wp_X3_isOddApart_L11 fu σ x1 P v2_2 K11 nn) v3_11
def wp_X3_isOddApart_B2 (fu : Nat) (σ : SX) (x1 : Int32) (P : Int32 → Prop) (K2 : Prop) (rec2 : Int32 → Prop) (v2_2 : Int32) : Prop := ((3 ≤ v2_2 → K2) ∧ (¬ 3 ≤ v2_2 → (wp_X3_isOddApart_L11 fu σ x1 P v2_2 (rec2 (v2_2 + 1)) fu (v2_2 + 1))))
def wp_X3_isOddApart_L2 (fu : Nat) (σ : SX) (x1 : Int32) (P : Int32 → Prop) (K2 : Prop) : Nat → Int32 → Prop
  | 0, _ => False
  | nn + 1, v2_2 => wp_X3_isOddApart_B2 fu σ x1 P K2 (wp_X3_isOddApart_L2 fu σ x1 P K2 nn) v2_2
def wp_X3_isOddApart (fu : Nat) (σ : SX) (x1 : Int32) (P : Int32 → Prop) : Prop := (wp_X3_isOddApart_L2 fu σ x1 P (P 0) fu 0)
theorem k_X3_isOddApart : KV RX3 yX3_isOddApart cX3_isOddApart 6 (some .boolean) 1 := ⟨q310, qs5, q1, q311, by decide +kernel⟩
set_option maxHeartbeats 4000000 in
set_option maxRecDepth 100000 in
theorem m_X3_isOddApart (l : Launch) (dC : Nat → ClassId) (dI : Nat → Nat → Nat) (h : Nat → Nat) (cy : Nat → ClassId) (fu : Nat) (σ : SX) (x1 : Int32) (P : Int32 → Prop) (hF : wp_X3_isOddApart fu σ x1 P) : Met l yX3_isOddApart (ws_ yX3_isOddApart cX3_isOddApart 6 (some .boolean)) ({ frames := 3, cells := 0, slots := 0, locals := 70 } : Room) (va_Pc [.ref (h 16), .int x1] (fun U => va_P (dC, dI) classes (wH h cy σ) U.heap ∧ kwX dC dI cy U)) (vp_Si P) 0 0 (fun _ => False) := by
  refine Met.ofCx (own := RX3) (by decide) rfl (Nat.le_of_ble_eq_true rfl) ?_
  intro p e s m below meth c hC hv ls hl
  obtain ⟨hx, hb, hr, hml, hown, hts, hlocks⟩ := hC
  have hl : lv_has ls 6 [(0, .ref (h 16)), (1, .int x1)] := hl
  obtain ⟨hP, hK⟩ := hv
  unfold wp_X3_isOddApart at hF
  refine lv_iconst (v := 0) hx hb dX3_isOddApart_0 (by decide) ?_
  refine lv_istore_n (lv' := [(2, .int 0), (0, .ref (h 16)), (1, .int x1)]) hx hb dX3_isOddApart_1 rfl hl (by decide) rfl (fun ls hl => ?_)
  have hX2 : (P 0) → ∀ (ls : Array Slot), lv_has ls 6 [] → W p l e ({ frames := 3, cells := 0, slots := 0, locals := 70 } : Room) s m ([.ref (h 16), .int x1] : List Value).toArray below meth c s.heap [] 0 0 (MQ below (vp_Si P) ([.ref (h 16), .int x1] : List Value).toArray s 0 0 (fun _ => False)) (F0 m 99 ls []) := by
    intro hF ls hl
    refine lv_iconst (v := 0) hx hb dX3_isOddApart_99 (by decide) ?_
    exact W.zret (v := 0) hx hb hr rfl (fun t ht hW => ⟨0, rfl, hF, ht⟩) (fun q hq => absurd hq List.not_mem_nil) dX3_isOddApart_100
  have hL2 : ∀ (K2 : Prop), (K2 → ∀ (ls : Array Slot), lv_has ls 6 [] → W p l e ({ frames := 3, cells := 0, slots := 0, locals := 70 } : Room) s m ([.ref (h 16), .int x1] : List Value).toArray below meth c s.heap [] 0 0 (MQ below (vp_Si P) ([.ref (h 16), .int x1] : List Value).toArray s 0 0 (fun _ => False)) (F0 m 99 ls [])) → ∀ (nn : Nat), ∀ (v2_2 : Int32), wp_X3_isOddApart_L2 fu σ x1 P K2 nn v2_2 → ∀ (ls : Array Slot), lv_has ls 6 [(2, .int v2_2), (0, .ref (h 16)), (1, .int x1)] → W p l e ({ frames := 3, cells := 0, slots := 0, locals := 70 } : Room) s m ([.ref (h 16), .int x1] : List Value).toArray below meth c s.heap [] 0 0 (MQ below (vp_Si P) ([.ref (h 16), .int x1] : List Value).toArray s 0 0 (fun _ => False)) (F0 m 2 ls []) := by
    intro K2 hX2 nn
    induction nn with
    | zero =>
      intro v2_2 hF
      exact hF.elim
    | succ nn ih =>
      intro v2_2 hF ls hl
      obtain ⟨rec2, hrec⟩ : ∃ z : Int32 → Prop, z = wp_X3_isOddApart_L2 fu σ x1 P K2 nn := ⟨_, rfl⟩
      have hF : wp_X3_isOddApart_B2 fu σ x1 P K2 rec2 v2_2 := by rw [hrec]; exact hF
      rw [← hrec] at ih
      clear hrec
      unfold wp_X3_isOddApart_B2 at hF
      refine lv_iload_n hx hb dX3_isOddApart_2 rfl (lv_at hl 0 rfl) ?_
      refine lv_iconst (v := 3) hx hb dX3_isOddApart_3 (by decide) ?_
      refine lv_icmp_ge (tgt := 99) hx hb dX3_isOddApart_4 (by decide) (fun cz => ?_) (fun cz => ?_)
      · have hF := hF.1 cz
        exact hX2 hF _ (lv_sub hl [] rfl)
      · have hF := hF.2 cz
        refine lv_iload_n hx hb dX3_isOddApart_7 rfl (lv_at hl 0 rfl) ?_
        refine lv_iconst (v := 1) hx hb dX3_isOddApart_8 (by decide) ?_
        refine lv_iadd hx hb dX3_isOddApart_9 ?_
        refine lv_istore_n (lv' := [(3, .int (v2_2 + 1)), (2, .int v2_2), (0, .ref (h 16)), (1, .int x1)]) hx hb dX3_isOddApart_10 rfl hl (by decide) rfl (fun ls hl => ?_)
        have hX11 : (rec2 (v2_2 + 1)) → ∀ (ls : Array Slot), lv_has ls 6 [(2, .int v2_2), (0, .ref (h 16)), (1, .int x1)] → W p l e ({ frames := 3, cells := 0, slots := 0, locals := 70 } : Room) s m ([.ref (h 16), .int x1] : List Value).toArray below meth c s.heap [] 0 0 (MQ below (vp_Si P) ([.ref (h 16), .int x1] : List Value).toArray s 0 0 (fun _ => False)) (F0 m 93 ls []) := by
          intro hF ls hl
          refine lv_iinc (v := v2_2 + 1) (lv' := [(2, .int (v2_2 + 1)), (0, .ref (h 16)), (1, .int x1)]) hx hb dX3_isOddApart_93 hl (k := 0) rfl (by rfl) (by decide) rfl (fun ls hl => ?_)
          refine lv_goto (tgt := 2) hx hb dX3_isOddApart_96 (by decide) ?_
          exact ih (v2_2 + 1) hF _ (lv_sub hl [0, 1, 2] rfl)
        have hL11 : ∀ (K11 : Prop), (K11 → ∀ (ls : Array Slot), lv_has ls 6 [(2, .int v2_2), (0, .ref (h 16)), (1, .int x1)] → W p l e ({ frames := 3, cells := 0, slots := 0, locals := 70 } : Room) s m ([.ref (h 16), .int x1] : List Value).toArray below meth c s.heap [] 0 0 (MQ below (vp_Si P) ([.ref (h 16), .int x1] : List Value).toArray s 0 0 (fun _ => False)) (F0 m 93 ls [])) → ∀ (nn : Nat), ∀ (v3_11 : Int32), wp_X3_isOddApart_L11 fu σ x1 P v2_2 K11 nn v3_11 → ∀ (ls : Array Slot), lv_has ls 6 [(3, .int v3_11), (2, .int v2_2), (0, .ref (h 16)), (1, .int x1)] → W p l e ({ frames := 3, cells := 0, slots := 0, locals := 70 } : Room) s m ([.ref (h 16), .int x1] : List Value).toArray below meth c s.heap [] 0 0 (MQ below (vp_Si P) ([.ref (h 16), .int x1] : List Value).toArray s 0 0 (fun _ => False)) (F0 m 11 ls []) := by
          intro K11 hX11 nn
          induction nn with
          | zero =>
            intro v3_11 hF
            exact hF.elim
          | succ nn ih =>
            intro v3_11 hF ls hl
            obtain ⟨rec11, hrec⟩ : ∃ z : Int32 → Prop, z = wp_X3_isOddApart_L11 fu σ x1 P v2_2 K11 nn := ⟨_, rfl⟩
            have hF : wp_X3_isOddApart_B11 fu σ x1 P v2_2 K11 rec11 v3_11 := by rw [hrec]; exact hF
            rw [← hrec] at ih
            clear hrec
            unfold wp_X3_isOddApart_B11 at hF
            refine lv_iload_n hx hb dX3_isOddApart_11 rfl (lv_at hl 0 rfl) ?_
            refine lv_iconst (v := 3) hx hb dX3_isOddApart_12 (by decide) ?_
            refine lv_icmp_ge (tgt := 93) hx hb dX3_isOddApart_13 (by decide) (fun cz => ?_) (fun cz => ?_)
            · have hF := hF.1 cz
              exact hX11 hF _ (lv_sub hl [1, 2, 3] rfl)
            · have hF := hF.2 cz
              refine lv_aload_n hx hb dX3_isOddApart_16 rfl (lv_at hl 2 rfl) ?_
              refine va_get (D := (dC, dI)) (ci := 3) (v := .ref (h 0)) (C := RX3) (T := TX3) (N := 6) hx hb hts in_X3 hown hK.1 hP 16 rfl rfl 0 (by decide) (hts _ q141) (fun _ h9 => h9) rfl dX3_isOddApart_17 ?_
              refine lv_aload_n hx hb dX3_isOddApart_20 rfl (lv_at hl 2 rfl) ?_
              refine va_get (D := (dC, dI)) (ci := 3) (v := .int (σ.1 15)) (C := RX3) (T := TX3) (N := 6) hx hb hts in_X3 hown hK.1 hP 16 rfl rfl 4 (by decide) (hts _ q145) (fun _ h9 => h9) rfl dX3_isOddApart_21 ?_
              refine lv_iload_n hx hb dX3_isOddApart_24 rfl (lv_at hl 1 rfl) ?_
              refine lv_iload_n hx hb dX3_isOddApart_25 rfl (lv_at hl 3 rfl) ?_
              have hPc := hP.sub (ws' := wB h cy σ) [0, 1, 2, 3, 4, 5, 6, 7, 8, 9, 10, 11] rfl
              refine cpVi (q0 := 0) (As := [.int (σ.1 15), .int v2_2, .int x1]) (rest := []) ⟨hx, hb, hr, hml, hown, hts, hlocks⟩ hK hPc rfl rfl (m_X0_countColour l dC dI h cy fu σ (σ.1 15) v2_2 x1 _ hF) k_X0_countColour q312 ⟨rfl, rfl⟩ ⟨Nat.le_of_ble_eq_true rfl, Nat.le_of_ble_eq_true rfl⟩ hl.1 rfl rfl (Nat.le_of_ble_eq_true rfl) dX3_isOddApart_26 ⟨Nat.le_of_ble_eq_true rfl, Nat.le_of_ble_eq_true rfl⟩ (fun r26 hF => ?_)
              refine lv_aload_n hx hb dX3_isOddApart_29 rfl (lv_at hl 2 rfl) ?_
              refine va_get (D := (dC, dI)) (ci := 3) (v := .ref (h 0)) (C := RX3) (T := TX3) (N := 6) hx hb hts in_X3 hown hK.1 hP 16 rfl rfl 0 (by decide) (hts _ q141) (fun _ h9 => h9) rfl dX3_isOddApart_30 ?_
              refine lv_aload_n hx hb dX3_isOddApart_33 rfl (lv_at hl 2 rfl) ?_
              refine va_get (D := (dC, dI)) (ci := 3) (v := .int (σ.1 15)) (C := RX3) (T := TX3) (N := 6) hx hb hts in_X3 hown hK.1 hP 16 rfl rfl 4 (by decide) (hts _ q145) (fun _ h9 => h9) rfl dX3_isOddApart_34 ?_
              refine lv_iload_n hx hb dX3_isOddApart_37 rfl (lv_at hl 0 rfl) ?_
              refine lv_iload_n hx hb dX3_isOddApart_38 rfl (lv_at hl 3 rfl) ?_
              have hPc := hP.sub (ws' := wB h cy σ) [0, 1, 2, 3, 4, 5, 6, 7, 8, 9, 10, 11] rfl
              refine cpVi (q0 := 0) (As := [.int (σ.1 15), .int v3_11, .int x1]) (rest := [.int r26]) ⟨hx, hb, hr, hml, hown, hts, hlocks⟩ hK hPc rfl rfl (m_X0_countColour l dC dI h cy fu σ (σ.1 15) v3_11 x1 _ hF) k_X0_countColour q312 ⟨rfl, rfl⟩ ⟨Nat.le_of_ble_eq_true rfl, Nat.le_of_ble_eq_true rfl⟩ hl.1 rfl rfl (Nat.le_of_ble_eq_true rfl) dX3_isOddApart_39 ⟨Nat.le_of_ble_eq_true rfl, Nat.le_of_ble_eq_true rfl⟩ (fun r39 hF => ?_)
              refine lv_iadd hx hb dX3_isOddApart_42 ?_
              refine lv_istore (lv' := [(4, .int (r26 + r39)), (3, .int v3_11), (2, .int v2_2), (0, .ref (h 16)), (1, .int x1)]) hx hb dX3_isOddApart_43 hl (by decide) rfl (fun ls hl => ?_)
              refine lv_aload_n hx hb dX3_isOddApart_45 rfl (lv_at hl 3 rfl) ?_
              refine va_get (D := (dC, dI)) (ci := 3) (v := .ref (h 0)) (C := RX3) (T := TX3) (N := 6) hx hb hts in_X3 hown hK.1 hP 16 rfl rfl 0 (by decide) (hts _ q141) (fun _ h9 => h9) rfl dX3_isOddApart_46 ?_
              refine lv_aload_n hx hb dX3_isOddApart_49 rfl (lv_at hl 3 rfl) ?_
              refine va_get (D := (dC, dI)) (ci := 3) (v := .int (σ.1 16)) (C := RX3) (T := TX3) (N := 6) hx hb hts in_X3 hown hK.1 hP 16 rfl rfl 5 (by decide) (hts _ q146) (fun _ h9 => h9) rfl dX3_isOddApart_50 ?_
              refine lv_iload_n hx hb dX3_isOddApart_53 rfl (lv_at hl 2 rfl) ?_
              refine lv_iload_n hx hb dX3_isOddApart_54 rfl (lv_at hl 4 rfl) ?_
              have hPc := hP.sub (ws' := wB h cy σ) [0, 1, 2, 3, 4, 5, 6, 7, 8, 9, 10, 11] rfl
              refine cpVi (q0 := 0) (As := [.int (σ.1 16), .int v2_2, .int x1]) (rest := []) ⟨hx, hb, hr, hml, hown, hts, hlocks⟩ hK hPc rfl rfl (m_X0_countColour l dC dI h cy fu σ (σ.1 16) v2_2 x1 _ hF) k_X0_countColour q312 ⟨rfl, rfl⟩ ⟨Nat.le_of_ble_eq_true rfl, Nat.le_of_ble_eq_true rfl⟩ hl.1 rfl rfl (Nat.le_of_ble_eq_true rfl) dX3_isOddApart_55 ⟨Nat.le_of_ble_eq_true rfl, Nat.le_of_ble_eq_true rfl⟩ (fun r55 hF => ?_)
              refine lv_aload_n hx hb dX3_isOddApart_58 rfl (lv_at hl 3 rfl) ?_
              refine va_get (D := (dC, dI)) (ci := 3) (v := .ref (h 0)) (C := RX3) (T := TX3) (N := 6) hx hb hts in_X3 hown hK.1 hP 16 rfl rfl 0 (by decide) (hts _ q141) (fun _ h9 => h9) rfl dX3_isOddApart_59 ?_
              refine lv_aload_n hx hb dX3_isOddApart_62 rfl (lv_at hl 3 rfl) ?_
              refine va_get (D := (dC, dI)) (ci := 3) (v := .int (σ.1 16)) (C := RX3) (T := TX3) (N := 6) hx hb hts in_X3 hown hK.1 hP 16 rfl rfl 5 (by decide) (hts _ q146) (fun _ h9 => h9) rfl dX3_isOddApart_63 ?_
              refine lv_iload_n hx hb dX3_isOddApart_66 rfl (lv_at hl 1 rfl) ?_
              refine lv_iload_n hx hb dX3_isOddApart_67 rfl (lv_at hl 4 rfl) ?_
              have hPc := hP.sub (ws' := wB h cy σ) [0, 1, 2, 3, 4, 5, 6, 7, 8, 9, 10, 11] rfl
              refine cpVi (q0 := 0) (As := [.int (σ.1 16), .int v3_11, .int x1]) (rest := [.int r55]) ⟨hx, hb, hr, hml, hown, hts, hlocks⟩ hK hPc rfl rfl (m_X0_countColour l dC dI h cy fu σ (σ.1 16) v3_11 x1 _ hF) k_X0_countColour q312 ⟨rfl, rfl⟩ ⟨Nat.le_of_ble_eq_true rfl, Nat.le_of_ble_eq_true rfl⟩ hl.1 rfl rfl (Nat.le_of_ble_eq_true rfl) dX3_isOddApart_68 ⟨Nat.le_of_ble_eq_true rfl, Nat.le_of_ble_eq_true rfl⟩ (fun r68 hF => ?_)
              refine lv_iadd hx hb dX3_isOddApart_71 ?_
              refine lv_istore (lv' := [(5, .int (r55 + r68)), (4, .int (r26 + r39)), (3, .int v3_11), (2, .int v2_2), (0, .ref (h 16)), (1, .int x1)]) hx hb dX3_isOddApart_72 hl (by decide) rfl (fun ls hl => ?_)
              refine lv_iload hx hb dX3_isOddApart_74 (lv_at hl 1 rfl) ?_
              refine lv_iconst (v := 1) hx hb dX3_isOddApart_76 (by decide) ?_
              refine lv_iand hx hb dX3_isOddApart_77 ?_
              refine lv_iload hx hb dX3_isOddApart_78 (lv_at hl 0 rfl) ?_
              refine lv_iconst (v := 1) hx hb dX3_isOddApart_80 (by decide) ?_
              refine lv_iand hx hb dX3_isOddApart_81 ?_
              refine lv_icmp_eq (tgt := 87) hx hb dX3_isOddApart_82 (by decide) (fun cz => ?_) (fun cz => ?_)
              · have hF := hF.1 cz
                refine lv_iinc (v := v3_11 + 1) (lv' := [(3, .int (v3_11 + 1)), (5, .int (r55 + r68)), (4, .int (r26 + r39)), (2, .int v2_2), (0, .ref (h 16)), (1, .int x1)]) hx hb dX3_isOddApart_87 hl (k := 2) rfl (by rfl) (by decide) rfl (fun ls hl => ?_)
                refine lv_goto (tgt := 11) hx hb dX3_isOddApart_90 (by decide) ?_
                exact ih (v3_11 + 1) hF _ (lv_sub hl [0, 3, 4, 5] rfl)
              · have hF := hF.2 cz
                refine lv_iconst (v := 1) hx hb dX3_isOddApart_85 (by decide) ?_
                exact W.zret (v := 1) hx hb hr rfl (fun t ht hW => ⟨1, rfl, hF, ht⟩) (fun q hq => absurd hq List.not_mem_nil) dX3_isOddApart_86
        exact hL11 _ hX11 fu (v2_2 + 1) hF _ (lv_sub hl [0, 1, 2, 3] rfl)
  exact hL2 _ hX2 fu 0 hF _ (lv_sub hl [0, 1, 2] rfl)
theorem dX3_isBarred_0 : decode cX3_isBarred 0 = .ok (.iload_n 1, 1) := by decide +kernel
theorem dX3_isBarred_1 : decode cX3_isBarred 1 = .ok (.ifCond .eq 45, 3) := by decide +kernel
theorem dX3_isBarred_4 : decode cX3_isBarred 4 = .ok (.aload_n 0, 1) := by decide +kernel
theorem dX3_isBarred_5 : decode cX3_isBarred 5 = .ok (.getfield 10, 3) := by decide +kernel
theorem dX3_isBarred_8 : decode cX3_isBarred 8 = .ok (.invokevirtual 219, 3) := by decide +kernel
theorem dX3_isBarred_11 : decode cX3_isBarred 11 = .ok (.iconst (-1), 1) := by decide +kernel
theorem dX3_isBarred_12 : decode cX3_isBarred 12 = .ok (.if_icmp .ne 32, 3) := by decide +kernel
theorem dX3_isBarred_15 : decode cX3_isBarred 15 = .ok (.aload_n 0, 1) := by decide +kernel
theorem dX3_isBarred_16 : decode cX3_isBarred 16 = .ok (.getfield 10, 3) := by decide +kernel
theorem dX3_isBarred_19 : decode cX3_isBarred 19 = .ok (.aload_n 0, 1) := by decide +kernel
theorem dX3_isBarred_20 : decode cX3_isBarred 20 = .ok (.getfield 87, 3) := by decide +kernel
theorem dX3_isBarred_23 : decode cX3_isBarred 23 = .ok (.invokevirtual 216, 3) := by decide +kernel
theorem dX3_isBarred_26 : decode cX3_isBarred 26 = .ok (.aload_n 0, 1) := by decide +kernel
theorem dX3_isBarred_27 : decode cX3_isBarred 27 = .ok (.getfield 10, 3) := by decide +kernel
theorem dX3_isBarred_30 : decode cX3_isBarred 30 = .ok (.aload_n 0, 1) := by decide +kernel
theorem dX3_isBarred_31 : decode cX3_isBarred 31 = .ok (.getfield 83, 3) := by decide +kernel
theorem dX3_isBarred_34 : decode cX3_isBarred 34 = .ok (.invokevirtual 216, 3) := by decide +kernel
theorem dX3_isBarred_37 : decode cX3_isBarred 37 = .ok (.if_icmp .le 7, 3) := by decide +kernel
theorem dX3_isBarred_40 : decode cX3_isBarred 40 = .ok (.iconst 1, 1) := by decide +kernel
theorem dX3_isBarred_41 : decode cX3_isBarred 41 = .ok (.goto 4, 3) := by decide +kernel
theorem dX3_isBarred_44 : decode cX3_isBarred 44 = .ok (.iconst 0, 1) := by decide +kernel
theorem dX3_isBarred_45 : decode cX3_isBarred 45 = .ok (.ireturn, 1) := by decide +kernel
theorem dX3_isBarred_46 : decode cX3_isBarred 46 = .ok (.iconst 0, 1) := by decide +kernel
theorem dX3_isBarred_47 : decode cX3_isBarred 47 = .ok (.istore_n 2, 1) := by decide +kernel
theorem dX3_isBarred_48 : decode cX3_isBarred 48 = .ok (.iload_n 2, 1) := by decide +kernel
theorem dX3_isBarred_49 : decode cX3_isBarred 49 = .ok (.iconst 2, 1) := by decide +kernel
theorem dX3_isBarred_50 : decode cX3_isBarred 50 = .ok (.if_icmp .ge 30, 3) := by decide +kernel
theorem dX3_isBarred_53 : decode cX3_isBarred 53 = .ok (.aload_n 0, 1) := by decide +kernel
theorem dX3_isBarred_54 : decode cX3_isBarred 54 = .ok (.getfield 10, 3) := by decide +kernel
theorem dX3_isBarred_57 : decode cX3_isBarred 57 = .ok (.iload_n 2, 1) := by decide +kernel
theorem dX3_isBarred_58 : decode cX3_isBarred 58 = .ok (.invokevirtual 224, 3) := by decide +kernel
theorem dX3_isBarred_61 : decode cX3_isBarred 61 = .ok (.ifCond .eq 13, 3) := by decide +kernel
theorem dX3_isBarred_64 : decode cX3_isBarred 64 = .ok (.aload_n 0, 1) := by decide +kernel
theorem dX3_isBarred_65 : decode cX3_isBarred 65 = .ok (.iload_n 2, 1) := by decide +kernel
theorem dX3_isBarred_66 : decode cX3_isBarred 66 = .ok (.invokevirtual 227, 3) := by decide +kernel
theorem dX3_isBarred_69 : decode cX3_isBarred 69 = .ok (.ifCond .eq 5, 3) := by decide +kernel
theorem dX3_isBarred_72 : decode cX3_isBarred 72 = .ok (.iconst 1, 1) := by decide +kernel
theorem dX3_isBarred_73 : decode cX3_isBarred 73 = .ok (.ireturn, 1) := by decide +kernel
theorem dX3_isBarred_74 : decode cX3_isBarred 74 = .ok (.iinc 2 1, 3) := by decide +kernel
theorem dX3_isBarred_77 : decode cX3_isBarred 77 = .ok (.goto (-29), 3) := by decide +kernel
theorem dX3_isBarred_80 : decode cX3_isBarred 80 = .ok (.iconst 0, 1) := by decide +kernel
theorem dX3_isBarred_81 : decode cX3_isBarred 81 = .ok (.ireturn, 1) := by decide +kernel
def wp_X3_isBarred_J74 (rec48 : Int32 → Prop) (v2_48 : Int32) : Prop := (rec48 (v2_48 + 1))
def wp_X3_isBarred_B48 (fu : Nat) (σ : SX) (P : Int32 → Prop) (K48 : Prop) (rec48 : Int32 → Prop) (v2_48 : Int32) : Prop := ((2 ≤ v2_48 → K48) ∧ (¬ 2 ≤ v2_48 → (wp_X0_isFitColouring fu σ v2_48 (fun r58 => ((r58 = 0 → wp_X3_isBarred_J74 rec48 v2_48) ∧ (¬ r58 = 0 → (wp_X3_isOddApart fu σ v2_48 (fun r66 => ((r66 = 0 → wp_X3_isBarred_J74 rec48 v2_48) ∧ (¬ r66 = 0 → (P 1)))))))))))
def wp_X3_isBarred_L48 (fu : Nat) (σ : SX) (P : Int32 → Prop) (K48 : Prop) : Nat → Int32 → Prop
  | 0, _ => False
  | nn + 1, v2_48 => wp_X3_isBarred_B48 fu σ P K48 (wp_X3_isBarred_L48 fu σ P K48 nn) v2_48
def wp_X3_isBarred (fu : Nat) (σ : SX) (x1 : Int32) (P : Int32 → Prop) : Prop := ((x1 = 0 → (wp_X3_isBarred_L48 fu σ P (P 0) fu 0)) ∧ (¬ x1 = 0 → (wp_X0_faultLine fu σ  (fun r8 => ((¬ r8 = (-1) → (P 0)) ∧ (r8 = (-1) → (wp_X0_weightOfPegs fu σ (σ.1 16) (fun r23 => (wp_X0_weightOfPegs fu σ (σ.1 15) (fun r34 => ((r23 ≤ r34 → (P 0)) ∧ (¬ r23 ≤ r34 → (P 1)))))))))))))
theorem k_X3_isBarred : KV RX3 yX3_isBarred cX3_isBarred 3 (some .boolean) 1 := ⟨q293, q294, q1, q295, by decide +kernel⟩
set_option maxHeartbeats 4000000 in
set_option maxRecDepth 100000 in
theorem m_X3_isBarred (l : Launch) (dC : Nat → ClassId) (dI : Nat → Nat → Nat) (h : Nat → Nat) (cy : Nat → ClassId) (fu : Nat) (σ : SX) (x1 : Int32) (P : Int32 → Prop) (hF : wp_X3_isBarred fu σ x1 P) : Met l yX3_isBarred (ws_ yX3_isBarred cX3_isBarred 3 (some .boolean)) ({ frames := 4, cells := 0, slots := 0, locals := 95 } : Room) (va_Pc [.ref (h 16), .int x1] (fun U => va_P (dC, dI) classes (wH h cy σ) U.heap ∧ kwX dC dI cy U)) (vp_Si P) 0 0 (fun _ => False) := by
  refine Met.ofCx (own := RX3) (by decide) rfl (Nat.le_of_ble_eq_true rfl) ?_
  intro p e s m below meth c hC hv ls hl
  obtain ⟨hx, hb, hr, hml, hown, hts, hlocks⟩ := hC
  have hl : lv_has ls 3 [(0, .ref (h 16)), (1, .int x1)] := hl
  obtain ⟨hP, hK⟩ := hv
  unfold wp_X3_isBarred at hF
  refine lv_iload_n hx hb dX3_isBarred_0 rfl (lv_at hl 1 rfl) ?_
  refine lv_if_eq (tgt := 46) hx hb dX3_isBarred_1 (by decide) (fun cz => ?_) (fun cz => ?_)
  · have hF := hF.1 cz
    refine lv_iconst (v := 0) hx hb dX3_isBarred_46 (by decide) ?_
    refine lv_istore_n (lv' := [(2, .int 0), (0, .ref (h 16)), (1, .int x1)]) hx hb dX3_isBarred_47 rfl hl (by decide) rfl (fun ls hl => ?_)
    have hX48 : (P 0) → ∀ (ls : Array Slot), lv_has ls 3 [] → W p l e ({ frames := 4, cells := 0, slots := 0, locals := 95 } : Room) s m ([.ref (h 16), .int x1] : List Value).toArray below meth c s.heap [] 0 0 (MQ below (vp_Si P) ([.ref (h 16), .int x1] : List Value).toArray s 0 0 (fun _ => False)) (F0 m 80 ls []) := by
      intro hF ls hl
      refine lv_iconst (v := 0) hx hb dX3_isBarred_80 (by decide) ?_
      exact W.zret (v := 0) hx hb hr rfl (fun t ht hW => ⟨0, rfl, hF, ht⟩) (fun q hq => absurd hq List.not_mem_nil) dX3_isBarred_81
    have hL48 : ∀ (K48 : Prop), (K48 → ∀ (ls : Array Slot), lv_has ls 3 [] → W p l e ({ frames := 4, cells := 0, slots := 0, locals := 95 } : Room) s m ([.ref (h 16), .int x1] : List Value).toArray below meth c s.heap [] 0 0 (MQ below (vp_Si P) ([.ref (h 16), .int x1] : List Value).toArray s 0 0 (fun _ => False)) (F0 m 80 ls [])) → ∀ (nn : Nat), ∀ (v2_48 : Int32), wp_X3_isBarred_L48 fu σ P K48 nn v2_48 → ∀ (ls : Array Slot), lv_has ls 3 [(2, .int v2_48), (0, .ref (h 16))] → W p l e ({ frames := 4, cells := 0, slots := 0, locals := 95 } : Room) s m ([.ref (h 16), .int x1] : List Value).toArray below meth c s.heap [] 0 0 (MQ below (vp_Si P) ([.ref (h 16), .int x1] : List Value).toArray s 0 0 (fun _ => False)) (F0 m 48 ls []) := by
      intro K48 hX48 nn
      induction nn with
      | zero =>
        intro v2_48 hF
        exact hF.elim
      | succ nn ih =>
        intro v2_48 hF ls hl
        obtain ⟨rec48, hrec⟩ : ∃ z : Int32 → Prop, z = wp_X3_isBarred_L48 fu σ P K48 nn := ⟨_, rfl⟩
        have hF : wp_X3_isBarred_B48 fu σ P K48 rec48 v2_48 := by rw [hrec]; exact hF
        rw [← hrec] at ih
        clear hrec
        unfold wp_X3_isBarred_B48 at hF
        refine lv_iload_n hx hb dX3_isBarred_48 rfl (lv_at hl 0 rfl) ?_
        refine lv_iconst (v := 2) hx hb dX3_isBarred_49 (by decide) ?_
        refine lv_icmp_ge (tgt := 80) hx hb dX3_isBarred_50 (by decide) (fun cz => ?_) (fun cz => ?_)
        · have hF := hF.1 cz
          exact hX48 hF _ (lv_sub hl [] rfl)
        · have hF := hF.2 cz
          refine lv_aload_n hx hb dX3_isBarred_53 rfl (lv_at hl 1 rfl) ?_
          refine va_get (D := (dC, dI)) (ci := 3) (v := .ref (h 0)) (C := RX3) (T := TX3) (N := 6) hx hb hts in_X3 hown hK.1 hP 16 rfl rfl 0 (by decide) (hts _ q141) (fun _ h9 => h9) rfl dX3_isBarred_54 ?_
          refine lv_iload_n hx hb dX3_isBarred_57 rfl (lv_at hl 0 rfl) ?_
          have hPc := hP.sub (ws' := wB h cy σ) [0, 1, 2, 3, 4, 5, 6, 7, 8, 9, 10, 11] rfl
          refine cpVi (q0 := 0) (As := [.int v2_48]) (rest := []) ⟨hx, hb, hr, hml, hown, hts, hlocks⟩ hK hPc rfl rfl (m_X0_isFitColouring l dC dI h cy fu σ v2_48 _ hF) k_X0_isFitColouring q300 ⟨rfl, rfl⟩ ⟨Nat.le_of_ble_eq_true rfl, Nat.le_of_ble_eq_true rfl⟩ hl.1 rfl rfl (Nat.le_of_ble_eq_true rfl) dX3_isBarred_58 ⟨Nat.le_of_ble_eq_true rfl, Nat.le_of_ble_eq_true rfl⟩ (fun r58 hF => ?_)
          have hJ74 : wp_X3_isBarred_J74 rec48 v2_48 → ∀ (ls : Array Slot), lv_has ls 3 [(2, .int v2_48), (0, .ref (h 16))] → W p l e ({ frames := 4, cells := 0, slots := 0, locals := 95 } : Room) s m ([.ref (h 16), .int x1] : List Value).toArray below meth c s.heap [] 0 0 (MQ below (vp_Si P) ([.ref (h 16), .int x1] : List Value).toArray s 0 0 (fun _ => False)) (F0 m 74 ls []) := by
            intro hF ls hl
            unfold wp_X3_isBarred_J74 at hF
            refine lv_iinc (v := v2_48 + 1) (lv' := [(2, .int (v2_48 + 1)), (0, .ref (h 16))]) hx hb dX3_isBarred_74 hl (k := 0) rfl (by rfl) (by decide) rfl (fun ls hl => ?_)
            refine lv_goto (tgt := 48) hx hb dX3_isBarred_77 (by decide) ?_
            exact ih (v2_48 + 1) hF _ (lv_sub hl [0, 1] rfl)
          refine lv_if_eq (tgt := 74) hx hb dX3_isBarred_61 (by decide) (fun cz => ?_) (fun cz => ?_)
          · have hF := hF.1 cz
            exact hJ74 hF _ (lv_sub hl [0, 1] rfl)
          · have hF := hF.2 cz
            refine lv_aload_n hx hb dX3_isBarred_64 rfl (lv_at hl 1 rfl) ?_
            refine lv_iload_n hx hb dX3_isBarred_65 rfl (lv_at hl 0 rfl) ?_
            refine cpVi (q0 := 16) (As := [.int v2_48]) (rest := []) ⟨hx, hb, hr, hml, hown, hts, hlocks⟩ hK hP rfl rfl (m_X3_isOddApart l dC dI h cy fu σ v2_48 _ hF) k_X3_isOddApart q308 ⟨rfl, rfl⟩ ⟨Nat.le_of_ble_eq_true rfl, Nat.le_of_ble_eq_true rfl⟩ hl.1 rfl rfl (Nat.le_of_ble_eq_true rfl) dX3_isBarred_66 ⟨Nat.le_of_ble_eq_true rfl, Nat.le_of_ble_eq_true rfl⟩ (fun r66 hF => ?_)
            refine lv_if_eq (tgt := 74) hx hb dX3_isBarred_69 (by decide) (fun cz => ?_) (fun cz => ?_)
            · have hF := hF.1 cz
              exact hJ74 hF _ (lv_sub hl [0, 1] rfl)
            · have hF := hF.2 cz
              refine lv_iconst (v := 1) hx hb dX3_isBarred_72 (by decide) ?_
              exact W.zret (v := 1) hx hb hr rfl (fun t ht hW => ⟨1, rfl, hF, ht⟩) (fun q hq => absurd hq List.not_mem_nil) dX3_isBarred_73
    exact hL48 _ hX48 fu 0 hF _ (lv_sub hl [0, 1] rfl)
  · have hF := hF.2 cz
    refine lv_aload_n hx hb dX3_isBarred_4 rfl (lv_at hl 0 rfl) ?_
    refine va_get (D := (dC, dI)) (ci := 3) (v := .ref (h 0)) (C := RX3) (T := TX3) (N := 6) hx hb hts in_X3 hown hK.1 hP 16 rfl rfl 0 (by decide) (hts _ q141) (fun _ h9 => h9) rfl dX3_isBarred_5 ?_
    have hPc := hP.sub (ws' := wB h cy σ) [0, 1, 2, 3, 4, 5, 6, 7, 8, 9, 10, 11] rfl
    refine cpVi (q0 := 0) (As := []) (rest := []) ⟨hx, hb, hr, hml, hown, hts, hlocks⟩ hK hPc rfl rfl (m_X0_faultLine l dC dI h cy fu σ  _ hF) k_X0_faultLine q284 ⟨rfl, rfl⟩ ⟨Nat.le_of_ble_eq_true rfl, Nat.le_of_ble_eq_true rfl⟩ hl.1 rfl rfl (Nat.le_of_ble_eq_true rfl) dX3_isBarred_8 ⟨Nat.le_of_ble_eq_true rfl, Nat.le_of_ble_eq_true rfl⟩ (fun r8 hF => ?_)
    refine lv_iconst (v := (-1)) hx hb dX3_isBarred_11 (by decide) ?_
    refine lv_icmp_ne (tgt := 44) hx hb dX3_isBarred_12 (by decide) (fun cz => ?_) (fun cz => ?_)
    · have hF := hF.1 cz
      refine lv_iconst (v := 0) hx hb dX3_isBarred_44 (by decide) ?_
      exact W.zret (v := 0) hx hb hr rfl (fun t ht hW => ⟨0, rfl, hF, ht⟩) (fun q hq => absurd hq List.not_mem_nil) dX3_isBarred_45
    · have hF := hF.2 cz
      refine lv_aload_n hx hb dX3_isBarred_15 rfl (lv_at hl 0 rfl) ?_
      refine va_get (D := (dC, dI)) (ci := 3) (v := .ref (h 0)) (C := RX3) (T := TX3) (N := 6) hx hb hts in_X3 hown hK.1 hP 16 rfl rfl 0 (by decide) (hts _ q141) (fun _ h9 => h9) rfl dX3_isBarred_16 ?_
      refine lv_aload_n hx hb dX3_isBarred_19 rfl (lv_at hl 0 rfl) ?_
      refine va_get (D := (dC, dI)) (ci := 3) (v := .int (σ.1 16)) (C := RX3) (T := TX3) (N := 6) hx hb hts in_X3 hown hK.1 hP 16 rfl rfl 5 (by decide) (hts _ q146) (fun _ h9 => h9) rfl dX3_isBarred_20 ?_
      have hPc := hP.sub (ws' := wB h cy σ) [0, 1, 2, 3, 4, 5, 6, 7, 8, 9, 10, 11] rfl
      refine cpVi (q0 := 0) (As := [.int (σ.1 16)]) (rest := []) ⟨hx, hb, hr, hml, hown, hts, hlocks⟩ hK hPc rfl rfl (m_X0_weightOfPegs l dC dI h cy fu σ (σ.1 16) _ hF) k_X0_weightOfPegs q296 ⟨rfl, rfl⟩ ⟨Nat.le_of_ble_eq_true rfl, Nat.le_of_ble_eq_true rfl⟩ hl.1 rfl rfl (Nat.le_of_ble_eq_true rfl) dX3_isBarred_23 ⟨Nat.le_of_ble_eq_true rfl, Nat.le_of_ble_eq_true rfl⟩ (fun r23 hF => ?_)
      refine lv_aload_n hx hb dX3_isBarred_26 rfl (lv_at hl 0 rfl) ?_
      refine va_get (D := (dC, dI)) (ci := 3) (v := .ref (h 0)) (C := RX3) (T := TX3) (N := 6) hx hb hts in_X3 hown hK.1 hP 16 rfl rfl 0 (by decide) (hts _ q141) (fun _ h9 => h9) rfl dX3_isBarred_27 ?_
      refine lv_aload_n hx hb dX3_isBarred_30 rfl (lv_at hl 0 rfl) ?_
      refine va_get (D := (dC, dI)) (ci := 3) (v := .int (σ.1 15)) (C := RX3) (T := TX3) (N := 6) hx hb hts in_X3 hown hK.1 hP 16 rfl rfl 4 (by decide) (hts _ q145) (fun _ h9 => h9) rfl dX3_isBarred_31 ?_
      have hPc := hP.sub (ws' := wB h cy σ) [0, 1, 2, 3, 4, 5, 6, 7, 8, 9, 10, 11] rfl
      refine cpVi (q0 := 0) (As := [.int (σ.1 15)]) (rest := [.int r23]) ⟨hx, hb, hr, hml, hown, hts, hlocks⟩ hK hPc rfl rfl (m_X0_weightOfPegs l dC dI h cy fu σ (σ.1 15) _ hF) k_X0_weightOfPegs q296 ⟨rfl, rfl⟩ ⟨Nat.le_of_ble_eq_true rfl, Nat.le_of_ble_eq_true rfl⟩ hl.1 rfl rfl (Nat.le_of_ble_eq_true rfl) dX3_isBarred_34 ⟨Nat.le_of_ble_eq_true rfl, Nat.le_of_ble_eq_true rfl⟩ (fun r34 hF => ?_)
      refine lv_icmp_le (tgt := 44) hx hb dX3_isBarred_37 (by decide) (fun cz => ?_) (fun cz => ?_)
      · have hF := hF.1 cz
        refine lv_iconst (v := 0) hx hb dX3_isBarred_44 (by decide) ?_
        exact W.zret (v := 0) hx hb hr rfl (fun t ht hW => ⟨0, rfl, hF, ht⟩) (fun q hq => absurd hq List.not_mem_nil) dX3_isBarred_45
      · have hF := hF.2 cz
        refine lv_iconst (v := 1) hx hb dX3_isBarred_40 (by decide) ?_
        refine lv_goto (tgt := 45) hx hb dX3_isBarred_41 (by decide) ?_
        exact W.zret (v := 1) hx hb hr rfl (fun t ht hW => ⟨1, rfl, hF, ht⟩) (fun q hq => absurd hq List.not_mem_nil) dX3_isBarred_45
theorem dX3_isMadeSound_0 : decode cX3_isMadeSound 0 = .ok (.aload_n 0, 1) := by decide +kernel
theorem dX3_isMadeSound_1 : decode cX3_isMadeSound 1 = .ok (.getfield 83, 3) := by decide +kernel
theorem dX3_isMadeSound_4 : decode cX3_isMadeSound 4 = .ok (.istore_n 1, 1) := by decide +kernel
theorem dX3_isMadeSound_5 : decode cX3_isMadeSound 5 = .ok (.aload_n 0, 1) := by decide +kernel
theorem dX3_isMadeSound_6 : decode cX3_isMadeSound 6 = .ok (.getfield 30, 3) := by decide +kernel
theorem dX3_isMadeSound_9 : decode cX3_isMadeSound 9 = .ok (.invokevirtual 144, 3) := by decide +kernel
theorem dX3_isMadeSound_12 : decode cX3_isMadeSound 12 = .ok (.iconst 1, 1) := by decide +kernel
theorem dX3_isMadeSound_13 : decode cX3_isMadeSound 13 = .ok (.isub, 1) := by decide +kernel
theorem dX3_isMadeSound_14 : decode cX3_isMadeSound 14 = .ok (.istore_n 2, 1) := by decide +kernel
theorem dX3_isMadeSound_15 : decode cX3_isMadeSound 15 = .ok (.iload_n 2, 1) := by decide +kernel
theorem dX3_isMadeSound_16 : decode cX3_isMadeSound 16 = .ok (.ifCond .lt 55, 3) := by decide +kernel
theorem dX3_isMadeSound_19 : decode cX3_isMadeSound 19 = .ok (.aload_n 0, 1) := by decide +kernel
theorem dX3_isMadeSound_20 : decode cX3_isMadeSound 20 = .ok (.getfield 10, 3) := by decide +kernel
theorem dX3_isMadeSound_23 : decode cX3_isMadeSound 23 = .ok (.aload_n 0, 1) := by decide +kernel
theorem dX3_isMadeSound_24 : decode cX3_isMadeSound 24 = .ok (.getfield 30, 3) := by decide +kernel
theorem dX3_isMadeSound_27 : decode cX3_isMadeSound 27 = .ok (.iload_n 2, 1) := by decide +kernel
theorem dX3_isMadeSound_28 : decode cX3_isMadeSound 28 = .ok (.invokevirtual 158, 3) := by decide +kernel
theorem dX3_isMadeSound_31 : decode cX3_isMadeSound 31 = .ok (.invokevirtual 152, 3) := by decide +kernel
theorem dX3_isMadeSound_34 : decode cX3_isMadeSound 34 = .ok (.istore_n 3, 1) := by decide +kernel
theorem dX3_isMadeSound_35 : decode cX3_isMadeSound 35 = .ok (.aload_n 0, 1) := by decide +kernel
theorem dX3_isMadeSound_36 : decode cX3_isMadeSound 36 = .ok (.getfield 10, 3) := by decide +kernel
theorem dX3_isMadeSound_39 : decode cX3_isMadeSound 39 = .ok (.iload_n 1, 1) := by decide +kernel
theorem dX3_isMadeSound_40 : decode cX3_isMadeSound 40 = .ok (.iload_n 3, 1) := by decide +kernel
theorem dX3_isMadeSound_41 : decode cX3_isMadeSound 41 = .ok (.invokevirtual 155, 3) := by decide +kernel
theorem dX3_isMadeSound_44 : decode cX3_isMadeSound 44 = .ok (.istore 4, 2) := by decide +kernel
theorem dX3_isMadeSound_46 : decode cX3_isMadeSound 46 = .ok (.aload_n 0, 1) := by decide +kernel
theorem dX3_isMadeSound_47 : decode cX3_isMadeSound 47 = .ok (.getfield 10, 3) := by decide +kernel
theorem dX3_isMadeSound_50 : decode cX3_isMadeSound 50 = .ok (.iload 4, 2) := by decide +kernel
theorem dX3_isMadeSound_52 : decode cX3_isMadeSound 52 = .ok (.iload_n 3, 1) := by decide +kernel
theorem dX3_isMadeSound_53 : decode cX3_isMadeSound 53 = .ok (.invokevirtual 136, 3) := by decide +kernel
theorem dX3_isMadeSound_56 : decode cX3_isMadeSound 56 = .ok (.iload_n 1, 1) := by decide +kernel
theorem dX3_isMadeSound_57 : decode cX3_isMadeSound 57 = .ok (.if_icmp .eq 5, 3) := by decide +kernel
theorem dX3_isMadeSound_60 : decode cX3_isMadeSound 60 = .ok (.iconst 0, 1) := by decide +kernel
theorem dX3_isMadeSound_61 : decode cX3_isMadeSound 61 = .ok (.ireturn, 1) := by decide +kernel
theorem dX3_isMadeSound_62 : decode cX3_isMadeSound 62 = .ok (.iload 4, 2) := by decide +kernel
theorem dX3_isMadeSound_64 : decode cX3_isMadeSound 64 = .ok (.istore_n 1, 1) := by decide +kernel
theorem dX3_isMadeSound_65 : decode cX3_isMadeSound 65 = .ok (.iinc 2 (-1), 3) := by decide +kernel
theorem dX3_isMadeSound_68 : decode cX3_isMadeSound 68 = .ok (.goto (-53), 3) := by decide +kernel
theorem dX3_isMadeSound_71 : decode cX3_isMadeSound 71 = .ok (.iconst 1, 1) := by decide +kernel
theorem dX3_isMadeSound_72 : decode cX3_isMadeSound 72 = .ok (.ireturn, 1) := by decide +kernel
def wp_X3_isMadeSound_B15 (fu : Nat) (σ : SX) (P : Int32 → Prop) (K15 : Prop) (rec15 : Int32 → Int32 → Prop) (v2_15 : Int32) (v1_15 : Int32) : Prop := ((v2_15 < 0 → K15) ∧ (¬ v2_15 < 0 → (wp_X1_at 12 (σ.2.1 8) (σ.1 17) v2_15 (fun r28 => (wp_X0_lineOf fu σ r28 (fun r31 => (wp_X0_ahead σ v1_15 r31 (fun r41 => (wp_X0_behind σ r41 r31 (fun r53 => ((r53 = v1_15 → (rec15 (v2_15 + (-1)) r41)) ∧ (¬ r53 = v1_15 → (P 0)))))))))))))
def wp_X3_isMadeSound_L15 (fu : Nat) (σ : SX) (P : Int32 → Prop) (K15 : Prop) : Nat → Int32 → Int32 → Prop
  | 0, _, _ => False
  | nn + 1, v2_15, v1_15 => wp_X3_isMadeSound_B15 fu σ P K15 (wp_X3_isMadeSound_L15 fu σ P K15 nn) v2_15 v1_15
def wp_X3_isMadeSound (fu : Nat) (σ : SX) (P : Int32 → Prop) : Prop := (wp_X1_size 12 (σ.2.1 8) (σ.1 17)  (fun r9 => (wp_X3_isMadeSound_L15 fu σ P (P 1) fu (r9 - 1) (σ.1 15))))
theorem k_X3_isMadeSound : KV RX3 yX3_isMadeSound cX3_isMadeSound 5 (some .boolean) 0 := ⟨q378, qs9, q1, q379, by decide +kernel⟩
set_option maxHeartbeats 4000000 in
set_option maxRecDepth 100000 in
theorem m_X3_isMadeSound (l : Launch) (dC : Nat → ClassId) (dI : Nat → Nat → Nat) (h : Nat → Nat) (cy : Nat → ClassId) (fu : Nat) (σ : SX) (P : Int32 → Prop) (hF : wp_X3_isMadeSound fu σ P) : Met l yX3_isMadeSound (ws_ yX3_isMadeSound cX3_isMadeSound 5 (some .boolean)) ({ frames := 2, cells := 0, slots := 0, locals := 44 } : Room) (va_Pc [.ref (h 16)] (fun U => va_P (dC, dI) classes (wH h cy σ) U.heap ∧ kwX dC dI cy U)) (vp_Si P) 0 0 (fun _ => False) := by
  refine Met.ofCx (own := RX3) (by decide) rfl (Nat.le_of_ble_eq_true rfl) ?_
  intro p e s m below meth c hC hv ls hl
  obtain ⟨hx, hb, hr, hml, hown, hts, hlocks⟩ := hC
  have hl : lv_has ls 5 [(0, .ref (h 16))] := hl
  obtain ⟨hP, hK⟩ := hv
  unfold wp_X3_isMadeSound at hF
  refine lv_aload_n hx hb dX3_isMadeSound_0 rfl (lv_at hl 0 rfl) ?_
  refine va_get (D := (dC, dI)) (ci := 3) (v := .int (σ.1 15)) (C := RX3) (T := TX3) (N := 6) hx hb hts in_X3 hown hK.1 hP 16 rfl rfl 4 (by decide) (hts _ q145) (fun _ h9 => h9) rfl dX3_isMadeSound_1 ?_
  refine lv_istore_n (lv' := [(1, .int (σ.1 15)), (0, .ref (h 16))]) hx hb dX3_isMadeSound_4 rfl hl (by decide) rfl (fun ls hl => ?_)
  refine lv_aload_n hx hb dX3_isMadeSound_5 rfl (lv_at hl 1 rfl) ?_
  refine va_get (D := (dC, dI)) (ci := 3) (v := .ref (h 17)) (C := RX3) (T := TX3) (N := 6) hx hb hts in_X3 hown hK.1 hP 16 rfl rfl 2 (by decide) (hts _ q143) (fun _ h9 => h9) rfl dX3_isMadeSound_6 ?_
  have hPc := hP.sub (ws' := wR (h 17) (h 18) cy 12 (σ.2.1 8) (σ.1 17)) [17, 18] rfl
  refine cpVi (q0 := 0) (As := []) (rest := []) ⟨hx, hb, hr, hml, hown, hts, hlocks⟩ hK hPc rfl rfl (m_X1_size l dC dI (h 17) (h 18) cy 12 (σ.2.1 8) (σ.1 17)  _ hF) k_X1_size q222 ⟨rfl, rfl⟩ ⟨Nat.le_of_ble_eq_true rfl, Nat.le_of_ble_eq_true rfl⟩ hl.1 rfl rfl (Nat.le_of_ble_eq_true rfl) dX3_isMadeSound_9 ⟨Nat.le_of_ble_eq_true rfl, Nat.le_of_ble_eq_true rfl⟩ (fun r9 hF => ?_)
  refine lv_iconst (v := 1) hx hb dX3_isMadeSound_12 (by decide) ?_
  refine lv_isub hx hb dX3_isMadeSound_13 ?_
  refine lv_istore_n (lv' := [(2, .int (r9 - 1)), (1, .int (σ.1 15)), (0, .ref (h 16))]) hx hb dX3_isMadeSound_14 rfl hl (by decide) rfl (fun ls hl => ?_)
  have hX15 : (P 1) → ∀ (ls : Array Slot), lv_has ls 5 [] → W p l e ({ frames := 2, cells := 0, slots := 0, locals := 44 } : Room) s m ([.ref (h 16)] : List Value).toArray below meth c s.heap [] 0 0 (MQ below (vp_Si P) ([.ref (h 16)] : List Value).toArray s 0 0 (fun _ => False)) (F0 m 71 ls []) := by
    intro hF ls hl
    refine lv_iconst (v := 1) hx hb dX3_isMadeSound_71 (by decide) ?_
    exact W.zret (v := 1) hx hb hr rfl (fun t ht hW => ⟨1, rfl, hF, ht⟩) (fun q hq => absurd hq List.not_mem_nil) dX3_isMadeSound_72
  have hL15 : ∀ (K15 : Prop), (K15 → ∀ (ls : Array Slot), lv_has ls 5 [] → W p l e ({ frames := 2, cells := 0, slots := 0, locals := 44 } : Room) s m ([.ref (h 16)] : List Value).toArray below meth c s.heap [] 0 0 (MQ below (vp_Si P) ([.ref (h 16)] : List Value).toArray s 0 0 (fun _ => False)) (F0 m 71 ls [])) → ∀ (nn : Nat), ∀ (v2_15 : Int32), ∀ (v1_15 : Int32), wp_X3_isMadeSound_L15 fu σ P K15 nn v2_15 v1_15 → ∀ (ls : Array Slot), lv_has ls 5 [(2, .int v2_15), (1, .int v1_15), (0, .ref (h 16))] → W p l e ({ frames := 2, cells := 0, slots := 0, locals := 44 } : Room) s m ([.ref (h 16)] : List Value).toArray below meth c s.heap [] 0 0 (MQ below (vp_Si P) ([.ref (h 16)] : List Value).toArray s 0 0 (fun _ => False)) (F0 m 15 ls []) := by
    intro K15 hX15 nn
    induction nn with
    | zero =>
      intro v2_15 v1_15 hF
      exact hF.elim
    | succ nn ih =>
      intro v2_15 v1_15 hF ls hl
      obtain ⟨rec15, hrec⟩ : ∃ z : Int32 → Int32 → Prop, z = wp_X3_isMadeSound_L15 fu σ P K15 nn := ⟨_, rfl⟩
      have hF : wp_X3_isMadeSound_B15 fu σ P K15 rec15 v2_15 v1_15 := by rw [hrec]; exact hF
      rw [← hrec] at ih
      clear hrec
      unfold wp_X3_isMadeSound_B15 at hF
      refine lv_iload_n hx hb dX3_isMadeSound_15 rfl (lv_at hl 0 rfl) ?_
      refine lv_if_lt (tgt := 71) hx hb dX3_isMadeSound_16 (by decide) (fun cz => ?_) (fun cz => ?_)
      · have hF := hF.1 cz
        exact hX15 hF _ (lv_sub hl [] rfl)
      · have hF := hF.2 cz
        refine lv_aload_n hx hb dX3_isMadeSound_19 rfl (lv_at hl 2 rfl) ?_
        refine va_get (D := (dC, dI)) (ci := 3) (v := .ref (h 0)) (C := RX3) (T := TX3) (N := 6) hx hb hts in_X3 hown hK.1 hP 16 rfl rfl 0 (by decide) (hts _ q141) (fun _ h9 => h9) rfl dX3_isMadeSound_20 ?_
        refine lv_aload_n hx hb dX3_isMadeSound_23 rfl (lv_at hl 2 rfl) ?_
        refine va_get (D := (dC, dI)) (ci := 3) (v := .ref (h 17)) (C := RX3) (T := TX3) (N := 6) hx hb hts in_X3 hown hK.1 hP 16 rfl rfl 2 (by decide) (hts _ q143) (fun _ h9 => h9) rfl dX3_isMadeSound_24 ?_
        refine lv_iload_n hx hb dX3_isMadeSound_27 rfl (lv_at hl 0 rfl) ?_
        have hPc := hP.sub (ws' := wR (h 17) (h 18) cy 12 (σ.2.1 8) (σ.1 17)) [17, 18] rfl
        refine cpVi (q0 := 0) (As := [.int v2_15]) (rest := [.ref (h 0)]) ⟨hx, hb, hr, hml, hown, hts, hlocks⟩ hK hPc rfl rfl (m_X1_at l dC dI (h 17) (h 18) cy 12 (σ.2.1 8) (σ.1 17) v2_15 _ hF) k_X1_at q227 ⟨rfl, rfl⟩ ⟨Nat.le_of_ble_eq_true rfl, Nat.le_of_ble_eq_true rfl⟩ hl.1 rfl rfl (Nat.le_of_ble_eq_true rfl) dX3_isMadeSound_28 ⟨Nat.le_of_ble_eq_true rfl, Nat.le_of_ble_eq_true rfl⟩ (fun r28 hF => ?_)
        have hPc := hP.sub (ws' := wB h cy σ) [0, 1, 2, 3, 4, 5, 6, 7, 8, 9, 10, 11] rfl
        refine cpVi (q0 := 0) (As := [.int r28]) (rest := []) ⟨hx, hb, hr, hml, hown, hts, hlocks⟩ hK hPc rfl rfl (m_X0_lineOf l dC dI h cy fu σ r28 _ hF) k_X0_lineOf q380 ⟨rfl, rfl⟩ ⟨Nat.le_of_ble_eq_true rfl, Nat.le_of_ble_eq_true rfl⟩ hl.1 rfl rfl (Nat.le_of_ble_eq_true rfl) dX3_isMadeSound_31 ⟨Nat.le_of_ble_eq_true rfl, Nat.le_of_ble_eq_true rfl⟩ (fun r31 hF => ?_)
        refine lv_istore_n (lv' := [(3, .int r31), (2, .int v2_15), (1, .int v1_15), (0, .ref (h 16))]) hx hb dX3_isMadeSound_34 rfl hl (by decide) rfl (fun ls hl => ?_)
        refine lv_aload_n hx hb dX3_isMadeSound_35 rfl (lv_at hl 3 rfl) ?_
        refine va_get (D := (dC, dI)) (ci := 3) (v := .ref (h 0)) (C := RX3) (T := TX3) (N := 6) hx hb hts in_X3 hown hK.1 hP 16 rfl rfl 0 (by decide) (hts _ q141) (fun _ h9 => h9) rfl dX3_isMadeSound_36 ?_
        refine lv_iload_n hx hb dX3_isMadeSound_39 rfl (lv_at hl 2 rfl) ?_
        refine lv_iload_n hx hb dX3_isMadeSound_40 rfl (lv_at hl 0 rfl) ?_
        have hPc := hP.sub (ws' := wB h cy σ) [0, 1, 2, 3, 4, 5, 6, 7, 8, 9, 10, 11] rfl
        refine cpVi (q0 := 0) (As := [.int v1_15, .int r31]) (rest := []) ⟨hx, hb, hr, hml, hown, hts, hlocks⟩ hK hPc rfl rfl (m_X0_ahead l dC dI h cy σ v1_15 r31 _ hF) k_X0_ahead q384 ⟨rfl, rfl⟩ ⟨Nat.le_of_ble_eq_true rfl, Nat.le_of_ble_eq_true rfl⟩ hl.1 rfl rfl (Nat.le_of_ble_eq_true rfl) dX3_isMadeSound_41 ⟨Nat.le_of_ble_eq_true rfl, Nat.le_of_ble_eq_true rfl⟩ (fun r41 hF => ?_)
        refine lv_istore (lv' := [(4, .int r41), (3, .int r31), (2, .int v2_15), (1, .int v1_15), (0, .ref (h 16))]) hx hb dX3_isMadeSound_44 hl (by decide) rfl (fun ls hl => ?_)
        refine lv_aload_n hx hb dX3_isMadeSound_46 rfl (lv_at hl 4 rfl) ?_
        refine va_get (D := (dC, dI)) (ci := 3) (v := .ref (h 0)) (C := RX3) (T := TX3) (N := 6) hx hb hts in_X3 hown hK.1 hP 16 rfl rfl 0 (by decide) (hts _ q141) (fun _ h9 => h9) rfl dX3_isMadeSound_47 ?_
        refine lv_iload hx hb dX3_isMadeSound_50 (lv_at hl 0 rfl) ?_
        refine lv_iload_n hx hb dX3_isMadeSound_52 rfl (lv_at hl 1 rfl) ?_
        have hPc := hP.sub (ws' := wB h cy σ) [0, 1, 2, 3, 4, 5, 6, 7, 8, 9, 10, 11] rfl
        refine cpVi (q0 := 0) (As := [.int r41, .int r31]) (rest := []) ⟨hx, hb, hr, hml, hown, hts, hlocks⟩ hK hPc rfl rfl (m_X0_behind l dC dI h cy σ r41 r31 _ hF) k_X0_behind q388 ⟨rfl, rfl⟩ ⟨Nat.le_of_ble_eq_true rfl, Nat.le_of_ble_eq_true rfl⟩ hl.1 rfl rfl (Nat.le_of_ble_eq_true rfl) dX3_isMadeSound_53 ⟨Nat.le_of_ble_eq_true rfl, Nat.le_of_ble_eq_true rfl⟩ (fun r53 hF => ?_)
        refine lv_iload_n hx hb dX3_isMadeSound_56 rfl (lv_at hl 3 rfl) ?_
        refine lv_icmp_eq (tgt := 62) hx hb dX3_isMadeSound_57 (by decide) (fun cz => ?_) (fun cz => ?_)
        · have hF := hF.1 cz
          refine lv_iload hx hb dX3_isMadeSound_62 (lv_at hl 0 rfl) ?_
          refine lv_istore_n (lv' := [(1, .int r41), (4, .int r41), (3, .int r31), (2, .int v2_15), (0, .ref (h 16))]) hx hb dX3_isMadeSound_64 rfl hl (by decide) rfl (fun ls hl => ?_)
          refine lv_iinc (v := v2_15 + (-1)) (lv' := [(2, .int (v2_15 + (-1))), (1, .int r41), (4, .int r41), (3, .int r31), (0, .ref (h 16))]) hx hb dX3_isMadeSound_65 hl (k := 3) rfl (by rfl) (by decide) rfl (fun ls hl => ?_)
          refine lv_goto (tgt := 15) hx hb dX3_isMadeSound_68 (by decide) ?_
          exact ih (v2_15 + (-1)) r41 hF _ (lv_sub hl [0, 1, 4] rfl)
        · have hF := hF.2 cz
          refine lv_iconst (v := 0) hx hb dX3_isMadeSound_60 (by decide) ?_
          exact W.zret (v := 0) hx hb hr rfl (fun t ht hW => ⟨0, rfl, hF, ht⟩) (fun q hq => absurd hq List.not_mem_nil) dX3_isMadeSound_61
  exact hL15 _ hX15 fu (r9 - 1) (σ.1 15) hF _ (lv_sub hl [0, 1, 2] rfl)
theorem dX3_isProof_0 : decode cX3_isProof 0 = .ok (.aload_n 0, 1) := by decide +kernel
theorem dX3_isProof_1 : decode cX3_isProof 1 = .ok (.getfield 10, 3) := by decide +kernel
theorem dX3_isProof_4 : decode cX3_isProof 4 = .ok (.invokevirtual 219, 3) := by decide +kernel
theorem dX3_isProof_7 : decode cX3_isProof 7 = .ok (.iconst (-1), 1) := by decide +kernel
theorem dX3_isProof_8 : decode cX3_isProof 8 = .ok (.if_icmp .ne 7, 3) := by decide +kernel
theorem dX3_isProof_11 : decode cX3_isProof 11 = .ok (.iconst 1, 1) := by decide +kernel
theorem dX3_isProof_12 : decode cX3_isProof 12 = .ok (.goto 4, 3) := by decide +kernel
theorem dX3_isProof_15 : decode cX3_isProof 15 = .ok (.iconst 0, 1) := by decide +kernel
theorem dX3_isProof_16 : decode cX3_isProof 16 = .ok (.ireturn, 1) := by decide +kernel
def wp_X3_isProof (fu : Nat) (σ : SX) (P : Int32 → Prop) : Prop := (wp_X0_faultLine fu σ  (fun r4 => ((¬ r4 = (-1) → (P 0)) ∧ (r4 = (-1) → (P 1)))))
theorem k_X3_isProof : KV RX3 yX3_isProof cX3_isProof 1 (some .boolean) 0 := ⟨q281, q282, q1, q283, by decide +kernel⟩
set_option maxHeartbeats 4000000 in
set_option maxRecDepth 100000 in
theorem m_X3_isProof (l : Launch) (dC : Nat → ClassId) (dI : Nat → Nat → Nat) (h : Nat → Nat) (cy : Nat → ClassId) (fu : Nat) (σ : SX) (P : Int32 → Prop) (hF : wp_X3_isProof fu σ P) : Met l yX3_isProof (ws_ yX3_isProof cX3_isProof 1 (some .boolean)) ({ frames := 3, cells := 0, slots := 0, locals := 68 } : Room) (va_Pc [.ref (h 16)] (fun U => va_P (dC, dI) classes (wH h cy σ) U.heap ∧ kwX dC dI cy U)) (vp_Si P) 0 0 (fun _ => False) := by
  refine Met.ofCx (own := RX3) (by decide) rfl (Nat.le_of_ble_eq_true rfl) ?_
  intro p e s m below meth c hC hv ls hl
  obtain ⟨hx, hb, hr, hml, hown, hts, hlocks⟩ := hC
  have hl : lv_has ls 1 [(0, .ref (h 16))] := hl
  obtain ⟨hP, hK⟩ := hv
  unfold wp_X3_isProof at hF
  refine lv_aload_n hx hb dX3_isProof_0 rfl (lv_at hl 0 rfl) ?_
  refine va_get (D := (dC, dI)) (ci := 3) (v := .ref (h 0)) (C := RX3) (T := TX3) (N := 6) hx hb hts in_X3 hown hK.1 hP 16 rfl rfl 0 (by decide) (hts _ q141) (fun _ h9 => h9) rfl dX3_isProof_1 ?_
  have hPc := hP.sub (ws' := wB h cy σ) [0, 1, 2, 3, 4, 5, 6, 7, 8, 9, 10, 11] rfl
  refine cpVi (q0 := 0) (As := []) (rest := []) ⟨hx, hb, hr, hml, hown, hts, hlocks⟩ hK hPc rfl rfl (m_X0_faultLine l dC dI h cy fu σ  _ hF) k_X0_faultLine q284 ⟨rfl, rfl⟩ ⟨Nat.le_of_ble_eq_true rfl, Nat.le_of_ble_eq_true rfl⟩ hl.1 rfl rfl (Nat.le_of_ble_eq_true rfl) dX3_isProof_4 ⟨Nat.le_of_ble_eq_true rfl, Nat.le_of_ble_eq_true rfl⟩ (fun r4 hF => ?_)
  refine lv_iconst (v := (-1)) hx hb dX3_isProof_7 (by decide) ?_
  refine lv_icmp_ne (tgt := 15) hx hb dX3_isProof_8 (by decide) (fun cz => ?_) (fun cz => ?_)
  · have hF := hF.1 cz
    refine lv_iconst (v := 0) hx hb dX3_isProof_15 (by decide) ?_
    exact W.zret (v := 0) hx hb hr rfl (fun t ht hW => ⟨0, rfl, hF, ht⟩) (fun q hq => absurd hq List.not_mem_nil) dX3_isProof_16
  · have hF := hF.2 cz
    refine lv_iconst (v := 1) hx hb dX3_isProof_11 (by decide) ?_
    refine lv_goto (tgt := 16) hx hb dX3_isProof_12 (by decide) ?_
    exact W.zret (v := 1) hx hb hr rfl (fun t ht hW => ⟨1, rfl, hF, ht⟩) (fun q hq => absurd hq List.not_mem_nil) dX3_isProof_16
theorem dX3_isToldSound_0 : decode cX3_isToldSound 0 = .ok (.iconst 0, 1) := by decide +kernel
theorem dX3_isToldSound_1 : decode cX3_isToldSound 1 = .ok (.istore_n 1, 1) := by decide +kernel
theorem dX3_isToldSound_2 : decode cX3_isToldSound 2 = .ok (.iload_n 1, 1) := by decide +kernel
theorem dX3_isToldSound_3 : decode cX3_isToldSound 3 = .ok (.aload_n 0, 1) := by decide +kernel
theorem dX3_isToldSound_4 : decode cX3_isToldSound 4 = .ok (.getfield 34, 3) := by decide +kernel
theorem dX3_isToldSound_7 : decode cX3_isToldSound 7 = .ok (.invokevirtual 144, 3) := by decide +kernel
theorem dX3_isToldSound_10 : decode cX3_isToldSound 10 = .ok (.if_icmp .ge 35, 3) := by decide +kernel
theorem dX3_isToldSound_13 : decode cX3_isToldSound 13 = .ok (.aload_n 0, 1) := by decide +kernel
theorem dX3_isToldSound_14 : decode cX3_isToldSound 14 = .ok (.getfield 34, 3) := by decide +kernel
theorem dX3_isToldSound_17 : decode cX3_isToldSound 17 = .ok (.iload_n 1, 1) := by decide +kernel
theorem dX3_isToldSound_18 : decode cX3_isToldSound 18 = .ok (.invokevirtual 158, 3) := by decide +kernel
theorem dX3_isToldSound_21 : decode cX3_isToldSound 21 = .ok (.istore_n 2, 1) := by decide +kernel
theorem dX3_isToldSound_22 : decode cX3_isToldSound 22 = .ok (.iload_n 2, 1) := by decide +kernel
theorem dX3_isToldSound_23 : decode cX3_isToldSound 23 = .ok (.ifCond .lt 14, 3) := by decide +kernel
theorem dX3_isToldSound_26 : decode cX3_isToldSound 26 = .ok (.iload_n 2, 1) := by decide +kernel
theorem dX3_isToldSound_27 : decode cX3_isToldSound 27 = .ok (.aload_n 0, 1) := by decide +kernel
theorem dX3_isToldSound_28 : decode cX3_isToldSound 28 = .ok (.getfield 10, 3) := by decide +kernel
theorem dX3_isToldSound_31 : decode cX3_isToldSound 31 = .ok (.invokevirtual 67, 3) := by decide +kernel
theorem dX3_isToldSound_34 : decode cX3_isToldSound 34 = .ok (.if_icmp .lt 5, 3) := by decide +kernel
theorem dX3_isToldSound_37 : decode cX3_isToldSound 37 = .ok (.iconst 0, 1) := by decide +kernel
theorem dX3_isToldSound_38 : decode cX3_isToldSound 38 = .ok (.ireturn, 1) := by decide +kernel
theorem dX3_isToldSound_39 : decode cX3_isToldSound 39 = .ok (.iinc 1 1, 3) := by decide +kernel
theorem dX3_isToldSound_42 : decode cX3_isToldSound 42 = .ok (.goto (-40), 3) := by decide +kernel
theorem dX3_isToldSound_45 : decode cX3_isToldSound 45 = .ok (.iconst 1, 1) := by decide +kernel
theorem dX3_isToldSound_46 : decode cX3_isToldSound 46 = .ok (.ireturn, 1) := by decide +kernel
def wp_X3_isToldSound_B2 (σ : SX) (P : Int32 → Prop) (K2 : Prop) (rec2 : Int32 → Prop) (v1_2 : Int32) : Prop := (wp_X1_size 12 (σ.2.1 9) (σ.1 18)  (fun r7 => ((r7 ≤ v1_2 → (P 1)) ∧ (¬ r7 ≤ v1_2 → (wp_X1_at 12 (σ.2.1 9) (σ.1 18) v1_2 (fun r18 => ((r18 < 0 → K2) ∧ (¬ r18 < 0 → (wp_X0_holes σ  (fun r31 => ((r18 < r31 → (rec2 (v1_2 + 1))) ∧ (¬ r18 < r31 → K2))))))))))))
def wp_X3_isToldSound_L2 (σ : SX) (P : Int32 → Prop) (K2 : Prop) : Nat → Int32 → Prop
  | 0, _ => False
  | nn + 1, v1_2 => wp_X3_isToldSound_B2 σ P K2 (wp_X3_isToldSound_L2 σ P K2 nn) v1_2
def wp_X3_isToldSound (fu : Nat) (σ : SX) (P : Int32 → Prop) : Prop := (wp_X3_isToldSound_L2 σ P (P 0) fu 0)
theorem k_X3_isToldSound : KV RX3 yX3_isToldSound cX3_isToldSound 3 (some .boolean) 0 := ⟨q374, qs8, q1, q375, by decide +kernel⟩
set_option maxHeartbeats 4000000 in
set_option maxRecDepth 100000 in
theorem m_X3_isToldSound (l : Launch) (dC : Nat → ClassId) (dI : Nat → Nat → Nat) (h : Nat → Nat) (cy : Nat → ClassId) (fu : Nat) (σ : SX) (P : Int32 → Prop) (hF : wp_X3_isToldSound fu σ P) : Met l yX3_isToldSound (ws_ yX3_isToldSound cX3_isToldSound 3 (some .boolean)) ({ frames := 2, cells := 0, slots := 0, locals := 40 } : Room) (va_Pc [.ref (h 16)] (fun U => va_P (dC, dI) classes (wH h cy σ) U.heap ∧ kwX dC dI cy U)) (vp_Si P) 0 0 (fun _ => False) := by
  refine Met.ofCx (own := RX3) (by decide) rfl (Nat.le_of_ble_eq_true rfl) ?_
  intro p e s m below meth c hC hv ls hl
  obtain ⟨hx, hb, hr, hml, hown, hts, hlocks⟩ := hC
  have hl : lv_has ls 3 [(0, .ref (h 16))] := hl
  obtain ⟨hP, hK⟩ := hv
  unfold wp_X3_isToldSound at hF
  refine lv_iconst (v := 0) hx hb dX3_isToldSound_0 (by decide) ?_
  refine lv_istore_n (lv' := [(1, .int 0), (0, .ref (h 16))]) hx hb dX3_isToldSound_1 rfl hl (by decide) rfl (fun ls hl => ?_)
  have hX2 : (P 0) → ∀ (ls : Array Slot), lv_has ls 3 [] → W p l e ({ frames := 2, cells := 0, slots := 0, locals := 40 } : Room) s m ([.ref (h 16)] : List Value).toArray below meth c s.heap [] 0 0 (MQ below (vp_Si P) ([.ref (h 16)] : List Value).toArray s 0 0 (fun _ => False)) (F0 m 37 ls []) := by
    intro hF ls hl
    refine lv_iconst (v := 0) hx hb dX3_isToldSound_37 (by decide) ?_
    exact W.zret (v := 0) hx hb hr rfl (fun t ht hW => ⟨0, rfl, hF, ht⟩) (fun q hq => absurd hq List.not_mem_nil) dX3_isToldSound_38
  have hL2 : ∀ (K2 : Prop), (K2 → ∀ (ls : Array Slot), lv_has ls 3 [] → W p l e ({ frames := 2, cells := 0, slots := 0, locals := 40 } : Room) s m ([.ref (h 16)] : List Value).toArray below meth c s.heap [] 0 0 (MQ below (vp_Si P) ([.ref (h 16)] : List Value).toArray s 0 0 (fun _ => False)) (F0 m 37 ls [])) → ∀ (nn : Nat), ∀ (v1_2 : Int32), wp_X3_isToldSound_L2 σ P K2 nn v1_2 → ∀ (ls : Array Slot), lv_has ls 3 [(1, .int v1_2), (0, .ref (h 16))] → W p l e ({ frames := 2, cells := 0, slots := 0, locals := 40 } : Room) s m ([.ref (h 16)] : List Value).toArray below meth c s.heap [] 0 0 (MQ below (vp_Si P) ([.ref (h 16)] : List Value).toArray s 0 0 (fun _ => False)) (F0 m 2 ls []) := by
    intro K2 hX2 nn
    induction nn with
    | zero =>
      intro v1_2 hF
      exact hF.elim
    | succ nn ih =>
      intro v1_2 hF ls hl
      obtain ⟨rec2, hrec⟩ : ∃ z : Int32 → Prop, z = wp_X3_isToldSound_L2 σ P K2 nn := ⟨_, rfl⟩
      have hF : wp_X3_isToldSound_B2 σ P K2 rec2 v1_2 := by rw [hrec]; exact hF
      rw [← hrec] at ih
      clear hrec
      unfold wp_X3_isToldSound_B2 at hF
      refine lv_iload_n hx hb dX3_isToldSound_2 rfl (lv_at hl 0 rfl) ?_
      refine lv_aload_n hx hb dX3_isToldSound_3 rfl (lv_at hl 1 rfl) ?_
      refine va_get (D := (dC, dI)) (ci := 3) (v := .ref (h 19)) (C := RX3) (T := TX3) (N := 6) hx hb hts in_X3 hown hK.1 hP 16 rfl rfl 3 (by decide) (hts _ q144) (fun _ h9 => h9) rfl dX3_isToldSound_4 ?_
      have hPc := hP.sub (ws' := wR (h 19) (h 20) cy 12 (σ.2.1 9) (σ.1 18)) [19, 20] rfl
      refine cpVi (q0 := 0) (As := []) (rest := [.int v1_2]) ⟨hx, hb, hr, hml, hown, hts, hlocks⟩ hK hPc rfl rfl (m_X1_size l dC dI (h 19) (h 20) cy 12 (σ.2.1 9) (σ.1 18)  _ hF) k_X1_size q222 ⟨rfl, rfl⟩ ⟨Nat.le_of_ble_eq_true rfl, Nat.le_of_ble_eq_true rfl⟩ hl.1 rfl rfl (Nat.le_of_ble_eq_true rfl) dX3_isToldSound_7 ⟨Nat.le_of_ble_eq_true rfl, Nat.le_of_ble_eq_true rfl⟩ (fun r7 hF => ?_)
      refine lv_icmp_ge (tgt := 45) hx hb dX3_isToldSound_10 (by decide) (fun cz => ?_) (fun cz => ?_)
      · have hF := hF.1 cz
        refine lv_iconst (v := 1) hx hb dX3_isToldSound_45 (by decide) ?_
        exact W.zret (v := 1) hx hb hr rfl (fun t ht hW => ⟨1, rfl, hF, ht⟩) (fun q hq => absurd hq List.not_mem_nil) dX3_isToldSound_46
      · have hF := hF.2 cz
        refine lv_aload_n hx hb dX3_isToldSound_13 rfl (lv_at hl 1 rfl) ?_
        refine va_get (D := (dC, dI)) (ci := 3) (v := .ref (h 19)) (C := RX3) (T := TX3) (N := 6) hx hb hts in_X3 hown hK.1 hP 16 rfl rfl 3 (by decide) (hts _ q144) (fun _ h9 => h9) rfl dX3_isToldSound_14 ?_
        refine lv_iload_n hx hb dX3_isToldSound_17 rfl (lv_at hl 0 rfl) ?_
        have hPc := hP.sub (ws' := wR (h 19) (h 20) cy 12 (σ.2.1 9) (σ.1 18)) [19, 20] rfl
        refine cpVi (q0 := 0) (As := [.int v1_2]) (rest := []) ⟨hx, hb, hr, hml, hown, hts, hlocks⟩ hK hPc rfl rfl (m_X1_at l dC dI (h 19) (h 20) cy 12 (σ.2.1 9) (σ.1 18) v1_2 _ hF) k_X1_at q227 ⟨rfl, rfl⟩ ⟨Nat.le_of_ble_eq_true rfl, Nat.le_of_ble_eq_true rfl⟩ hl.1 rfl rfl (Nat.le_of_ble_eq_true rfl) dX3_isToldSound_18 ⟨Nat.le_of_ble_eq_true rfl, Nat.le_of_ble_eq_true rfl⟩ (fun r18 hF => ?_)
        refine lv_istore_n (lv' := [(2, .int r18), (1, .int v1_2), (0, .ref (h 16))]) hx hb dX3_isToldSound_21 rfl hl (by decide) rfl (fun ls hl => ?_)
        refine lv_iload_n hx hb dX3_isToldSound_22 rfl (lv_at hl 0 rfl) ?_
        refine lv_if_lt (tgt := 37) hx hb dX3_isToldSound_23 (by decide) (fun cz => ?_) (fun cz => ?_)
        · have hF := hF.1 cz
          exact hX2 hF _ (lv_sub hl [] rfl)
        · have hF := hF.2 cz
          refine lv_iload_n hx hb dX3_isToldSound_26 rfl (lv_at hl 0 rfl) ?_
          refine lv_aload_n hx hb dX3_isToldSound_27 rfl (lv_at hl 2 rfl) ?_
          refine va_get (D := (dC, dI)) (ci := 3) (v := .ref (h 0)) (C := RX3) (T := TX3) (N := 6) hx hb hts in_X3 hown hK.1 hP 16 rfl rfl 0 (by decide) (hts _ q141) (fun _ h9 => h9) rfl dX3_isToldSound_28 ?_
          have hPc := hP.sub (ws' := wB h cy σ) [0, 1, 2, 3, 4, 5, 6, 7, 8, 9, 10, 11] rfl
          refine cpVi (q0 := 0) (As := []) (rest := [.int r18]) ⟨hx, hb, hr, hml, hown, hts, hlocks⟩ hK hPc rfl rfl (m_X0_holes l dC dI h cy σ  _ hF) k_X0_holes q350 ⟨rfl, rfl⟩ ⟨Nat.le_of_ble_eq_true rfl, Nat.le_of_ble_eq_true rfl⟩ hl.1 rfl rfl (Nat.le_of_ble_eq_true rfl) dX3_isToldSound_31 ⟨Nat.le_of_ble_eq_true rfl, Nat.le_of_ble_eq_true rfl⟩ (fun r31 hF => ?_)
          refine lv_icmp_lt (tgt := 39) hx hb dX3_isToldSound_34 (by decide) (fun cz => ?_) (fun cz => ?_)
          · have hF := hF.1 cz
            refine lv_iinc (v := v1_2 + 1) (lv' := [(1, .int (v1_2 + 1)), (2, .int r18), (0, .ref (h 16))]) hx hb dX3_isToldSound_39 hl (k := 1) rfl (by rfl) (by decide) rfl (fun ls hl => ?_)
            refine lv_goto (tgt := 2) hx hb dX3_isToldSound_42 (by decide) ?_
            exact ih (v1_2 + 1) hF _ (lv_sub hl [0, 2] rfl)
          · have hF := hF.2 cz
            exact hX2 hF _ (lv_sub hl [] rfl)
  exact hL2 _ hX2 fu 0 hF _ (lv_sub hl [0, 1] rfl)
theorem dX3_isSound_0 : decode cX3_isSound 0 = .ok (.aload_n 0, 1) := by decide +kernel
theorem dX3_isSound_1 : decode cX3_isSound 1 = .ok (.getfield 10, 3) := by decide +kernel
theorem dX3_isSound_4 : decode cX3_isSound 4 = .ok (.aload_n 0, 1) := by decide +kernel
theorem dX3_isSound_5 : decode cX3_isSound 5 = .ok (.getfield 83, 3) := by decide +kernel
theorem dX3_isSound_8 : decode cX3_isSound 8 = .ok (.invokevirtual 269, 3) := by decide +kernel
theorem dX3_isSound_11 : decode cX3_isSound 11 = .ok (.ifCond .eq 35, 3) := by decide +kernel
theorem dX3_isSound_14 : decode cX3_isSound 14 = .ok (.aload_n 0, 1) := by decide +kernel
theorem dX3_isSound_15 : decode cX3_isSound 15 = .ok (.getfield 10, 3) := by decide +kernel
theorem dX3_isSound_18 : decode cX3_isSound 18 = .ok (.aload_n 0, 1) := by decide +kernel
theorem dX3_isSound_19 : decode cX3_isSound 19 = .ok (.getfield 87, 3) := by decide +kernel
theorem dX3_isSound_22 : decode cX3_isSound 22 = .ok (.invokevirtual 269, 3) := by decide +kernel
theorem dX3_isSound_25 : decode cX3_isSound 25 = .ok (.ifCond .eq 21, 3) := by decide +kernel
theorem dX3_isSound_28 : decode cX3_isSound 28 = .ok (.aload_n 0, 1) := by decide +kernel
theorem dX3_isSound_29 : decode cX3_isSound 29 = .ok (.invokevirtual 272, 3) := by decide +kernel
theorem dX3_isSound_32 : decode cX3_isSound 32 = .ok (.ifCond .eq 14, 3) := by decide +kernel
theorem dX3_isSound_35 : decode cX3_isSound 35 = .ok (.aload_n 0, 1) := by decide +kernel
theorem dX3_isSound_36 : decode cX3_isSound 36 = .ok (.invokevirtual 276, 3) := by decide +kernel
theorem dX3_isSound_39 : decode cX3_isSound 39 = .ok (.ifCond .eq 7, 3) := by decide +kernel
theorem dX3_isSound_42 : decode cX3_isSound 42 = .ok (.iconst 1, 1) := by decide +kernel
theorem dX3_isSound_43 : decode cX3_isSound 43 = .ok (.goto 4, 3) := by decide +kernel
theorem dX3_isSound_46 : decode cX3_isSound 46 = .ok (.iconst 0, 1) := by decide +kernel
theorem dX3_isSound_47 : decode cX3_isSound 47 = .ok (.ireturn, 1) := by decide +kernel
def wp_X3_isSound (fu : Nat) (σ : SX) (P : Int32 → Prop) : Prop := (wp_X0_hasPegs σ (σ.1 15) (fun r8 => ((r8 = 0 → (P 0)) ∧ (¬ r8 = 0 → (wp_X0_hasPegs σ (σ.1 16) (fun r22 => ((r22 = 0 → (P 0)) ∧ (¬ r22 = 0 → (wp_X3_isToldSound fu σ  (fun r29 => ((r29 = 0 → (P 0)) ∧ (¬ r29 = 0 → (wp_X3_isMadeSound fu σ  (fun r36 => ((r36 = 0 → (P 0)) ∧ (¬ r36 = 0 → (P 1)))))))))))))))))
theorem k_X3_isSound : KV RX3 yX3_isSound cX3_isSound 1 (some .boolean) 0 := ⟨q365, q366, q1, q367, by decide +kernel⟩
set_option maxHeartbeats 4000000 in
set_option maxRecDepth 100000 in
theorem m_X3_isSound (l : Launch) (dC : Nat → ClassId) (dI : Nat → Nat → Nat) (h : Nat → Nat) (cy : Nat → ClassId) (fu : Nat) (σ : SX) (P : Int32 → Prop) (hF : wp_X3_isSound fu σ P) : Met l yX3_isSound (ws_ yX3_isSound cX3_isSound 1 (some .boolean)) ({ frames := 3, cells := 0, slots := 0, locals := 68 } : Room) (va_Pc [.ref (h 16)] (fun U => va_P (dC, dI) classes (wH h cy σ) U.heap ∧ kwX dC dI cy U)) (vp_Si P) 0 0 (fun _ => False) := by
  refine Met.ofCx (own := RX3) (by decide) rfl (Nat.le_of_ble_eq_true rfl) ?_
  intro p e s m below meth c hC hv ls hl
  obtain ⟨hx, hb, hr, hml, hown, hts, hlocks⟩ := hC
  have hl : lv_has ls 1 [(0, .ref (h 16))] := hl
  obtain ⟨hP, hK⟩ := hv
  unfold wp_X3_isSound at hF
  refine lv_aload_n hx hb dX3_isSound_0 rfl (lv_at hl 0 rfl) ?_
  refine va_get (D := (dC, dI)) (ci := 3) (v := .ref (h 0)) (C := RX3) (T := TX3) (N := 6) hx hb hts in_X3 hown hK.1 hP 16 rfl rfl 0 (by decide) (hts _ q141) (fun _ h9 => h9) rfl dX3_isSound_1 ?_
  refine lv_aload_n hx hb dX3_isSound_4 rfl (lv_at hl 0 rfl) ?_
  refine va_get (D := (dC, dI)) (ci := 3) (v := .int (σ.1 15)) (C := RX3) (T := TX3) (N := 6) hx hb hts in_X3 hown hK.1 hP 16 rfl rfl 4 (by decide) (hts _ q145) (fun _ h9 => h9) rfl dX3_isSound_5 ?_
  have hPc := hP.sub (ws' := wB h cy σ) [0, 1, 2, 3, 4, 5, 6, 7, 8, 9, 10, 11] rfl
  refine cpVi (q0 := 0) (As := [.int (σ.1 15)]) (rest := []) ⟨hx, hb, hr, hml, hown, hts, hlocks⟩ hK hPc rfl rfl (m_X0_hasPegs l dC dI h cy σ (σ.1 15) _ hF) k_X0_hasPegs q368 ⟨rfl, rfl⟩ ⟨Nat.le_of_ble_eq_true rfl, Nat.le_of_ble_eq_true rfl⟩ hl.1 rfl rfl (Nat.le_of_ble_eq_true rfl) dX3_isSound_8 ⟨Nat.le_of_ble_eq_true rfl, Nat.le_of_ble_eq_true rfl⟩ (fun r8 hF => ?_)
  refine lv_if_eq (tgt := 46) hx hb dX3_isSound_11 (by decide) (fun cz => ?_) (fun cz => ?_)
  · have hF := hF.1 cz
    refine lv_iconst (v := 0) hx hb dX3_isSound_46 (by decide) ?_
    exact W.zret (v := 0) hx hb hr rfl (fun t ht hW => ⟨0, rfl, hF, ht⟩) (fun q hq => absurd hq List.not_mem_nil) dX3_isSound_47
  · have hF := hF.2 cz
    refine lv_aload_n hx hb dX3_isSound_14 rfl (lv_at hl 0 rfl) ?_
    refine va_get (D := (dC, dI)) (ci := 3) (v := .ref (h 0)) (C := RX3) (T := TX3) (N := 6) hx hb hts in_X3 hown hK.1 hP 16 rfl rfl 0 (by decide) (hts _ q141) (fun _ h9 => h9) rfl dX3_isSound_15 ?_
    refine lv_aload_n hx hb dX3_isSound_18 rfl (lv_at hl 0 rfl) ?_
    refine va_get (D := (dC, dI)) (ci := 3) (v := .int (σ.1 16)) (C := RX3) (T := TX3) (N := 6) hx hb hts in_X3 hown hK.1 hP 16 rfl rfl 5 (by decide) (hts _ q146) (fun _ h9 => h9) rfl dX3_isSound_19 ?_
    have hPc := hP.sub (ws' := wB h cy σ) [0, 1, 2, 3, 4, 5, 6, 7, 8, 9, 10, 11] rfl
    refine cpVi (q0 := 0) (As := [.int (σ.1 16)]) (rest := []) ⟨hx, hb, hr, hml, hown, hts, hlocks⟩ hK hPc rfl rfl (m_X0_hasPegs l dC dI h cy σ (σ.1 16) _ hF) k_X0_hasPegs q368 ⟨rfl, rfl⟩ ⟨Nat.le_of_ble_eq_true rfl, Nat.le_of_ble_eq_true rfl⟩ hl.1 rfl rfl (Nat.le_of_ble_eq_true rfl) dX3_isSound_22 ⟨Nat.le_of_ble_eq_true rfl, Nat.le_of_ble_eq_true rfl⟩ (fun r22 hF => ?_)
    refine lv_if_eq (tgt := 46) hx hb dX3_isSound_25 (by decide) (fun cz => ?_) (fun cz => ?_)
    · have hF := hF.1 cz
      refine lv_iconst (v := 0) hx hb dX3_isSound_46 (by decide) ?_
      exact W.zret (v := 0) hx hb hr rfl (fun t ht hW => ⟨0, rfl, hF, ht⟩) (fun q hq => absurd hq List.not_mem_nil) dX3_isSound_47
    · have hF := hF.2 cz
      refine lv_aload_n hx hb dX3_isSound_28 rfl (lv_at hl 0 rfl) ?_
      refine cpVi (q0 := 16) (As := []) (rest := []) ⟨hx, hb, hr, hml, hown, hts, hlocks⟩ hK hP rfl rfl (m_X3_isToldSound l dC dI h cy fu σ  _ hF) k_X3_isToldSound q372 ⟨rfl, rfl⟩ ⟨Nat.le_of_ble_eq_true rfl, Nat.le_of_ble_eq_true rfl⟩ hl.1 rfl rfl (Nat.le_of_ble_eq_true rfl) dX3_isSound_29 ⟨Nat.le_of_ble_eq_true rfl, Nat.le_of_ble_eq_true rfl⟩ (fun r29 hF => ?_)
      refine lv_if_eq (tgt := 46) hx hb dX3_isSound_32 (by decide) (fun cz => ?_) (fun cz => ?_)
      · have hF := hF.1 cz
        refine lv_iconst (v := 0) hx hb dX3_isSound_46 (by decide) ?_
        exact W.zret (v := 0) hx hb hr rfl (fun t ht hW => ⟨0, rfl, hF, ht⟩) (fun q hq => absurd hq List.not_mem_nil) dX3_isSound_47
      · have hF := hF.2 cz
        refine lv_aload_n hx hb dX3_isSound_35 rfl (lv_at hl 0 rfl) ?_
        refine cpVi (q0 := 16) (As := []) (rest := []) ⟨hx, hb, hr, hml, hown, hts, hlocks⟩ hK hP rfl rfl (m_X3_isMadeSound l dC dI h cy fu σ  _ hF) k_X3_isMadeSound q376 ⟨rfl, rfl⟩ ⟨Nat.le_of_ble_eq_true rfl, Nat.le_of_ble_eq_true rfl⟩ hl.1 rfl rfl (Nat.le_of_ble_eq_true rfl) dX3_isSound_36 ⟨Nat.le_of_ble_eq_true rfl, Nat.le_of_ble_eq_true rfl⟩ (fun r36 hF => ?_)
        refine lv_if_eq (tgt := 46) hx hb dX3_isSound_39 (by decide) (fun cz => ?_) (fun cz => ?_)
        · have hF := hF.1 cz
          refine lv_iconst (v := 0) hx hb dX3_isSound_46 (by decide) ?_
          exact W.zret (v := 0) hx hb hr rfl (fun t ht hW => ⟨0, rfl, hF, ht⟩) (fun q hq => absurd hq List.not_mem_nil) dX3_isSound_47
        · have hF := hF.2 cz
          refine lv_iconst (v := 1) hx hb dX3_isSound_42 (by decide) ?_
          refine lv_goto (tgt := 47) hx hb dX3_isSound_43 (by decide) ?_
          exact W.zret (v := 1) hx hb hr rfl (fun t ht hW => ⟨1, rfl, hF, ht⟩) (fun q hq => absurd hq List.not_mem_nil) dX3_isSound_47
theorem dX3_makeJump_0 : decode cX3_makeJump 0 = .ok (.iload_n 3, 1) := by decide +kernel
theorem dX3_makeJump_1 : decode cX3_makeJump 1 = .ok (.iconst (-1), 1) := by decide +kernel
theorem dX3_makeJump_2 : decode cX3_makeJump 2 = .ok (.if_icmp .eq 21, 3) := by decide +kernel
theorem dX3_makeJump_5 : decode cX3_makeJump 5 = .ok (.aload_n 0, 1) := by decide +kernel
theorem dX3_makeJump_6 : decode cX3_makeJump 6 = .ok (.getfield 30, 3) := by decide +kernel
theorem dX3_makeJump_9 : decode cX3_makeJump 9 = .ok (.iload_n 1, 1) := by decide +kernel
theorem dX3_makeJump_10 : decode cX3_makeJump 10 = .ok (.bipush 100, 2) := by decide +kernel
theorem dX3_makeJump_12 : decode cX3_makeJump 12 = .ok (.imul, 1) := by decide +kernel
theorem dX3_makeJump_13 : decode cX3_makeJump 13 = .ok (.iload_n 2, 1) := by decide +kernel
theorem dX3_makeJump_14 : decode cX3_makeJump 14 = .ok (.iadd, 1) := by decide +kernel
theorem dX3_makeJump_15 : decode cX3_makeJump 15 = .ok (.invokevirtual 243, 3) := by decide +kernel
theorem dX3_makeJump_18 : decode cX3_makeJump 18 = .ok (.aload_n 0, 1) := by decide +kernel
theorem dX3_makeJump_19 : decode cX3_makeJump 19 = .ok (.iload_n 3, 1) := by decide +kernel
theorem dX3_makeJump_20 : decode cX3_makeJump 20 = .ok (.putfield 83, 3) := by decide +kernel
theorem dX3_makeJump_23 : decode cX3_makeJump 23 = .ok (.return_, 1) := by decide +kernel
def wp_X3_makeJump (σ : SX) (x1 : Int32) (x2 : Int32) (x3 : Int32) (P : SX → Prop) : Prop := ((x3 = (-1) → (P σ)) ∧ (¬ x3 = (-1) → (wp_X1_add 12 (σ.2.1 8) (σ.1 17) ((x1 * 100) + x2) (fun f15 n15 => (P (sI (sI (sA σ 8 f15) 17 n15) 15 x3))))))
theorem k_X3_makeJump : KV RX3 yX3_makeJump cX3_makeJump 4 none 3 := ⟨q674, qs19, q1, q675, by decide +kernel⟩
set_option maxHeartbeats 4000000 in
set_option maxRecDepth 100000 in
theorem m_X3_makeJump (l : Launch) (dC : Nat → ClassId) (dI : Nat → Nat → Nat) (h : Nat → Nat) (cy : Nat → ClassId) (sz : Nat) (σ : SX) (x1 : Int32) (x2 : Int32) (x3 : Int32) (P : SX → Prop) (hF : wp_X3_makeJump σ x1 x2 x3 P) : Met l yX3_makeJump (ws_ yX3_makeJump cX3_makeJump 4 none) ({ frames := 1, cells := 0, slots := 0, locals := 21 } : Room) (va_Pc [.ref (h 16), .int x1, .int x2, .int x3] (fun U => U.heap.size = sz ∧ va_P (dC, dI) classes (wH h cy σ) U.heap ∧ kwX dC dI cy U ∧ va_D (fun _ => True) (wH h cy σ))) (va_Qv (fun u => P u) (fun (u : SX) t => va_P (dC, dI) classes (wH h cy u) t.heap ∧ kwX dC dI cy t ∧ va_D (va_A (wH h cy σ) sz) (wH h cy u)) (va_A (wH h cy σ) sz)) 0 0 (va_A (wH h cy σ) sz) := by
  refine Met.ofCx (own := RX3) (by decide) rfl (Nat.le_of_ble_eq_true rfl) ?_
  intro p e s m below meth c hC hv ls hl
  obtain ⟨hx, hb, hr, hml, hown, hts, hlocks⟩ := hC
  have hl : lv_has ls 4 [(0, .ref (h 16)), (1, .int x1), (2, .int x2), (3, .int x3)] := hl
  obtain ⟨hsz, hP, hK, hD0⟩ := hv
  subst hsz
  have hD := hD0.self (sz := s.heap.size)
  generalize hAe : va_A (wH h cy σ) s.heap.size = A at hD ⊢
  have hA : ∀ q : Nat, s.heap.size ≤ q → A q := fun q h => by rw [← hAe]; exact Or.inr h
  have hS : va_S A s.heap s.heap [] := va_S.rf
  clear hAe
  unfold wp_X3_makeJump at hF
  refine lv_iload_n hx hb dX3_makeJump_0 rfl (lv_at hl 3 rfl) ?_
  refine lv_iconst (v := (-1)) hx hb dX3_makeJump_1 (by decide) ?_
  refine lv_icmp_eq (tgt := 23) hx hb dX3_makeJump_2 (by decide) (fun cz => ?_) (fun cz => ?_)
  · have hF := hF.1 cz
    exact W.vret hx hb hr (fun t ht hW => ⟨⟨σ, rfl, hF, by rw [ht]; exact hP, hK.warm hW, hD⟩, hS.F ht⟩) hS.2.2 dX3_makeJump_23
  · have hF := hF.2 cz
    refine lv_aload_n hx hb dX3_makeJump_5 rfl (lv_at hl 0 rfl) ?_
    refine va_get (D := (dC, dI)) (ci := 3) (v := .ref (h 17)) (C := RX3) (T := TX3) (N := 6) hx hb hts in_X3 hown hK.1 hP 16 rfl rfl 2 (by decide) (hts _ q143) (fun _ h9 => h9) rfl dX3_makeJump_6 ?_
    refine lv_iload_n hx hb dX3_makeJump_9 rfl (lv_at hl 1 rfl) ?_
    refine lv_bipush (v := 100) hx hb dX3_makeJump_10 (by decide) ?_
    refine lv_imul hx hb dX3_makeJump_12 ?_
    refine lv_iload_n hx hb dX3_makeJump_13 rfl (lv_at hl 2 rfl) ?_
    refine lv_iadd hx hb dX3_makeJump_14 ?_
    have hPc := hP.sub (ws' := wR (h 17) (h 18) cy 12 (σ.2.1 8) (σ.1 17)) [17, 18] rfl
    have hDc := hD.sub (ws' := wR (h 17) (h 18) cy 12 (σ.2.1 8) (σ.1 17)) [17, 18] (by decide) rfl
    have hFc := va_free (wc := wR (h 17) (h 18) cy 12 (σ.2.1 8) (σ.1 17)) hD hS hA [17, 18] rfl
    refine cwVv (q0 := 0) (As := [.int ((x1 * 100) + x2)]) (rest := []) ⟨hx, hb, hr, hml, hown, hts, hlocks⟩ hK hPc hDc rfl rfl hS hFc (m_X1_add l dC dI (h 17) (h 18) cy _ 12 (σ.2.1 8) (σ.1 17) ((x1 * 100) + x2) _ hF) k_X1_add q676 ⟨rfl, rfl⟩ ⟨Nat.le_of_ble_eq_true rfl, Nat.le_of_ble_eq_true rfl⟩ hl.1 rfl rfl (Nat.le_of_ble_eq_true rfl) dX3_makeJump_15 ⟨Nat.le_of_ble_eq_true rfl, Nat.le_of_ble_eq_true rfl⟩ (fun u H1 locs hF hP1 hD1 hk1 hS => ?_)
    obtain ⟨f15, n15⟩ := u
    obtain ⟨hP, hD⟩ := va_join (wr := [(h 0, .inr (0, [.int (σ.1 0), .int (σ.1 1), .ref (h 1), .ref (h 2), .ref (h 4), .ref (h 6), .ref (h 8), .ref (h 10)])), (h 1, .inl (cy 0, 25, .inl (σ.2.1 0))), (h 2, .inr (1, [.ref (h 3), .int (σ.1 2)])), (h 3, .inl (cy 0, 13, .inl (σ.2.1 1))), (h 4, .inr (1, [.ref (h 5), .int (σ.1 3)])), (h 5, .inl (cy 0, 104, .inl (σ.2.1 2))), (h 6, .inr (1, [.ref (h 7), .int (σ.1 4)])), (h 7, .inl (cy 0, 104, .inl (σ.2.1 3))), (h 8, .inr (1, [.ref (h 9), .int (σ.1 5)])), (h 9, .inl (cy 0, 104, .inl (σ.2.1 4))), (h 10, .inr (1, [.ref (h 11), .int (σ.1 6)])), (h 11, .inl (cy 0, 104, .inl (σ.2.1 5))), (h 12, .inr (2, [.ref (h 0), .ref (h 13), .ref (h 14), .ref (h 15), .int (σ.1 7), .int (σ.1 8), .int (σ.1 9), .int (σ.1 10), .int (σ.1 11), .int (σ.1 12), .int (σ.1 13), .int (σ.1 14)])), (h 13, .inl (cy 0, 8192, .inl (σ.2.1 6))), (h 14, .inl (cy 1, 8192, .inr (.inl (σ.2.2)))), (h 15, .inl (cy 0, 10240, .inl (σ.2.1 7))), (h 16, .inr (3, [.ref (h 0), .ref (h 12), .ref (h 17), .ref (h 19), .int (σ.1 15), .int (σ.1 16)])), (h 19, .inr (1, [.ref (h 20), .int (σ.1 18)])), (h 20, .inl (cy 0, 12, .inl (σ.2.1 9)))]) (w1 := wR (h 17) (h 18) cy 12 f15 n15) hP hD [17, 18] [0, 1, 2, 3, 4, 5, 6, 7, 8, 9, 10, 11, 12, 13, 14, 15, 16, 19, 20] rfl rfl (by decide) (by decide) hk1 hFc hP1 hD1
    have hP := hP.sub (ws' := wH h cy (sI (sA σ 8 f15) 17 n15)) [0, 1, 2, 3, 4, 5, 6, 7, 8, 9, 10, 11, 12, 13, 14, 15, 16, 19, 20, 17, 18] rfl
    have hD := hD.sub (ws' := wH h cy (sI (sA σ 8 f15) 17 n15)) [0, 1, 2, 3, 4, 5, 6, 7, 8, 9, 10, 11, 12, 13, 14, 15, 16, 19, 20, 17, 18] (by decide) rfl
    generalize H1 = H at hP hS ⊢
    have hP : va_P (dC, dI) classes (wH h cy (sI (sA σ 8 f15) 17 n15)) H := hP
    have hD : va_D A (wH h cy (sI (sA σ 8 f15) 17 n15)) := hD
    refine lv_aload_n hx hb dX3_makeJump_18 rfl (lv_at hl 0 rfl) ?_
    refine lv_iload_n hx hb dX3_makeJump_19 rfl (lv_at hl 3 rfl) ?_
    refine va_put (D := (dC, dI)) (ci := 3) (v := .int x3) (ty := .int) (C := RX3) (T := TX3) (N := 6) hx hb hts in_X3 tyX3 tyX3_ok nmX3 hown hK.1 hP hD hS 16 rfl rfl 4 (by decide) (hts _ q145) (fun _ h9 => h9) rfl (by decide +kernel) rfl rfl (Nat.le_of_ble_eq_true rfl) dX3_makeJump_20 (fun H locs hP hD hS => ?_)
    have hP : va_P (dC, dI) classes (wH h cy (sI (sI (sA σ 8 f15) 17 n15) 15 x3)) H := hP
    have hD : va_D A (wH h cy (sI (sI (sA σ 8 f15) 17 n15) 15 x3)) := hD
    exact W.vret hx hb hr (fun t ht hW => ⟨⟨sI (sI (sA σ 8 f15) 17 n15) 15 x3, rfl, hF, by rw [ht]; exact hP, hK.warm hW, hD⟩, hS.F ht⟩) hS.2.2 dX3_makeJump_23
theorem dX3_jumps_0 : decode cX3_jumps 0 = .ok (.aload_n 0, 1) := by decide +kernel
theorem dX3_jumps_1 : decode cX3_jumps 1 = .ok (.getfield 10, 3) := by decide +kernel
theorem dX3_jumps_4 : decode cX3_jumps 4 = .ok (.aload_n 0, 1) := by decide +kernel
theorem dX3_jumps_5 : decode cX3_jumps 5 = .ok (.getfield 83, 3) := by decide +kernel
theorem dX3_jumps_8 : decode cX3_jumps 8 = .ok (.invokevirtual 133, 3) := by decide +kernel
theorem dX3_jumps_11 : decode cX3_jumps 11 = .ok (.ireturn, 1) := by decide +kernel
def wp_X3_jumps (fu : Nat) (σ : SX) (P : Int32 → Prop) : Prop := (wp_X0_countJumps fu σ (σ.1 15) (fun r8 => (P r8)))
theorem k_X3_jumps : KV RX3 yX3_jumps cX3_jumps 1 (some .int) 0 := ⟨q207, q208, q1, q209, by decide +kernel⟩
set_option maxHeartbeats 4000000 in
set_option maxRecDepth 100000 in
theorem m_X3_jumps (l : Launch) (dC : Nat → ClassId) (dI : Nat → Nat → Nat) (h : Nat → Nat) (cy : Nat → ClassId) (fu : Nat) (σ : SX) (P : Int32 → Prop) (hF : wp_X3_jumps fu σ P) : Met l yX3_jumps (ws_ yX3_jumps cX3_jumps 1 (some .int)) ({ frames := 3, cells := 0, slots := 0, locals := 67 } : Room) (va_Pc [.ref (h 16)] (fun U => va_P (dC, dI) classes (wH h cy σ) U.heap ∧ kwX dC dI cy U)) (vp_Si P) 0 0 (fun _ => False) := by
  refine Met.ofCx (own := RX3) (by decide) rfl (Nat.le_of_ble_eq_true rfl) ?_
  intro p e s m below meth c hC hv ls hl
  obtain ⟨hx, hb, hr, hml, hown, hts, hlocks⟩ := hC
  have hl : lv_has ls 1 [(0, .ref (h 16))] := hl
  obtain ⟨hP, hK⟩ := hv
  unfold wp_X3_jumps at hF
  refine lv_aload_n hx hb dX3_jumps_0 rfl (lv_at hl 0 rfl) ?_
  refine va_get (D := (dC, dI)) (ci := 3) (v := .ref (h 0)) (C := RX3) (T := TX3) (N := 6) hx hb hts in_X3 hown hK.1 hP 16 rfl rfl 0 (by decide) (hts _ q141) (fun _ h9 => h9) rfl dX3_jumps_1 ?_
  refine lv_aload_n hx hb dX3_jumps_4 rfl (lv_at hl 0 rfl) ?_
  refine va_get (D := (dC, dI)) (ci := 3) (v := .int (σ.1 15)) (C := RX3) (T := TX3) (N := 6) hx hb hts in_X3 hown hK.1 hP 16 rfl rfl 4 (by decide) (hts _ q145) (fun _ h9 => h9) rfl dX3_jumps_5 ?_
  have hPc := hP.sub (ws' := wB h cy σ) [0, 1, 2, 3, 4, 5, 6, 7, 8, 9, 10, 11] rfl
  refine cpVi (q0 := 0) (As := [.int (σ.1 15)]) (rest := []) ⟨hx, hb, hr, hml, hown, hts, hlocks⟩ hK hPc rfl rfl (m_X0_countJumps l dC dI h cy fu σ (σ.1 15) _ hF) k_X0_countJumps q210 ⟨rfl, rfl⟩ ⟨Nat.le_of_ble_eq_true rfl, Nat.le_of_ble_eq_true rfl⟩ hl.1 rfl rfl (Nat.le_of_ble_eq_true rfl) dX3_jumps_8 ⟨Nat.le_of_ble_eq_true rfl, Nat.le_of_ble_eq_true rfl⟩ (fun r8 hF => ?_)
  exact W.iret (v := r8) hx hb hr (fun t ht hW => ⟨r8, rfl, hF, ht⟩) (fun q hq => absurd hq List.not_mem_nil) dX3_jumps_11
theorem dX3_lines_0 : decode cX3_lines 0 = .ok (.aload_n 0, 1) := by decide +kernel
theorem dX3_lines_1 : decode cX3_lines 1 = .ok (.getfield 10, 3) := by decide +kernel
theorem dX3_lines_4 : decode cX3_lines 4 = .ok (.invokevirtual 104, 3) := by decide +kernel
theorem dX3_lines_7 : decode cX3_lines 7 = .ok (.ireturn, 1) := by decide +kernel
def wp_X3_lines (σ : SX) (P : Int32 → Prop) : Prop := (wp_X0_lineCount σ  (fun r4 => (P r4)))
theorem k_X3_lines : KV RX3 yX3_lines cX3_lines 1 (some .int) 0 := ⟨q161, q162, q1, q163, by decide +kernel⟩
set_option maxHeartbeats 4000000 in
set_option maxRecDepth 100000 in
theorem m_X3_lines (l : Launch) (dC : Nat → ClassId) (dI : Nat → Nat → Nat) (h : Nat → Nat) (cy : Nat → ClassId) (σ : SX) (P : Int32 → Prop) (hF : wp_X3_lines σ P) : Met l yX3_lines (ws_ yX3_lines cX3_lines 1 (some .int)) ({ frames := 2, cells := 0, slots := 0, locals := 40 } : Room) (va_Pc [.ref (h 16)] (fun U => va_P (dC, dI) classes (wH h cy σ) U.heap ∧ kwX dC dI cy U)) (vp_Si P) 0 0 (fun _ => False) := by
  refine Met.ofCx (own := RX3) (by decide) rfl (Nat.le_of_ble_eq_true rfl) ?_
  intro p e s m below meth c hC hv ls hl
  obtain ⟨hx, hb, hr, hml, hown, hts, hlocks⟩ := hC
  have hl : lv_has ls 1 [(0, .ref (h 16))] := hl
  obtain ⟨hP, hK⟩ := hv
  unfold wp_X3_lines at hF
  refine lv_aload_n hx hb dX3_lines_0 rfl (lv_at hl 0 rfl) ?_
  refine va_get (D := (dC, dI)) (ci := 3) (v := .ref (h 0)) (C := RX3) (T := TX3) (N := 6) hx hb hts in_X3 hown hK.1 hP 16 rfl rfl 0 (by decide) (hts _ q141) (fun _ h9 => h9) rfl dX3_lines_1 ?_
  have hPc := hP.sub (ws' := wB h cy σ) [0, 1, 2, 3, 4, 5, 6, 7, 8, 9, 10, 11] rfl
  refine cpVi (q0 := 0) (As := []) (rest := []) ⟨hx, hb, hr, hml, hown, hts, hlocks⟩ hK hPc rfl rfl (m_X0_lineCount l dC dI h cy σ  _ hF) k_X0_lineCount q164 ⟨rfl, rfl⟩ ⟨Nat.le_of_ble_eq_true rfl, Nat.le_of_ble_eq_true rfl⟩ hl.1 rfl rfl (Nat.le_of_ble_eq_true rfl) dX3_lines_4 ⟨Nat.le_of_ble_eq_true rfl, Nat.le_of_ble_eq_true rfl⟩ (fun r4 hF => ?_)
  exact W.iret (v := r4) hx hb hr (fun t ht hW => ⟨r4, rfl, hF, ht⟩) (fun q hq => absurd hq List.not_mem_nil) dX3_lines_7
theorem dX3_made_0 : decode cX3_made 0 = .ok (.aload_n 0, 1) := by decide +kernel
theorem dX3_made_1 : decode cX3_made 1 = .ok (.getfield 30, 3) := by decide +kernel
theorem dX3_made_4 : decode cX3_made 4 = .ok (.invokevirtual 144, 3) := by decide +kernel
theorem dX3_made_7 : decode cX3_made 7 = .ok (.ireturn, 1) := by decide +kernel
def wp_X3_made (σ : SX) (P : Int32 → Prop) : Prop := (wp_X1_size 12 (σ.2.1 8) (σ.1 17)  (fun r4 => (P r4)))
theorem k_X3_made : KV RX3 yX3_made cX3_made 1 (some .int) 0 := ⟨q219, q220, q1, q221, by decide +kernel⟩
set_option maxHeartbeats 4000000 in
set_option maxRecDepth 100000 in
theorem m_X3_made (l : Launch) (dC : Nat → ClassId) (dI : Nat → Nat → Nat) (h : Nat → Nat) (cy : Nat → ClassId) (σ : SX) (P : Int32 → Prop) (hF : wp_X3_made σ P) : Met l yX3_made (ws_ yX3_made cX3_made 1 (some .int)) ({ frames := 1, cells := 0, slots := 0, locals := 20 } : Room) (va_Pc [.ref (h 16)] (fun U => va_P (dC, dI) classes (wH h cy σ) U.heap ∧ kwX dC dI cy U)) (vp_Si P) 0 0 (fun _ => False) := by
  refine Met.ofCx (own := RX3) (by decide) rfl (Nat.le_of_ble_eq_true rfl) ?_
  intro p e s m below meth c hC hv ls hl
  obtain ⟨hx, hb, hr, hml, hown, hts, hlocks⟩ := hC
  have hl : lv_has ls 1 [(0, .ref (h 16))] := hl
  obtain ⟨hP, hK⟩ := hv
  unfold wp_X3_made at hF
  refine lv_aload_n hx hb dX3_made_0 rfl (lv_at hl 0 rfl) ?_
  refine va_get (D := (dC, dI)) (ci := 3) (v := .ref (h 17)) (C := RX3) (T := TX3) (N := 6) hx hb hts in_X3 hown hK.1 hP 16 rfl rfl 2 (by decide) (hts _ q143) (fun _ h9 => h9) rfl dX3_made_1 ?_
  have hPc := hP.sub (ws' := wR (h 17) (h 18) cy 12 (σ.2.1 8) (σ.1 17)) [17, 18] rfl
  refine cpVi (q0 := 0) (As := []) (rest := []) ⟨hx, hb, hr, hml, hown, hts, hlocks⟩ hK hPc rfl rfl (m_X1_size l dC dI (h 17) (h 18) cy 12 (σ.2.1 8) (σ.1 17)  _ hF) k_X1_size q222 ⟨rfl, rfl⟩ ⟨Nat.le_of_ble_eq_true rfl, Nat.le_of_ble_eq_true rfl⟩ hl.1 rfl rfl (Nat.le_of_ble_eq_true rfl) dX3_made_4 ⟨Nat.le_of_ble_eq_true rfl, Nat.le_of_ble_eq_true rfl⟩ (fun r4 hF => ?_)
  exact W.iret (v := r4) hx hb hr (fun t ht hW => ⟨r4, rfl, hF, ht⟩) (fun q hq => absurd hq List.not_mem_nil) dX3_made_7
theorem dX3_meanJumps_0 : decode cX3_meanJumps 0 = .ok (.aload_n 0, 1) := by decide +kernel
theorem dX3_meanJumps_1 : decode cX3_meanJumps 1 = .ok (.getfield 21, 3) := by decide +kernel
theorem dX3_meanJumps_4 : decode cX3_meanJumps 4 = .ok (.aload_n 0, 1) := by decide +kernel
theorem dX3_meanJumps_5 : decode cX3_meanJumps 5 = .ok (.getfield 83, 3) := by decide +kernel
theorem dX3_meanJumps_8 : decode cX3_meanJumps 8 = .ok (.invokevirtual 169, 3) := by decide +kernel
theorem dX3_meanJumps_11 : decode cX3_meanJumps 11 = .ok (.aload_n 0, 1) := by decide +kernel
theorem dX3_meanJumps_12 : decode cX3_meanJumps 12 = .ok (.getfield 21, 3) := by decide +kernel
theorem dX3_meanJumps_15 : decode cX3_meanJumps 15 = .ok (.getfield 187, 3) := by decide +kernel
theorem dX3_meanJumps_18 : decode cX3_meanJumps 18 = .ok (.ifCond .ne 7, 3) := by decide +kernel
theorem dX3_meanJumps_21 : decode cX3_meanJumps 21 = .ok (.dconst 0, 1) := by decide +kernel
theorem dX3_meanJumps_22 : decode cX3_meanJumps 22 = .ok (.goto 20, 3) := by decide +kernel
theorem dX3_meanJumps_25 : decode cX3_meanJumps 25 = .ok (.aload_n 0, 1) := by decide +kernel
theorem dX3_meanJumps_26 : decode cX3_meanJumps 26 = .ok (.getfield 21, 3) := by decide +kernel
theorem dX3_meanJumps_29 : decode cX3_meanJumps 29 = .ok (.getfield 266, 3) := by decide +kernel
theorem dX3_meanJumps_32 : decode cX3_meanJumps 32 = .ok (.i2d, 1) := by decide +kernel
theorem dX3_meanJumps_33 : decode cX3_meanJumps 33 = .ok (.aload_n 0, 1) := by decide +kernel
theorem dX3_meanJumps_34 : decode cX3_meanJumps 34 = .ok (.getfield 21, 3) := by decide +kernel
theorem dX3_meanJumps_37 : decode cX3_meanJumps 37 = .ok (.getfield 187, 3) := by decide +kernel
theorem dX3_meanJumps_40 : decode cX3_meanJumps 40 = .ok (.i2d, 1) := by decide +kernel
theorem dX3_meanJumps_41 : decode cX3_meanJumps 41 = .ok (.ddiv, 1) := by decide +kernel
theorem dX3_meanJumps_42 : decode cX3_meanJumps 42 = .ok (.dreturn, 1) := by decide +kernel
def wp_X3_meanJumps (fu : Nat) (σ : SX) (P : UInt64 → SX → Prop) : Prop := (wp_X2_begin fu σ (σ.1 15) (fun s8 => ((¬ (s8.1 7) = 0 → (vf_n64 (FP.ddiv (FP.i2d (s8.1 12)) (FP.i2d (s8.1 7))) ∧ (P (FP.ddiv (FP.i2d (s8.1 12)) (FP.i2d (s8.1 7))) (mgX2 σ s8)))) ∧ ((s8.1 7) = 0 → (P FP.dconst0 (mgX2 σ s8))))))
theorem k_X3_meanJumps : KV RX3 yX3_meanJumps cX3_meanJumps 1 (some .double) 0 := ⟨q361, q362, q1, q363, by decide +kernel⟩
set_option maxHeartbeats 4000000 in
set_option maxRecDepth 100000 in
theorem m_X3_meanJumps (l : Launch) (dC : Nat → ClassId) (dI : Nat → Nat → Nat) (h : Nat → Nat) (cy : Nat → ClassId) (sz : Nat) (fu : Nat) (σ : SX) (P : UInt64 → SX → Prop) (hF : wp_X3_meanJumps fu σ P) : Met l yX3_meanJumps (ws_ yX3_meanJumps cX3_meanJumps 1 (some .double)) ({ frames := 4, cells := 0, slots := 0, locals := 90 } : Room) (va_Pc [.ref (h 16)] (fun U => U.heap.size = sz ∧ va_P (dC, dI) classes (wH h cy σ) U.heap ∧ kwX dC dI cy U ∧ va_D (fun _ => True) (wH h cy σ))) (va_Qd (fun r u => P r u) (fun (u : SX) t => va_P (dC, dI) classes (wH h cy u) t.heap ∧ kwX dC dI cy t ∧ va_D (va_A (wH h cy σ) sz) (wH h cy u)) (va_A (wH h cy σ) sz)) 0 0 (va_A (wH h cy σ) sz) := by
  refine Met.ofCx (own := RX3) (by decide) rfl (Nat.le_of_ble_eq_true rfl) ?_
  intro p e s m below meth c hC hv ls hl
  obtain ⟨hx, hb, hr, hml, hown, hts, hlocks⟩ := hC
  have hl : lv_has ls 1 [(0, .ref (h 16))] := hl
  obtain ⟨hsz, hP, hK, hD0⟩ := hv
  subst hsz
  have hD := hD0.self (sz := s.heap.size)
  generalize hAe : va_A (wH h cy σ) s.heap.size = A at hD ⊢
  have hA : ∀ q : Nat, s.heap.size ≤ q → A q := fun q h => by rw [← hAe]; exact Or.inr h
  have hS : va_S A s.heap s.heap [] := va_S.rf
  clear hAe
  unfold wp_X3_meanJumps at hF
  refine lv_aload_n hx hb dX3_meanJumps_0 rfl (lv_at hl 0 rfl) ?_
  refine va_get (D := (dC, dI)) (ci := 3) (v := .ref (h 12)) (C := RX3) (T := TX3) (N := 6) hx hb hts in_X3 hown hK.1 hP 16 rfl rfl 1 (by decide) (hts _ q142) (fun _ h9 => h9) rfl dX3_meanJumps_1 ?_
  refine lv_aload_n hx hb dX3_meanJumps_4 rfl (lv_at hl 0 rfl) ?_
  refine va_get (D := (dC, dI)) (ci := 3) (v := .int (σ.1 15)) (C := RX3) (T := TX3) (N := 6) hx hb hts in_X3 hown hK.1 hP 16 rfl rfl 4 (by decide) (hts _ q145) (fun _ h9 => h9) rfl dX3_meanJumps_5 ?_
  have hPc := hP.sub (ws' := wW h cy σ) [0, 1, 2, 3, 4, 5, 6, 7, 8, 9, 10, 11, 12, 13, 14, 15] rfl
  have hDc := hD.sub (ws' := wW h cy σ) [0, 1, 2, 3, 4, 5, 6, 7, 8, 9, 10, 11, 12, 13, 14, 15] (by decide) rfl
  have hFc := va_free (wc := wW h cy σ) hD hS hA [0, 1, 2, 3, 4, 5, 6, 7, 8, 9, 10, 11, 12, 13, 14, 15] rfl
  refine cwVv (q0 := 12) (As := [.int (σ.1 15)]) (rest := []) ⟨hx, hb, hr, hml, hown, hts, hlocks⟩ hK hPc hDc rfl rfl hS hFc (m_X2_begin l dC dI h cy _ fu σ (σ.1 15) _ hF) k_X2_begin q232 ⟨rfl, rfl⟩ ⟨Nat.le_of_ble_eq_true rfl, Nat.le_of_ble_eq_true rfl⟩ hl.1 rfl rfl (Nat.le_of_ble_eq_true rfl) dX3_meanJumps_8 ⟨Nat.le_of_ble_eq_true rfl, Nat.le_of_ble_eq_true rfl⟩ (fun u H1 locs hF hP1 hD1 hk1 hS => ?_)
  obtain ⟨s8, rfl⟩ : ∃ z, z = u := ⟨_, rfl⟩
  obtain ⟨hP, hD⟩ := va_join (wr := [(h 16, .inr (3, [.ref (h 0), .ref (h 12), .ref (h 17), .ref (h 19), .int (σ.1 15), .int (σ.1 16)])), (h 17, .inr (1, [.ref (h 18), .int (σ.1 17)])), (h 18, .inl (cy 0, 12, .inl (σ.2.1 8))), (h 19, .inr (1, [.ref (h 20), .int (σ.1 18)])), (h 20, .inl (cy 0, 12, .inl (σ.2.1 9)))]) (w1 := wW h cy s8) hP hD [0, 1, 2, 3, 4, 5, 6, 7, 8, 9, 10, 11, 12, 13, 14, 15] [16, 17, 18, 19, 20] rfl rfl (by decide) (by decide) hk1 hFc hP1 hD1
  have hP := hP.sub (ws' := wH h cy (mgX2 σ s8)) [5, 6, 7, 8, 9, 10, 11, 12, 13, 14, 15, 16, 17, 18, 19, 20, 0, 1, 2, 3, 4] rfl
  have hD := hD.sub (ws' := wH h cy (mgX2 σ s8)) [5, 6, 7, 8, 9, 10, 11, 12, 13, 14, 15, 16, 17, 18, 19, 20, 0, 1, 2, 3, 4] (by decide) rfl
  generalize H1 = H at hP hS ⊢
  have hP : va_P (dC, dI) classes (wH h cy (mgX2 σ s8)) H := hP
  have hD : va_D A (wH h cy (mgX2 σ s8)) := hD
  refine lv_aload_n hx hb dX3_meanJumps_11 rfl (lv_at hl 0 rfl) ?_
  refine va_get (D := (dC, dI)) (ci := 3) (v := .ref (h 12)) (C := RX3) (T := TX3) (N := 6) hx hb hts in_X3 hown hK.1 hP 16 rfl rfl 1 (by decide) (hts _ q142) (fun _ h9 => h9) rfl dX3_meanJumps_12 ?_
  refine va_getN (D := (dC, dI)) (ci := 2) (v := .int (s8.1 7)) (C := RX2) (T := TX2) (N := 12) hx hb hts in_X2 hown hK.1 hP 12 rfl rfl 4 (by decide) (va_Nw.use rfl hK.2.2.2.1) (fun _ h9 => h9) rfl dX3_meanJumps_15 ?_
  refine lv_if_ne (tgt := 25) hx hb dX3_meanJumps_18 (by decide) (fun cz => ?_) (fun cz => ?_)
  · have hF := hF.1 cz
    refine lv_aload_n hx hb dX3_meanJumps_25 rfl (lv_at hl 0 rfl) ?_
    refine va_get (D := (dC, dI)) (ci := 3) (v := .ref (h 12)) (C := RX3) (T := TX3) (N := 6) hx hb hts in_X3 hown hK.1 hP 16 rfl rfl 1 (by decide) (hts _ q142) (fun _ h9 => h9) rfl dX3_meanJumps_26 ?_
    refine va_getN (D := (dC, dI)) (ci := 2) (v := .int (s8.1 12)) (C := RX2) (T := TX2) (N := 12) hx hb hts in_X2 hown hK.1 hP 12 rfl rfl 9 (by decide) (va_Nw.use rfl hK.2.2.2.2.2.2.2.1) (fun _ h9 => h9) rfl dX3_meanJumps_29 ?_
    refine lv_i2d hx hb dX3_meanJumps_32 ?_
    refine lv_aload_n hx hb dX3_meanJumps_33 rfl (lv_at hl 0 rfl) ?_
    refine va_get (D := (dC, dI)) (ci := 3) (v := .ref (h 12)) (C := RX3) (T := TX3) (N := 6) hx hb hts in_X3 hown hK.1 hP 16 rfl rfl 1 (by decide) (hts _ q142) (fun _ h9 => h9) rfl dX3_meanJumps_34 ?_
    refine va_getN (D := (dC, dI)) (ci := 2) (v := .int (s8.1 7)) (C := RX2) (T := TX2) (N := 12) hx hb hts in_X2 hown hK.1 hP 12 rfl rfl 4 (by decide) (va_Nw.use rfl hK.2.2.2.1) (fun _ h9 => h9) rfl dX3_meanJumps_37 ?_
    refine lv_i2d hx hb dX3_meanJumps_40 ?_
    have hO := hF.1
    have hF := hF.2
    refine lv_ddiv hx hb dX3_meanJumps_41 hO ?_
    exact W.dret (v := FP.ddiv (FP.i2d (s8.1 12)) (FP.i2d (s8.1 7))) hx hb hr (fun t ht hW => ⟨⟨FP.ddiv (FP.i2d (s8.1 12)) (FP.i2d (s8.1 7)), mgX2 σ s8, rfl, hF, by rw [ht]; exact hP, hK.warm hW, hD⟩, hS.F ht⟩) hS.2.2 dX3_meanJumps_42
  · have hF := hF.2 cz
    refine lv_dconst0 hx hb dX3_meanJumps_21 ?_
    refine lv_goto (tgt := 42) hx hb dX3_meanJumps_22 (by decide) ?_
    exact W.dret (v := FP.dconst0) hx hb hr (fun t ht hW => ⟨⟨FP.dconst0, mgX2 σ s8, rfl, hF, by rw [ht]; exact hP, hK.warm hW, hD⟩, hS.F ht⟩) hS.2.2 dX3_meanJumps_42
theorem dX3_now_0 : decode cX3_now 0 = .ok (.aload_n 0, 1) := by decide +kernel
theorem dX3_now_1 : decode cX3_now 1 = .ok (.getfield 83, 3) := by decide +kernel
theorem dX3_now_4 : decode cX3_now 4 = .ok (.ireturn, 1) := by decide +kernel
def wp_X3_now (σ : SX) (P : Int32 → Prop) : Prop := (P (σ.1 15))
theorem k_X3_now : KV RX3 yX3_now cX3_now 1 (some .int) 0 := ⟨q203, q204, q1, q205, by decide +kernel⟩
set_option maxHeartbeats 4000000 in
set_option maxRecDepth 100000 in
theorem m_X3_now (l : Launch) (dC : Nat → ClassId) (dI : Nat → Nat → Nat) (h : Nat → Nat) (cy : Nat → ClassId) (σ : SX) (P : Int32 → Prop) (hF : wp_X3_now σ P) : Met l yX3_now (ws_ yX3_now cX3_now 1 (some .int)) ({ frames := 0, cells := 0, slots := 0, locals := 0 } : Room) (va_Pc [.ref (h 16)] (fun U => va_P (dC, dI) classes (wH h cy σ) U.heap ∧ kwX dC dI cy U)) (vp_Si P) 0 0 (fun _ => False) := by
  refine Met.ofCx (own := RX3) (by decide) rfl (Nat.le_of_ble_eq_true rfl) ?_
  intro p e s m below meth c hC hv ls hl
  obtain ⟨hx, hb, hr, hml, hown, hts, hlocks⟩ := hC
  have hl : lv_has ls 1 [(0, .ref (h 16))] := hl
  obtain ⟨hP, hK⟩ := hv
  unfold wp_X3_now at hF
  refine lv_aload_n hx hb dX3_now_0 rfl (lv_at hl 0 rfl) ?_
  refine va_get (D := (dC, dI)) (ci := 3) (v := .int (σ.1 15)) (C := RX3) (T := TX3) (N := 6) hx hb hts in_X3 hown hK.1 hP 16 rfl rfl 4 (by decide) (hts _ q145) (fun _ h9 => h9) rfl dX3_now_1 ?_
  exact W.iret (v := σ.1 15) hx hb hr (fun t ht hW => ⟨σ.1 15, rfl, hF, ht⟩) (fun q hq => absurd hq List.not_mem_nil) dX3_now_4
theorem dX3_reached_0 : decode cX3_reached 0 = .ok (.aload_n 0, 1) := by decide +kernel
theorem dX3_reached_1 : decode cX3_reached 1 = .ok (.getfield 21, 3) := by decide +kernel
theorem dX3_reached_4 : decode cX3_reached 4 = .ok (.aload_n 0, 1) := by decide +kernel
theorem dX3_reached_5 : decode cX3_reached 5 = .ok (.getfield 83, 3) := by decide +kernel
theorem dX3_reached_8 : decode cX3_reached 8 = .ok (.invokevirtual 169, 3) := by decide +kernel
theorem dX3_reached_11 : decode cX3_reached 11 = .ok (.aload_n 0, 1) := by decide +kernel
theorem dX3_reached_12 : decode cX3_reached 12 = .ok (.getfield 21, 3) := by decide +kernel
theorem dX3_reached_15 : decode cX3_reached 15 = .ok (.getfield 187, 3) := by decide +kernel
theorem dX3_reached_18 : decode cX3_reached 18 = .ok (.ireturn, 1) := by decide +kernel
def wp_X3_reached (fu : Nat) (σ : SX) (P : Int32 → SX → Prop) : Prop := (wp_X2_begin fu σ (σ.1 15) (fun s8 => (P (s8.1 7) (mgX2 σ s8))))
theorem k_X3_reached : KV RX3 yX3_reached cX3_reached 1 (some .int) 0 := ⟨q269, q270, q1, q271, by decide +kernel⟩
set_option maxHeartbeats 4000000 in
set_option maxRecDepth 100000 in
theorem m_X3_reached (l : Launch) (dC : Nat → ClassId) (dI : Nat → Nat → Nat) (h : Nat → Nat) (cy : Nat → ClassId) (sz : Nat) (fu : Nat) (σ : SX) (P : Int32 → SX → Prop) (hF : wp_X3_reached fu σ P) : Met l yX3_reached (ws_ yX3_reached cX3_reached 1 (some .int)) ({ frames := 4, cells := 0, slots := 0, locals := 90 } : Room) (va_Pc [.ref (h 16)] (fun U => U.heap.size = sz ∧ va_P (dC, dI) classes (wH h cy σ) U.heap ∧ kwX dC dI cy U ∧ va_D (fun _ => True) (wH h cy σ))) (va_Qi (fun r u => P r u) (fun (u : SX) t => va_P (dC, dI) classes (wH h cy u) t.heap ∧ kwX dC dI cy t ∧ va_D (va_A (wH h cy σ) sz) (wH h cy u)) (va_A (wH h cy σ) sz)) 0 0 (va_A (wH h cy σ) sz) := by
  refine Met.ofCx (own := RX3) (by decide) rfl (Nat.le_of_ble_eq_true rfl) ?_
  intro p e s m below meth c hC hv ls hl
  obtain ⟨hx, hb, hr, hml, hown, hts, hlocks⟩ := hC
  have hl : lv_has ls 1 [(0, .ref (h 16))] := hl
  obtain ⟨hsz, hP, hK, hD0⟩ := hv
  subst hsz
  have hD := hD0.self (sz := s.heap.size)
  generalize hAe : va_A (wH h cy σ) s.heap.size = A at hD ⊢
  have hA : ∀ q : Nat, s.heap.size ≤ q → A q := fun q h => by rw [← hAe]; exact Or.inr h
  have hS : va_S A s.heap s.heap [] := va_S.rf
  clear hAe
  unfold wp_X3_reached at hF
  refine lv_aload_n hx hb dX3_reached_0 rfl (lv_at hl 0 rfl) ?_
  refine va_get (D := (dC, dI)) (ci := 3) (v := .ref (h 12)) (C := RX3) (T := TX3) (N := 6) hx hb hts in_X3 hown hK.1 hP 16 rfl rfl 1 (by decide) (hts _ q142) (fun _ h9 => h9) rfl dX3_reached_1 ?_
  refine lv_aload_n hx hb dX3_reached_4 rfl (lv_at hl 0 rfl) ?_
  refine va_get (D := (dC, dI)) (ci := 3) (v := .int (σ.1 15)) (C := RX3) (T := TX3) (N := 6) hx hb hts in_X3 hown hK.1 hP 16 rfl rfl 4 (by decide) (hts _ q145) (fun _ h9 => h9) rfl dX3_reached_5 ?_
  have hPc := hP.sub (ws' := wW h cy σ) [0, 1, 2, 3, 4, 5, 6, 7, 8, 9, 10, 11, 12, 13, 14, 15] rfl
  have hDc := hD.sub (ws' := wW h cy σ) [0, 1, 2, 3, 4, 5, 6, 7, 8, 9, 10, 11, 12, 13, 14, 15] (by decide) rfl
  have hFc := va_free (wc := wW h cy σ) hD hS hA [0, 1, 2, 3, 4, 5, 6, 7, 8, 9, 10, 11, 12, 13, 14, 15] rfl
  refine cwVv (q0 := 12) (As := [.int (σ.1 15)]) (rest := []) ⟨hx, hb, hr, hml, hown, hts, hlocks⟩ hK hPc hDc rfl rfl hS hFc (m_X2_begin l dC dI h cy _ fu σ (σ.1 15) _ hF) k_X2_begin q232 ⟨rfl, rfl⟩ ⟨Nat.le_of_ble_eq_true rfl, Nat.le_of_ble_eq_true rfl⟩ hl.1 rfl rfl (Nat.le_of_ble_eq_true rfl) dX3_reached_8 ⟨Nat.le_of_ble_eq_true rfl, Nat.le_of_ble_eq_true rfl⟩ (fun u H1 locs hF hP1 hD1 hk1 hS => ?_)
  obtain ⟨s8, rfl⟩ : ∃ z, z = u := ⟨_, rfl⟩
  obtain ⟨hP, hD⟩ := va_join (wr := [(h 16, .inr (3, [.ref (h 0), .ref (h 12), .ref (h 17), .ref (h 19), .int (σ.1 15), .int (σ.1 16)])), (h 17, .inr (1, [.ref (h 18), .int (σ.1 17)])), (h 18, .inl (cy 0, 12, .inl (σ.2.1 8))), (h 19, .inr (1, [.ref (h 20), .int (σ.1 18)])), (h 20, .inl (cy 0, 12, .inl (σ.2.1 9)))]) (w1 := wW h cy s8) hP hD [0, 1, 2, 3, 4, 5, 6, 7, 8, 9, 10, 11, 12, 13, 14, 15] [16, 17, 18, 19, 20] rfl rfl (by decide) (by decide) hk1 hFc hP1 hD1
  have hP := hP.sub (ws' := wH h cy (mgX2 σ s8)) [5, 6, 7, 8, 9, 10, 11, 12, 13, 14, 15, 16, 17, 18, 19, 20, 0, 1, 2, 3, 4] rfl
  have hD := hD.sub (ws' := wH h cy (mgX2 σ s8)) [5, 6, 7, 8, 9, 10, 11, 12, 13, 14, 15, 16, 17, 18, 19, 20, 0, 1, 2, 3, 4] (by decide) rfl
  generalize H1 = H at hP hS ⊢
  have hP : va_P (dC, dI) classes (wH h cy (mgX2 σ s8)) H := hP
  have hD : va_D A (wH h cy (mgX2 σ s8)) := hD
  refine lv_aload_n hx hb dX3_reached_11 rfl (lv_at hl 0 rfl) ?_
  refine va_get (D := (dC, dI)) (ci := 3) (v := .ref (h 12)) (C := RX3) (T := TX3) (N := 6) hx hb hts in_X3 hown hK.1 hP 16 rfl rfl 1 (by decide) (hts _ q142) (fun _ h9 => h9) rfl dX3_reached_12 ?_
  refine va_getN (D := (dC, dI)) (ci := 2) (v := .int (s8.1 7)) (C := RX2) (T := TX2) (N := 12) hx hb hts in_X2 hown hK.1 hP 12 rfl rfl 4 (by decide) (va_Nw.use rfl hK.2.2.2.1) (fun _ h9 => h9) rfl dX3_reached_15 ?_
  exact W.iret (v := s8.1 7) hx hb hr (fun t ht hW => ⟨⟨s8.1 7, mgX2 σ s8, rfl, hF, by rw [ht]; exact hP, hK.warm hW, hD⟩, hS.F ht⟩) hS.2.2 dX3_reached_18
theorem dX3_sweeps_0 : decode cX3_sweeps 0 = .ok (.iconst 0, 1) := by decide +kernel
theorem dX3_sweeps_1 : decode cX3_sweeps 1 = .ok (.istore_n 1, 1) := by decide +kernel
theorem dX3_sweeps_2 : decode cX3_sweeps 2 = .ok (.iconst (-1), 1) := by decide +kernel
theorem dX3_sweeps_3 : decode cX3_sweeps 3 = .ok (.istore_n 2, 1) := by decide +kernel
theorem dX3_sweeps_4 : decode cX3_sweeps 4 = .ok (.iconst 0, 1) := by decide +kernel
theorem dX3_sweeps_5 : decode cX3_sweeps 5 = .ok (.istore_n 3, 1) := by decide +kernel
theorem dX3_sweeps_6 : decode cX3_sweeps 6 = .ok (.iload_n 3, 1) := by decide +kernel
theorem dX3_sweeps_7 : decode cX3_sweeps 7 = .ok (.aload_n 0, 1) := by decide +kernel
theorem dX3_sweeps_8 : decode cX3_sweeps 8 = .ok (.getfield 30, 3) := by decide +kernel
theorem dX3_sweeps_11 : decode cX3_sweeps 11 = .ok (.invokevirtual 144, 3) := by decide +kernel
theorem dX3_sweeps_14 : decode cX3_sweeps 14 = .ok (.if_icmp .ge 37, 3) := by decide +kernel
theorem dX3_sweeps_17 : decode cX3_sweeps 17 = .ok (.aload_n 0, 1) := by decide +kernel
theorem dX3_sweeps_18 : decode cX3_sweeps 18 = .ok (.getfield 30, 3) := by decide +kernel
theorem dX3_sweeps_21 : decode cX3_sweeps 21 = .ok (.iload_n 3, 1) := by decide +kernel
theorem dX3_sweeps_22 : decode cX3_sweeps 22 = .ok (.invokevirtual 158, 3) := by decide +kernel
theorem dX3_sweeps_25 : decode cX3_sweeps 25 = .ok (.istore 4, 2) := by decide +kernel
theorem dX3_sweeps_27 : decode cX3_sweeps 27 = .ok (.iload 4, 2) := by decide +kernel
theorem dX3_sweeps_29 : decode cX3_sweeps 29 = .ok (.bipush 100, 2) := by decide +kernel
theorem dX3_sweeps_31 : decode cX3_sweeps 31 = .ok (.idiv, 1) := by decide +kernel
theorem dX3_sweeps_32 : decode cX3_sweeps 32 = .ok (.iload_n 2, 1) := by decide +kernel
theorem dX3_sweeps_33 : decode cX3_sweeps 33 = .ok (.if_icmp .eq 6, 3) := by decide +kernel
theorem dX3_sweeps_36 : decode cX3_sweeps 36 = .ok (.iinc 1 1, 3) := by decide +kernel
theorem dX3_sweeps_39 : decode cX3_sweeps 39 = .ok (.iload 4, 2) := by decide +kernel
theorem dX3_sweeps_41 : decode cX3_sweeps 41 = .ok (.bipush 100, 2) := by decide +kernel
theorem dX3_sweeps_43 : decode cX3_sweeps 43 = .ok (.irem, 1) := by decide +kernel
theorem dX3_sweeps_44 : decode cX3_sweeps 44 = .ok (.istore_n 2, 1) := by decide +kernel
theorem dX3_sweeps_45 : decode cX3_sweeps 45 = .ok (.iinc 3 1, 3) := by decide +kernel
theorem dX3_sweeps_48 : decode cX3_sweeps 48 = .ok (.goto (-42), 3) := by decide +kernel
theorem dX3_sweeps_51 : decode cX3_sweeps 51 = .ok (.iload_n 1, 1) := by decide +kernel
theorem dX3_sweeps_52 : decode cX3_sweeps 52 = .ok (.ireturn, 1) := by decide +kernel
def wp_X3_sweeps_J39 (rec6 : Int32 → Int32 → Int32 → Prop) (v3_6 : Int32) (r22 : Int32) (v1_39 : Int32) : Prop := (rec6 (v3_6 + 1) (r22 - r22 / 100 * 100) v1_39)
def wp_X3_sweeps_B6 (σ : SX) (K6 : Int32 → Prop) (rec6 : Int32 → Int32 → Int32 → Prop) (v3_6 : Int32) (v2_6 : Int32) (v1_6 : Int32) : Prop := (wp_X1_size 12 (σ.2.1 8) (σ.1 17)  (fun r11 => ((r11 ≤ v3_6 → (K6 v1_6)) ∧ (¬ r11 ≤ v3_6 → (wp_X1_at 12 (σ.2.1 8) (σ.1 17) v3_6 (fun r22 => (((r22 / 100) = v2_6 → (wp_X3_sweeps_J39 rec6 v3_6 r22 v1_6)) ∧ (¬ (r22 / 100) = v2_6 → (wp_X3_sweeps_J39 rec6 v3_6 r22 (v1_6 + 1))))))))))
def wp_X3_sweeps_L6 (σ : SX) (K6 : Int32 → Prop) : Nat → Int32 → Int32 → Int32 → Prop
  | 0, _, _, _ => False
  | nn + 1, v3_6, v2_6, v1_6 => wp_X3_sweeps_B6 σ K6 (wp_X3_sweeps_L6 σ K6 nn) v3_6 v2_6 v1_6
def wp_X3_sweeps (fu : Nat) (σ : SX) (P : Int32 → Prop) : Prop := (wp_X3_sweeps_L6 σ (fun (v1_51 : Int32) => (P v1_51)) fu 0 (-1) 0)
theorem k_X3_sweeps : KV RX3 yX3_sweeps cX3_sweeps 5 (some .int) 0 := ⟨q224, q225, q1, q226, by decide +kernel⟩
set_option maxHeartbeats 4000000 in
set_option maxRecDepth 100000 in
theorem m_X3_sweeps (l : Launch) (dC : Nat → ClassId) (dI : Nat → Nat → Nat) (h : Nat → Nat) (cy : Nat → ClassId) (fu : Nat) (σ : SX) (P : Int32 → Prop) (hF : wp_X3_sweeps fu σ P) : Met l yX3_sweeps (ws_ yX3_sweeps cX3_sweeps 5 (some .int)) ({ frames := 1, cells := 0, slots := 0, locals := 21 } : Room) (va_Pc [.ref (h 16)] (fun U => va_P (dC, dI) classes (wH h cy σ) U.heap ∧ kwX dC dI cy U)) (vp_Si P) 0 0 (fun _ => False) := by
  refine Met.ofCx (own := RX3) (by decide) rfl (Nat.le_of_ble_eq_true rfl) ?_
  intro p e s m below meth c hC hv ls hl
  obtain ⟨hx, hb, hr, hml, hown, hts, hlocks⟩ := hC
  have hl : lv_has ls 5 [(0, .ref (h 16))] := hl
  obtain ⟨hP, hK⟩ := hv
  unfold wp_X3_sweeps at hF
  refine lv_iconst (v := 0) hx hb dX3_sweeps_0 (by decide) ?_
  refine lv_istore_n (lv' := [(1, .int 0), (0, .ref (h 16))]) hx hb dX3_sweeps_1 rfl hl (by decide) rfl (fun ls hl => ?_)
  refine lv_iconst (v := (-1)) hx hb dX3_sweeps_2 (by decide) ?_
  refine lv_istore_n (lv' := [(2, .int (-1)), (1, .int 0), (0, .ref (h 16))]) hx hb dX3_sweeps_3 rfl hl (by decide) rfl (fun ls hl => ?_)
  refine lv_iconst (v := 0) hx hb dX3_sweeps_4 (by decide) ?_
  refine lv_istore_n (lv' := [(3, .int 0), (2, .int (-1)), (1, .int 0), (0, .ref (h 16))]) hx hb dX3_sweeps_5 rfl hl (by decide) rfl (fun ls hl => ?_)
  have hX6 : ∀ (v1_51 : Int32), (fun (v1_51 : Int32) => (P v1_51)) v1_51 → ∀ (ls : Array Slot), lv_has ls 5 [(1, .int v1_51)] → W p l e ({ frames := 1, cells := 0, slots := 0, locals := 21 } : Room) s m ([.ref (h 16)] : List Value).toArray below meth c s.heap [] 0 0 (MQ below (vp_Si P) ([.ref (h 16)] : List Value).toArray s 0 0 (fun _ => False)) (F0 m 51 ls []) := by
    intro v1_51 hF ls hl
    refine lv_iload_n hx hb dX3_sweeps_51 rfl (lv_at hl 0 rfl) ?_
    exact W.iret (v := v1_51) hx hb hr (fun t ht hW => ⟨v1_51, rfl, hF, ht⟩) (fun q hq => absurd hq List.not_mem_nil) dX3_sweeps_52
  have hL6 : ∀ (K6 : Int32 → Prop), (∀ (v1_51 : Int32), K6 v1_51 → ∀ (ls : Array Slot), lv_has ls 5 [(1, .int v1_51)] → W p l e ({ frames := 1, cells := 0, slots := 0, locals := 21 } : Room) s m ([.ref (h 16)] : List Value).toArray below meth c s.heap [] 0 0 (MQ below (vp_Si P) ([.ref (h 16)] : List Value).toArray s 0 0 (fun _ => False)) (F0 m 51 ls [])) → ∀ (nn : Nat), ∀ (v3_6 : Int32), ∀ (v2_6 : Int32), ∀ (v1_6 : Int32), wp_X3_sweeps_L6 σ K6 nn v3_6 v2_6 v1_6 → ∀ (ls : Array Slot), lv_has ls 5 [(3, .int v3_6), (2, .int v2_6), (1, .int v1_6), (0, .ref (h 16))] → W p l e ({ frames := 1, cells := 0, slots := 0, locals := 21 } : Room) s m ([.ref (h 16)] : List Value).toArray below meth c s.heap [] 0 0 (MQ below (vp_Si P) ([.ref (h 16)] : List Value).toArray s 0 0 (fun _ => False)) (F0 m 6 ls []) := by
    intro K6 hX6 nn
    induction nn with
    | zero =>
      intro v3_6 v2_6 v1_6 hF
      exact hF.elim
    | succ nn ih =>
      intro v3_6 v2_6 v1_6 hF ls hl
      obtain ⟨rec6, hrec⟩ : ∃ z : Int32 → Int32 → Int32 → Prop, z = wp_X3_sweeps_L6 σ K6 nn := ⟨_, rfl⟩
      have hF : wp_X3_sweeps_B6 σ K6 rec6 v3_6 v2_6 v1_6 := by rw [hrec]; exact hF
      rw [← hrec] at ih
      clear hrec
      unfold wp_X3_sweeps_B6 at hF
      refine lv_iload_n hx hb dX3_sweeps_6 rfl (lv_at hl 0 rfl) ?_
      refine lv_aload_n hx hb dX3_sweeps_7 rfl (lv_at hl 3 rfl) ?_
      refine va_get (D := (dC, dI)) (ci := 3) (v := .ref (h 17)) (C := RX3) (T := TX3) (N := 6) hx hb hts in_X3 hown hK.1 hP 16 rfl rfl 2 (by decide) (hts _ q143) (fun _ h9 => h9) rfl dX3_sweeps_8 ?_
      have hPc := hP.sub (ws' := wR (h 17) (h 18) cy 12 (σ.2.1 8) (σ.1 17)) [17, 18] rfl
      refine cpVi (q0 := 0) (As := []) (rest := [.int v3_6]) ⟨hx, hb, hr, hml, hown, hts, hlocks⟩ hK hPc rfl rfl (m_X1_size l dC dI (h 17) (h 18) cy 12 (σ.2.1 8) (σ.1 17)  _ hF) k_X1_size q222 ⟨rfl, rfl⟩ ⟨Nat.le_of_ble_eq_true rfl, Nat.le_of_ble_eq_true rfl⟩ hl.1 rfl rfl (Nat.le_of_ble_eq_true rfl) dX3_sweeps_11 ⟨Nat.le_of_ble_eq_true rfl, Nat.le_of_ble_eq_true rfl⟩ (fun r11 hF => ?_)
      refine lv_icmp_ge (tgt := 51) hx hb dX3_sweeps_14 (by decide) (fun cz => ?_) (fun cz => ?_)
      · have hF := hF.1 cz
        exact hX6 v1_6 hF _ (lv_sub hl [2] rfl)
      · have hF := hF.2 cz
        refine lv_aload_n hx hb dX3_sweeps_17 rfl (lv_at hl 3 rfl) ?_
        refine va_get (D := (dC, dI)) (ci := 3) (v := .ref (h 17)) (C := RX3) (T := TX3) (N := 6) hx hb hts in_X3 hown hK.1 hP 16 rfl rfl 2 (by decide) (hts _ q143) (fun _ h9 => h9) rfl dX3_sweeps_18 ?_
        refine lv_iload_n hx hb dX3_sweeps_21 rfl (lv_at hl 0 rfl) ?_
        have hPc := hP.sub (ws' := wR (h 17) (h 18) cy 12 (σ.2.1 8) (σ.1 17)) [17, 18] rfl
        refine cpVi (q0 := 0) (As := [.int v3_6]) (rest := []) ⟨hx, hb, hr, hml, hown, hts, hlocks⟩ hK hPc rfl rfl (m_X1_at l dC dI (h 17) (h 18) cy 12 (σ.2.1 8) (σ.1 17) v3_6 _ hF) k_X1_at q227 ⟨rfl, rfl⟩ ⟨Nat.le_of_ble_eq_true rfl, Nat.le_of_ble_eq_true rfl⟩ hl.1 rfl rfl (Nat.le_of_ble_eq_true rfl) dX3_sweeps_22 ⟨Nat.le_of_ble_eq_true rfl, Nat.le_of_ble_eq_true rfl⟩ (fun r22 hF => ?_)
        refine lv_istore (lv' := [(4, .int r22), (3, .int v3_6), (2, .int v2_6), (1, .int v1_6), (0, .ref (h 16))]) hx hb dX3_sweeps_25 hl (by decide) rfl (fun ls hl => ?_)
        refine lv_iload hx hb dX3_sweeps_27 (lv_at hl 0 rfl) ?_
        refine lv_bipush (v := 100) hx hb dX3_sweeps_29 (by decide) ?_
        refine lv_idiv hx hb dX3_sweeps_31 (by decide) ?_
        refine lv_iload_n hx hb dX3_sweeps_32 rfl (lv_at hl 2 rfl) ?_
        have hJ39 : ∀ (v1_39 : Int32), wp_X3_sweeps_J39 rec6 v3_6 r22 v1_39 → ∀ (ls : Array Slot), lv_has ls 5 [(4, .int r22), (3, .int v3_6), (1, .int v1_39), (0, .ref (h 16))] → W p l e ({ frames := 1, cells := 0, slots := 0, locals := 21 } : Room) s m ([.ref (h 16)] : List Value).toArray below meth c s.heap [] 0 0 (MQ below (vp_Si P) ([.ref (h 16)] : List Value).toArray s 0 0 (fun _ => False)) (F0 m 39 ls []) := by
          intro v1_39 hF ls hl
          unfold wp_X3_sweeps_J39 at hF
          refine lv_iload hx hb dX3_sweeps_39 (lv_at hl 0 rfl) ?_
          refine lv_bipush (v := 100) hx hb dX3_sweeps_41 (by decide) ?_
          refine lv_irem hx hb dX3_sweeps_43 (by decide) ?_
          refine lv_istore_n (lv' := [(2, .int (r22 - r22 / 100 * 100)), (4, .int r22), (3, .int v3_6), (1, .int v1_39), (0, .ref (h 16))]) hx hb dX3_sweeps_44 rfl hl (by decide) rfl (fun ls hl => ?_)
          refine lv_iinc (v := v3_6 + 1) (lv' := [(3, .int (v3_6 + 1)), (2, .int (r22 - r22 / 100 * 100)), (4, .int r22), (1, .int v1_39), (0, .ref (h 16))]) hx hb dX3_sweeps_45 hl (k := 2) rfl (by rfl) (by decide) rfl (fun ls hl => ?_)
          refine lv_goto (tgt := 6) hx hb dX3_sweeps_48 (by decide) ?_
          exact ih (v3_6 + 1) (r22 - r22 / 100 * 100) v1_39 hF _ (lv_sub hl [0, 1, 3, 4] rfl)
        refine lv_icmp_eq (tgt := 39) hx hb dX3_sweeps_33 (by decide) (fun cz => ?_) (fun cz => ?_)
        · have hF := hF.1 cz
          exact hJ39 v1_6 hF _ (lv_sub hl [0, 1, 3, 4] rfl)
        · have hF := hF.2 cz
          refine lv_iinc (v := v1_6 + 1) (lv' := [(1, .int (v1_6 + 1)), (4, .int r22), (3, .int v3_6), (2, .int v2_6), (0, .ref (h 16))]) hx hb dX3_sweeps_36 hl (k := 3) rfl (by rfl) (by decide) rfl (fun ls hl => ?_)
          exact hJ39 (v1_6 + 1) hF _ (lv_sub hl [1, 2, 0, 4] rfl)
  exact hL6 _ hX6 fu 0 (-1) 0 hF _ (lv_sub hl [0, 1, 2, 3] rfl)
theorem dX3_symmetries_0 : decode cX3_symmetries 0 = .ok (.iconst 0, 1) := by decide +kernel
theorem dX3_symmetries_1 : decode cX3_symmetries 1 = .ok (.istore_n 1, 1) := by decide +kernel
theorem dX3_symmetries_2 : decode cX3_symmetries 2 = .ok (.iconst 0, 1) := by decide +kernel
theorem dX3_symmetries_3 : decode cX3_symmetries 3 = .ok (.istore_n 2, 1) := by decide +kernel
theorem dX3_symmetries_4 : decode cX3_symmetries 4 = .ok (.iload_n 2, 1) := by decide +kernel
theorem dX3_symmetries_5 : decode cX3_symmetries 5 = .ok (.bipush 8, 2) := by decide +kernel
theorem dX3_symmetries_7 : decode cX3_symmetries 7 = .ok (.if_icmp .ge 23, 3) := by decide +kernel
theorem dX3_symmetries_10 : decode cX3_symmetries 10 = .ok (.aload_n 0, 1) := by decide +kernel
theorem dX3_symmetries_11 : decode cX3_symmetries 11 = .ok (.getfield 10, 3) := by decide +kernel
theorem dX3_symmetries_14 : decode cX3_symmetries 14 = .ok (.iload_n 2, 1) := by decide +kernel
theorem dX3_symmetries_15 : decode cX3_symmetries 15 = .ok (.invokevirtual 107, 3) := by decide +kernel
theorem dX3_symmetries_18 : decode cX3_symmetries 18 = .ok (.ifCond .eq 6, 3) := by decide +kernel
theorem dX3_symmetries_21 : decode cX3_symmetries 21 = .ok (.iinc 1 1, 3) := by decide +kernel
theorem dX3_symmetries_24 : decode cX3_symmetries 24 = .ok (.iinc 2 1, 3) := by decide +kernel
theorem dX3_symmetries_27 : decode cX3_symmetries 27 = .ok (.goto (-23), 3) := by decide +kernel
theorem dX3_symmetries_30 : decode cX3_symmetries 30 = .ok (.iload_n 1, 1) := by decide +kernel
theorem dX3_symmetries_31 : decode cX3_symmetries 31 = .ok (.ireturn, 1) := by decide +kernel
def wp_X3_symmetries_J24 (rec4 : Int32 → Int32 → Prop) (v2_4 : Int32) (v1_24 : Int32) : Prop := (rec4 (v2_4 + 1) v1_24)
def wp_X3_symmetries_B4 (fu : Nat) (σ : SX) (K4 : Int32 → Prop) (rec4 : Int32 → Int32 → Prop) (v2_4 : Int32) (v1_4 : Int32) : Prop := ((8 ≤ v2_4 → (K4 v1_4)) ∧ (¬ 8 ≤ v2_4 → (wp_X0_isSymmetry fu σ v2_4 (fun r15 => ((r15 = 0 → (wp_X3_symmetries_J24 rec4 v2_4 v1_4)) ∧ (¬ r15 = 0 → (wp_X3_symmetries_J24 rec4 v2_4 (v1_4 + 1))))))))
def wp_X3_symmetries_L4 (fu : Nat) (σ : SX) (K4 : Int32 → Prop) : Nat → Int32 → Int32 → Prop
  | 0, _, _ => False
  | nn + 1, v2_4, v1_4 => wp_X3_symmetries_B4 fu σ K4 (wp_X3_symmetries_L4 fu σ K4 nn) v2_4 v1_4
def wp_X3_symmetries (fu : Nat) (σ : SX) (P : Int32 → Prop) : Prop := (wp_X3_symmetries_L4 fu σ (fun (v1_30 : Int32) => (P v1_30)) fu 0 0)
theorem k_X3_symmetries : KV RX3 yX3_symmetries cX3_symmetries 3 (some .int) 0 := ⟨q173, q174, q1, q175, by decide +kernel⟩
set_option maxHeartbeats 4000000 in
set_option maxRecDepth 100000 in
theorem m_X3_symmetries (l : Launch) (dC : Nat → ClassId) (dI : Nat → Nat → Nat) (h : Nat → Nat) (cy : Nat → ClassId) (fu : Nat) (σ : SX) (P : Int32 → Prop) (hF : wp_X3_symmetries fu σ P) : Met l yX3_symmetries (ws_ yX3_symmetries cX3_symmetries 3 (some .int)) ({ frames := 4, cells := 0, slots := 0, locals := 91 } : Room) (va_Pc [.ref (h 16)] (fun U => va_P (dC, dI) classes (wH h cy σ) U.heap ∧ kwX dC dI cy U)) (vp_Si P) 0 0 (fun _ => False) := by
  refine Met.ofCx (own := RX3) (by decide) rfl (Nat.le_of_ble_eq_true rfl) ?_
  intro p e s m below meth c hC hv ls hl
  obtain ⟨hx, hb, hr, hml, hown, hts, hlocks⟩ := hC
  have hl : lv_has ls 3 [(0, .ref (h 16))] := hl
  obtain ⟨hP, hK⟩ := hv
  unfold wp_X3_symmetries at hF
  refine lv_iconst (v := 0) hx hb dX3_symmetries_0 (by decide) ?_
  refine lv_istore_n (lv' := [(1, .int 0), (0, .ref (h 16))]) hx hb dX3_symmetries_1 rfl hl (by decide) rfl (fun ls hl => ?_)
  refine lv_iconst (v := 0) hx hb dX3_symmetries_2 (by decide) ?_
  refine lv_istore_n (lv' := [(2, .int 0), (1, .int 0), (0, .ref (h 16))]) hx hb dX3_symmetries_3 rfl hl (by decide) rfl (fun ls hl => ?_)
  have hX4 : ∀ (v1_30 : Int32), (fun (v1_30 : Int32) => (P v1_30)) v1_30 → ∀ (ls : Array Slot), lv_has ls 3 [(1, .int v1_30)] → W p l e ({ frames := 4, cells := 0, slots := 0, locals := 91 } : Room) s m ([.ref (h 16)] : List Value).toArray below meth c s.heap [] 0 0 (MQ below (vp_Si P) ([.ref (h 16)] : List Value).toArray s 0 0 (fun _ => False)) (F0 m 30 ls []) := by
    intro v1_30 hF ls hl
    refine lv_iload_n hx hb dX3_symmetries_30 rfl (lv_at hl 0 rfl) ?_
    exact W.iret (v := v1_30) hx hb hr (fun t ht hW => ⟨v1_30, rfl, hF, ht⟩) (fun q hq => absurd hq List.not_mem_nil) dX3_symmetries_31
  have hL4 : ∀ (K4 : Int32 → Prop), (∀ (v1_30 : Int32), K4 v1_30 → ∀ (ls : Array Slot), lv_has ls 3 [(1, .int v1_30)] → W p l e ({ frames := 4, cells := 0, slots := 0, locals := 91 } : Room) s m ([.ref (h 16)] : List Value).toArray below meth c s.heap [] 0 0 (MQ below (vp_Si P) ([.ref (h 16)] : List Value).toArray s 0 0 (fun _ => False)) (F0 m 30 ls [])) → ∀ (nn : Nat), ∀ (v2_4 : Int32), ∀ (v1_4 : Int32), wp_X3_symmetries_L4 fu σ K4 nn v2_4 v1_4 → ∀ (ls : Array Slot), lv_has ls 3 [(2, .int v2_4), (1, .int v1_4), (0, .ref (h 16))] → W p l e ({ frames := 4, cells := 0, slots := 0, locals := 91 } : Room) s m ([.ref (h 16)] : List Value).toArray below meth c s.heap [] 0 0 (MQ below (vp_Si P) ([.ref (h 16)] : List Value).toArray s 0 0 (fun _ => False)) (F0 m 4 ls []) := by
    intro K4 hX4 nn
    induction nn with
    | zero =>
      intro v2_4 v1_4 hF
      exact hF.elim
    | succ nn ih =>
      intro v2_4 v1_4 hF ls hl
      obtain ⟨rec4, hrec⟩ : ∃ z : Int32 → Int32 → Prop, z = wp_X3_symmetries_L4 fu σ K4 nn := ⟨_, rfl⟩
      have hF : wp_X3_symmetries_B4 fu σ K4 rec4 v2_4 v1_4 := by rw [hrec]; exact hF
      rw [← hrec] at ih
      clear hrec
      unfold wp_X3_symmetries_B4 at hF
      refine lv_iload_n hx hb dX3_symmetries_4 rfl (lv_at hl 0 rfl) ?_
      refine lv_bipush (v := 8) hx hb dX3_symmetries_5 (by decide) ?_
      refine lv_icmp_ge (tgt := 30) hx hb dX3_symmetries_7 (by decide) (fun cz => ?_) (fun cz => ?_)
      · have hF := hF.1 cz
        exact hX4 v1_4 hF _ (lv_sub hl [1] rfl)
      · have hF := hF.2 cz
        refine lv_aload_n hx hb dX3_symmetries_10 rfl (lv_at hl 2 rfl) ?_
        refine va_get (D := (dC, dI)) (ci := 3) (v := .ref (h 0)) (C := RX3) (T := TX3) (N := 6) hx hb hts in_X3 hown hK.1 hP 16 rfl rfl 0 (by decide) (hts _ q141) (fun _ h9 => h9) rfl dX3_symmetries_11 ?_
        refine lv_iload_n hx hb dX3_symmetries_14 rfl (lv_at hl 0 rfl) ?_
        have hPc := hP.sub (ws' := wB h cy σ) [0, 1, 2, 3, 4, 5, 6, 7, 8, 9, 10, 11] rfl
        refine cpVi (q0 := 0) (As := [.int v2_4]) (rest := []) ⟨hx, hb, hr, hml, hown, hts, hlocks⟩ hK hPc rfl rfl (m_X0_isSymmetry l dC dI h cy fu σ v2_4 _ hF) k_X0_isSymmetry q176 ⟨rfl, rfl⟩ ⟨Nat.le_of_ble_eq_true rfl, Nat.le_of_ble_eq_true rfl⟩ hl.1 rfl rfl (Nat.le_of_ble_eq_true rfl) dX3_symmetries_15 ⟨Nat.le_of_ble_eq_true rfl, Nat.le_of_ble_eq_true rfl⟩ (fun r15 hF => ?_)
        have hJ24 : ∀ (v1_24 : Int32), wp_X3_symmetries_J24 rec4 v2_4 v1_24 → ∀ (ls : Array Slot), lv_has ls 3 [(2, .int v2_4), (1, .int v1_24), (0, .ref (h 16))] → W p l e ({ frames := 4, cells := 0, slots := 0, locals := 91 } : Room) s m ([.ref (h 16)] : List Value).toArray below meth c s.heap [] 0 0 (MQ below (vp_Si P) ([.ref (h 16)] : List Value).toArray s 0 0 (fun _ => False)) (F0 m 24 ls []) := by
          intro v1_24 hF ls hl
          unfold wp_X3_symmetries_J24 at hF
          refine lv_iinc (v := v2_4 + 1) (lv' := [(2, .int (v2_4 + 1)), (1, .int v1_24), (0, .ref (h 16))]) hx hb dX3_symmetries_24 hl (k := 0) rfl (by rfl) (by decide) rfl (fun ls hl => ?_)
          refine lv_goto (tgt := 4) hx hb dX3_symmetries_27 (by decide) ?_
          exact ih (v2_4 + 1) v1_24 hF _ (lv_sub hl [0, 1, 2] rfl)
        refine lv_if_eq (tgt := 24) hx hb dX3_symmetries_18 (by decide) (fun cz => ?_) (fun cz => ?_)
        · have hF := hF.1 cz
          exact hJ24 v1_4 hF _ (lv_sub hl [0, 1, 2] rfl)
        · have hF := hF.2 cz
          refine lv_iinc (v := v1_4 + 1) (lv' := [(1, .int (v1_4 + 1)), (2, .int v2_4), (0, .ref (h 16))]) hx hb dX3_symmetries_21 hl (k := 1) rfl (by rfl) (by decide) rfl (fun ls hl => ?_)
          exact hJ24 (v1_4 + 1) hF _ (lv_sub hl [1, 0, 2] rfl)
  exact hL4 _ hX4 fu 0 0 hF _ (lv_sub hl [0, 1, 2] rfl)
theorem dX3_value_0 : decode cX3_value 0 = .ok (.aload_n 0, 1) := by decide +kernel
theorem dX3_value_1 : decode cX3_value 1 = .ok (.getfield 21, 3) := by decide +kernel
theorem dX3_value_4 : decode cX3_value 4 = .ok (.aload_n 0, 1) := by decide +kernel
theorem dX3_value_5 : decode cX3_value 5 = .ok (.getfield 83, 3) := by decide +kernel
theorem dX3_value_8 : decode cX3_value 8 = .ok (.invokevirtual 169, 3) := by decide +kernel
theorem dX3_value_11 : decode cX3_value 11 = .ok (.aload_n 0, 1) := by decide +kernel
theorem dX3_value_12 : decode cX3_value 12 = .ok (.getfield 21, 3) := by decide +kernel
theorem dX3_value_15 : decode cX3_value 15 = .ok (.invokevirtual 236, 3) := by decide +kernel
theorem dX3_value_18 : decode cX3_value 18 = .ok (.aload_n 0, 1) := by decide +kernel
theorem dX3_value_19 : decode cX3_value 19 = .ok (.getfield 21, 3) := by decide +kernel
theorem dX3_value_22 : decode cX3_value 22 = .ok (.aload_n 0, 1) := by decide +kernel
theorem dX3_value_23 : decode cX3_value 23 = .ok (.getfield 83, 3) := by decide +kernel
theorem dX3_value_26 : decode cX3_value 26 = .ok (.invokevirtual 184, 3) := by decide +kernel
theorem dX3_value_29 : decode cX3_value 29 = .ok (.ireturn, 1) := by decide +kernel
def wp_X3_value (fu : Nat) (σ : SX) (P : Int32 → SX → Prop) : Prop := (wp_X2_begin fu σ (σ.1 15) (fun s8 => (wp_X2_figureValues fu (mgX2 σ s8)  (fun s15 => (wp_X2_figureAt (mgX2 (mgX2 σ s8) s15) (σ.1 15) (fun r26 => (P r26 (mgX2 (mgX2 σ s8) s15))))))))
theorem k_X3_value : KV RX3 yX3_value cX3_value 1 (some .int) 0 := ⟨q317, q318, q1, q319, by decide +kernel⟩
set_option maxHeartbeats 4000000 in
set_option maxRecDepth 100000 in
theorem m_X3_value (l : Launch) (dC : Nat → ClassId) (dI : Nat → Nat → Nat) (h : Nat → Nat) (cy : Nat → ClassId) (sz : Nat) (fu : Nat) (σ : SX) (P : Int32 → SX → Prop) (hF : wp_X3_value fu σ P) : Met l yX3_value (ws_ yX3_value cX3_value 1 (some .int)) ({ frames := 4, cells := 0, slots := 0, locals := 90 } : Room) (va_Pc [.ref (h 16)] (fun U => U.heap.size = sz ∧ va_P (dC, dI) classes (wH h cy σ) U.heap ∧ kwX dC dI cy U ∧ va_D (fun _ => True) (wH h cy σ))) (va_Qi (fun r u => P r u) (fun (u : SX) t => va_P (dC, dI) classes (wH h cy u) t.heap ∧ kwX dC dI cy t ∧ va_D (va_A (wH h cy σ) sz) (wH h cy u)) (va_A (wH h cy σ) sz)) 0 0 (va_A (wH h cy σ) sz) := by
  refine Met.ofCx (own := RX3) (by decide) rfl (Nat.le_of_ble_eq_true rfl) ?_
  intro p e s m below meth c hC hv ls hl
  obtain ⟨hx, hb, hr, hml, hown, hts, hlocks⟩ := hC
  have hl : lv_has ls 1 [(0, .ref (h 16))] := hl
  obtain ⟨hsz, hP, hK, hD0⟩ := hv
  subst hsz
  have hD := hD0.self (sz := s.heap.size)
  generalize hAe : va_A (wH h cy σ) s.heap.size = A at hD ⊢
  have hA : ∀ q : Nat, s.heap.size ≤ q → A q := fun q h => by rw [← hAe]; exact Or.inr h
  have hS : va_S A s.heap s.heap [] := va_S.rf
  clear hAe
  unfold wp_X3_value at hF
  refine lv_aload_n hx hb dX3_value_0 rfl (lv_at hl 0 rfl) ?_
  refine va_get (D := (dC, dI)) (ci := 3) (v := .ref (h 12)) (C := RX3) (T := TX3) (N := 6) hx hb hts in_X3 hown hK.1 hP 16 rfl rfl 1 (by decide) (hts _ q142) (fun _ h9 => h9) rfl dX3_value_1 ?_
  refine lv_aload_n hx hb dX3_value_4 rfl (lv_at hl 0 rfl) ?_
  refine va_get (D := (dC, dI)) (ci := 3) (v := .int (σ.1 15)) (C := RX3) (T := TX3) (N := 6) hx hb hts in_X3 hown hK.1 hP 16 rfl rfl 4 (by decide) (hts _ q145) (fun _ h9 => h9) rfl dX3_value_5 ?_
  have hPc := hP.sub (ws' := wW h cy σ) [0, 1, 2, 3, 4, 5, 6, 7, 8, 9, 10, 11, 12, 13, 14, 15] rfl
  have hDc := hD.sub (ws' := wW h cy σ) [0, 1, 2, 3, 4, 5, 6, 7, 8, 9, 10, 11, 12, 13, 14, 15] (by decide) rfl
  have hFc := va_free (wc := wW h cy σ) hD hS hA [0, 1, 2, 3, 4, 5, 6, 7, 8, 9, 10, 11, 12, 13, 14, 15] rfl
  refine cwVv (q0 := 12) (As := [.int (σ.1 15)]) (rest := []) ⟨hx, hb, hr, hml, hown, hts, hlocks⟩ hK hPc hDc rfl rfl hS hFc (m_X2_begin l dC dI h cy _ fu σ (σ.1 15) _ hF) k_X2_begin q232 ⟨rfl, rfl⟩ ⟨Nat.le_of_ble_eq_true rfl, Nat.le_of_ble_eq_true rfl⟩ hl.1 rfl rfl (Nat.le_of_ble_eq_true rfl) dX3_value_8 ⟨Nat.le_of_ble_eq_true rfl, Nat.le_of_ble_eq_true rfl⟩ (fun u H1 locs hF hP1 hD1 hk1 hS => ?_)
  obtain ⟨s8, rfl⟩ : ∃ z, z = u := ⟨_, rfl⟩
  obtain ⟨hP, hD⟩ := va_join (wr := [(h 16, .inr (3, [.ref (h 0), .ref (h 12), .ref (h 17), .ref (h 19), .int (σ.1 15), .int (σ.1 16)])), (h 17, .inr (1, [.ref (h 18), .int (σ.1 17)])), (h 18, .inl (cy 0, 12, .inl (σ.2.1 8))), (h 19, .inr (1, [.ref (h 20), .int (σ.1 18)])), (h 20, .inl (cy 0, 12, .inl (σ.2.1 9)))]) (w1 := wW h cy s8) hP hD [0, 1, 2, 3, 4, 5, 6, 7, 8, 9, 10, 11, 12, 13, 14, 15] [16, 17, 18, 19, 20] rfl rfl (by decide) (by decide) hk1 hFc hP1 hD1
  have hP := hP.sub (ws' := wH h cy (mgX2 σ s8)) [5, 6, 7, 8, 9, 10, 11, 12, 13, 14, 15, 16, 17, 18, 19, 20, 0, 1, 2, 3, 4] rfl
  have hD := hD.sub (ws' := wH h cy (mgX2 σ s8)) [5, 6, 7, 8, 9, 10, 11, 12, 13, 14, 15, 16, 17, 18, 19, 20, 0, 1, 2, 3, 4] (by decide) rfl
  generalize H1 = H at hP hS ⊢
  have hP : va_P (dC, dI) classes (wH h cy (mgX2 σ s8)) H := hP
  have hD : va_D A (wH h cy (mgX2 σ s8)) := hD
  refine lv_aload_n hx hb dX3_value_11 rfl (lv_at hl 0 rfl) ?_
  refine va_get (D := (dC, dI)) (ci := 3) (v := .ref (h 12)) (C := RX3) (T := TX3) (N := 6) hx hb hts in_X3 hown hK.1 hP 16 rfl rfl 1 (by decide) (hts _ q142) (fun _ h9 => h9) rfl dX3_value_12 ?_
  have hPc := hP.sub (ws' := wW h cy (mgX2 σ s8)) [0, 1, 2, 3, 4, 5, 6, 7, 8, 9, 10, 11, 12, 13, 14, 15] rfl
  have hDc := hD.sub (ws' := wW h cy (mgX2 σ s8)) [0, 1, 2, 3, 4, 5, 6, 7, 8, 9, 10, 11, 12, 13, 14, 15] (by decide) rfl
  have hFc := va_free (wc := wW h cy (mgX2 σ s8)) hD hS hA [0, 1, 2, 3, 4, 5, 6, 7, 8, 9, 10, 11, 12, 13, 14, 15] rfl
  refine cwVv (q0 := 12) (As := []) (rest := []) ⟨hx, hb, hr, hml, hown, hts, hlocks⟩ hK hPc hDc rfl rfl hS hFc (m_X2_figureValues l dC dI h cy _ fu (mgX2 σ s8)  _ hF) k_X2_figureValues q320 ⟨rfl, rfl⟩ ⟨Nat.le_of_ble_eq_true rfl, Nat.le_of_ble_eq_true rfl⟩ hl.1 rfl rfl (Nat.le_of_ble_eq_true rfl) dX3_value_15 ⟨Nat.le_of_ble_eq_true rfl, Nat.le_of_ble_eq_true rfl⟩ (fun u H1 locs hF hP1 hD1 hk1 hS => ?_)
  obtain ⟨s15, rfl⟩ : ∃ z, z = u := ⟨_, rfl⟩
  obtain ⟨hP, hD⟩ := va_join (wr := [(h 16, .inr (3, [.ref (h 0), .ref (h 12), .ref (h 17), .ref (h 19), .int (σ.1 15), .int (σ.1 16)])), (h 17, .inr (1, [.ref (h 18), .int (σ.1 17)])), (h 18, .inl (cy 0, 12, .inl (σ.2.1 8))), (h 19, .inr (1, [.ref (h 20), .int (σ.1 18)])), (h 20, .inl (cy 0, 12, .inl (σ.2.1 9)))]) (w1 := wW h cy s15) hP hD [0, 1, 2, 3, 4, 5, 6, 7, 8, 9, 10, 11, 12, 13, 14, 15] [16, 17, 18, 19, 20] rfl rfl (by decide) (by decide) hk1 hFc hP1 hD1
  have hP := hP.sub (ws' := wH h cy (mgX2 (mgX2 σ s8) s15)) [5, 6, 7, 8, 9, 10, 11, 12, 13, 14, 15, 16, 17, 18, 19, 20, 0, 1, 2, 3, 4] rfl
  have hD := hD.sub (ws' := wH h cy (mgX2 (mgX2 σ s8) s15)) [5, 6, 7, 8, 9, 10, 11, 12, 13, 14, 15, 16, 17, 18, 19, 20, 0, 1, 2, 3, 4] (by decide) rfl
  generalize H1 = H at hP hS ⊢
  have hP : va_P (dC, dI) classes (wH h cy (mgX2 (mgX2 σ s8) s15)) H := hP
  have hD : va_D A (wH h cy (mgX2 (mgX2 σ s8) s15)) := hD
  refine lv_aload_n hx hb dX3_value_18 rfl (lv_at hl 0 rfl) ?_
  refine va_get (D := (dC, dI)) (ci := 3) (v := .ref (h 12)) (C := RX3) (T := TX3) (N := 6) hx hb hts in_X3 hown hK.1 hP 16 rfl rfl 1 (by decide) (hts _ q142) (fun _ h9 => h9) rfl dX3_value_19 ?_
  refine lv_aload_n hx hb dX3_value_22 rfl (lv_at hl 0 rfl) ?_
  refine va_get (D := (dC, dI)) (ci := 3) (v := .int (σ.1 15)) (C := RX3) (T := TX3) (N := 6) hx hb hts in_X3 hown hK.1 hP 16 rfl rfl 4 (by decide) (hts _ q145) (fun _ h9 => h9) rfl dX3_value_23 ?_
  have hPc := hP.sub (ws' := wW h cy (mgX2 (mgX2 σ s8) s15)) [0, 1, 2, 3, 4, 5, 6, 7, 8, 9, 10, 11, 12, 13, 14, 15] rfl
  refine cpVi (q0 := 12) (As := [.int (σ.1 15)]) (rest := []) ⟨hx, hb, hr, hml, hown, hts, hlocks⟩ hK hPc rfl rfl (m_X2_figureAt l dC dI h cy (mgX2 (mgX2 σ s8) s15) (σ.1 15) _ hF) k_X2_figureAt q336 ⟨rfl, rfl⟩ ⟨Nat.le_of_ble_eq_true rfl, Nat.le_of_ble_eq_true rfl⟩ hl.1 rfl rfl (Nat.le_of_ble_eq_true rfl) dX3_value_26 ⟨Nat.le_of_ble_eq_true rfl, Nat.le_of_ble_eq_true rfl⟩ (fun r26 hF => ?_)
  exact W.iret (v := r26) hx hb hr (fun t ht hW => ⟨⟨r26, mgX2 (mgX2 σ s8) s15, rfl, hF, by rw [ht]; exact hP, hK.warm hW, hD⟩, hS.F ht⟩) hS.2.2 dX3_value_29
theorem dX3_ways_0 : decode cX3_ways 0 = .ok (.aload_n 0, 1) := by decide +kernel
theorem dX3_ways_1 : decode cX3_ways 1 = .ok (.getfield 21, 3) := by decide +kernel
theorem dX3_ways_4 : decode cX3_ways 4 = .ok (.aload_n 0, 1) := by decide +kernel
theorem dX3_ways_5 : decode cX3_ways 5 = .ok (.getfield 83, 3) := by decide +kernel
theorem dX3_ways_8 : decode cX3_ways 8 = .ok (.invokevirtual 169, 3) := by decide +kernel
theorem dX3_ways_11 : decode cX3_ways 11 = .ok (.aload_n 0, 1) := by decide +kernel
theorem dX3_ways_12 : decode cX3_ways 12 = .ok (.getfield 21, 3) := by decide +kernel
theorem dX3_ways_15 : decode cX3_ways 15 = .ok (.aload_n 0, 1) := by decide +kernel
theorem dX3_ways_16 : decode cX3_ways 16 = .ok (.getfield 87, 3) := by decide +kernel
theorem dX3_ways_19 : decode cX3_ways 19 = .ok (.invokevirtual 172, 3) := by decide +kernel
theorem dX3_ways_22 : decode cX3_ways 22 = .ok (.lreturn, 1) := by decide +kernel
def wp_X3_ways (fu : Nat) (σ : SX) (P : Int64 → SX → Prop) : Prop := (wp_X2_begin fu σ (σ.1 15) (fun s8 => (wp_X2_waysTo (mgX2 σ s8) (σ.1 16) (fun r19 => (P r19 (mgX2 σ s8))))))
theorem k_X3_ways : KV RX3 yX3_ways cX3_ways 1 (some .long) 0 := ⟨q265, q266, q1, q267, by decide +kernel⟩
set_option maxHeartbeats 4000000 in
set_option maxRecDepth 100000 in
theorem m_X3_ways (l : Launch) (dC : Nat → ClassId) (dI : Nat → Nat → Nat) (h : Nat → Nat) (cy : Nat → ClassId) (sz : Nat) (fu : Nat) (σ : SX) (P : Int64 → SX → Prop) (hF : wp_X3_ways fu σ P) : Met l yX3_ways (ws_ yX3_ways cX3_ways 1 (some .long)) ({ frames := 4, cells := 0, slots := 0, locals := 90 } : Room) (va_Pc [.ref (h 16)] (fun U => U.heap.size = sz ∧ va_P (dC, dI) classes (wH h cy σ) U.heap ∧ kwX dC dI cy U ∧ va_D (fun _ => True) (wH h cy σ))) (va_Ql (fun r u => P r u) (fun (u : SX) t => va_P (dC, dI) classes (wH h cy u) t.heap ∧ kwX dC dI cy t ∧ va_D (va_A (wH h cy σ) sz) (wH h cy u)) (va_A (wH h cy σ) sz)) 0 0 (va_A (wH h cy σ) sz) := by
  refine Met.ofCx (own := RX3) (by decide) rfl (Nat.le_of_ble_eq_true rfl) ?_
  intro p e s m below meth c hC hv ls hl
  obtain ⟨hx, hb, hr, hml, hown, hts, hlocks⟩ := hC
  have hl : lv_has ls 1 [(0, .ref (h 16))] := hl
  obtain ⟨hsz, hP, hK, hD0⟩ := hv
  subst hsz
  have hD := hD0.self (sz := s.heap.size)
  generalize hAe : va_A (wH h cy σ) s.heap.size = A at hD ⊢
  have hA : ∀ q : Nat, s.heap.size ≤ q → A q := fun q h => by rw [← hAe]; exact Or.inr h
  have hS : va_S A s.heap s.heap [] := va_S.rf
  clear hAe
  unfold wp_X3_ways at hF
  refine lv_aload_n hx hb dX3_ways_0 rfl (lv_at hl 0 rfl) ?_
  refine va_get (D := (dC, dI)) (ci := 3) (v := .ref (h 12)) (C := RX3) (T := TX3) (N := 6) hx hb hts in_X3 hown hK.1 hP 16 rfl rfl 1 (by decide) (hts _ q142) (fun _ h9 => h9) rfl dX3_ways_1 ?_
  refine lv_aload_n hx hb dX3_ways_4 rfl (lv_at hl 0 rfl) ?_
  refine va_get (D := (dC, dI)) (ci := 3) (v := .int (σ.1 15)) (C := RX3) (T := TX3) (N := 6) hx hb hts in_X3 hown hK.1 hP 16 rfl rfl 4 (by decide) (hts _ q145) (fun _ h9 => h9) rfl dX3_ways_5 ?_
  have hPc := hP.sub (ws' := wW h cy σ) [0, 1, 2, 3, 4, 5, 6, 7, 8, 9, 10, 11, 12, 13, 14, 15] rfl
  have hDc := hD.sub (ws' := wW h cy σ) [0, 1, 2, 3, 4, 5, 6, 7, 8, 9, 10, 11, 12, 13, 14, 15] (by decide) rfl
  have hFc := va_free (wc := wW h cy σ) hD hS hA [0, 1, 2, 3, 4, 5, 6, 7, 8, 9, 10, 11, 12, 13, 14, 15] rfl
  refine cwVv (q0 := 12) (As := [.int (σ.1 15)]) (rest := []) ⟨hx, hb, hr, hml, hown, hts, hlocks⟩ hK hPc hDc rfl rfl hS hFc (m_X2_begin l dC dI h cy _ fu σ (σ.1 15) _ hF) k_X2_begin q232 ⟨rfl, rfl⟩ ⟨Nat.le_of_ble_eq_true rfl, Nat.le_of_ble_eq_true rfl⟩ hl.1 rfl rfl (Nat.le_of_ble_eq_true rfl) dX3_ways_8 ⟨Nat.le_of_ble_eq_true rfl, Nat.le_of_ble_eq_true rfl⟩ (fun u H1 locs hF hP1 hD1 hk1 hS => ?_)
  obtain ⟨s8, rfl⟩ : ∃ z, z = u := ⟨_, rfl⟩
  obtain ⟨hP, hD⟩ := va_join (wr := [(h 16, .inr (3, [.ref (h 0), .ref (h 12), .ref (h 17), .ref (h 19), .int (σ.1 15), .int (σ.1 16)])), (h 17, .inr (1, [.ref (h 18), .int (σ.1 17)])), (h 18, .inl (cy 0, 12, .inl (σ.2.1 8))), (h 19, .inr (1, [.ref (h 20), .int (σ.1 18)])), (h 20, .inl (cy 0, 12, .inl (σ.2.1 9)))]) (w1 := wW h cy s8) hP hD [0, 1, 2, 3, 4, 5, 6, 7, 8, 9, 10, 11, 12, 13, 14, 15] [16, 17, 18, 19, 20] rfl rfl (by decide) (by decide) hk1 hFc hP1 hD1
  have hP := hP.sub (ws' := wH h cy (mgX2 σ s8)) [5, 6, 7, 8, 9, 10, 11, 12, 13, 14, 15, 16, 17, 18, 19, 20, 0, 1, 2, 3, 4] rfl
  have hD := hD.sub (ws' := wH h cy (mgX2 σ s8)) [5, 6, 7, 8, 9, 10, 11, 12, 13, 14, 15, 16, 17, 18, 19, 20, 0, 1, 2, 3, 4] (by decide) rfl
  generalize H1 = H at hP hS ⊢
  have hP : va_P (dC, dI) classes (wH h cy (mgX2 σ s8)) H := hP
  have hD : va_D A (wH h cy (mgX2 σ s8)) := hD
  refine lv_aload_n hx hb dX3_ways_11 rfl (lv_at hl 0 rfl) ?_
  refine va_get (D := (dC, dI)) (ci := 3) (v := .ref (h 12)) (C := RX3) (T := TX3) (N := 6) hx hb hts in_X3 hown hK.1 hP 16 rfl rfl 1 (by decide) (hts _ q142) (fun _ h9 => h9) rfl dX3_ways_12 ?_
  refine lv_aload_n hx hb dX3_ways_15 rfl (lv_at hl 0 rfl) ?_
  refine va_get (D := (dC, dI)) (ci := 3) (v := .int (σ.1 16)) (C := RX3) (T := TX3) (N := 6) hx hb hts in_X3 hown hK.1 hP 16 rfl rfl 5 (by decide) (hts _ q146) (fun _ h9 => h9) rfl dX3_ways_16 ?_
  have hPc := hP.sub (ws' := wW h cy (mgX2 σ s8)) [0, 1, 2, 3, 4, 5, 6, 7, 8, 9, 10, 11, 12, 13, 14, 15] rfl
  refine cpVl (q0 := 12) (As := [.int (σ.1 16)]) (rest := []) ⟨hx, hb, hr, hml, hown, hts, hlocks⟩ hK hPc rfl rfl (m_X2_waysTo l dC dI h cy (mgX2 σ s8) (σ.1 16) _ hF) k_X2_waysTo q263 ⟨rfl, rfl⟩ ⟨Nat.le_of_ble_eq_true rfl, Nat.le_of_ble_eq_true rfl⟩ hl.1 rfl rfl (Nat.le_of_ble_eq_true rfl) dX3_ways_19 ⟨Nat.le_of_ble_eq_true rfl, Nat.le_of_ble_eq_true rfl⟩ (fun r19 hF => ?_)
  exact W.lret (v := r19) hx hb hr (fun t ht hW => ⟨⟨r19, mgX2 σ s8, rfl, hF, by rw [ht]; exact hP, hK.warm hW, hD⟩, hS.F ht⟩) hS.2.2 dX3_ways_22
