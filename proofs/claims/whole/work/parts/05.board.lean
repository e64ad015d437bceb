theorem dX0_isHole_0 : decode cX0_isHole 0 = .ok (.iload_n 1, 1) := by decide +kernel
theorem dX0_isHole_1 : decode cX0_isHole 1 = .ok (.ifCond .lt 25, 3) := by decide +kernel
theorem dX0_isHole_4 : decode cX0_isHole 4 = .ok (.iload_n 1, 1) := by decide +kernel
theorem dX0_isHole_5 : decode cX0_isHole 5 = .ok (.bipush 25, 2) := by decide +kernel
theorem dX0_isHole_7 : decode cX0_isHole 7 = .ok (.if_icmp .ge 19, 3) := by decide +kernel
theorem dX0_isHole_10 : decode cX0_isHole 10 = .ok (.aload_n 0, 1) := by decide +kernel
theorem dX0_isHole_11 : decode cX0_isHole 11 = .ok (.getfield 43, 3) := by decide +kernel
theorem dX0_isHole_14 : decode cX0_isHole 14 = .ok (.iload_n 1, 1) := by decide +kernel
theorem dX0_isHole_15 : decode cX0_isHole 15 = .ok (.ishr, 1) := by decide +kernel
theorem dX0_isHole_16 : decode cX0_isHole 16 = .ok (.iconst 1, 1) := by decide +kernel
theorem dX0_isHole_17 : decode cX0_isHole 17 = .ok (.iand, 1) := by decide +kernel
theorem dX0_isHole_18 : decode cX0_isHole 18 = .ok (.iconst 1, 1) := by decide +kernel
theorem dX0_isHole_19 : decode cX0_isHole 19 = .ok (.if_icmp .ne 7, 3) := by decide +kernel
theorem dX0_isHole_22 : decode cX0_isHole 22 = .ok (.iconst 1, 1) := by decide +kernel
theorem dX0_isHole_23 : decode cX0_isHole 23 = .ok (.goto 4, 3) := by decide +kernel
theorem dX0_isHole_26 : decode cX0_isHole 26 = .ok (.iconst 0, 1) := by decide +kernel
theorem dX0_isHole_27 : decode cX0_isHole 27 = .ok (.ireturn, 1) := by decide +kernel
def wp_X0_isHole (σ : SX) (x1 : Int32) (P : Int32 → Prop) : Prop := ((x1 < 0 → (P 0)) ∧ (¬ x1 < 0 → ((25 ≤ x1 → (P 0)) ∧ (¬ 25 ≤ x1 → ((¬ (((σ.1 1) >>> (x1 &&& 31)) &&& 1) = 1 → (P 0)) ∧ ((((σ.1 1) >>> (x1 &&& 31)) &&& 1) = 1 → (P 1)))))))
theorem k_X0_isHole : KV RX0 yX0_isHole cX0_isHole 2 (some .boolean) 1 := ⟨q188, q189, q2, q190, by decide +kernel⟩
set_option maxHeartbeats 4000000 in
set_option maxRecDepth 100000 in
theorem m_X0_isHole (l : Launch) (dC : Nat → ClassId) (dI : Nat → Nat → Nat) (h : Nat → Nat) (cy : Nat → ClassId) (σ : SX) (x1 : Int32) (P : Int32 → Prop) (hF : wp_X0_isHole σ x1 P) : Met l yX0_isHole (ws_ yX0_isHole cX0_isHole 2 (some .boolean)) ({ frames := 0, cells := 0, slots := 0, locals := 0 } : Room) (va_Pc [.ref (h 0), .int x1] (fun U => va_P (dC, dI) classes (wB h cy σ) U.heap ∧ kwX dC dI cy U)) (vp_Si P) 0 0 (fun _ => False) := by
  refine Met.ofCx (own := RX0) (by decide) rfl (Nat.le_of_ble_eq_true rfl) ?_
  intro p e s m below meth c hC hv ls hl
  obtain ⟨hx, hb, hr, hml, hown, hts, hlocks⟩ := hC
  have hl : lv_has ls 2 [(0, .ref (h 0)), (1, .int x1)] := hl
  obtain ⟨hP, hK⟩ := hv
  unfold wp_X0_isHole at hF
  refine lv_iload_n hx hb dX0_isHole_0 rfl (lv_at hl 1 rfl) ?_
  refine lv_if_lt (tgt := 26) hx hb dX0_isHole_1 (by decide) (fun cz => ?_) (fun cz => ?_)
  · have hF := hF.1 cz
    refine lv_iconst (v := 0) hx hb dX0_isHole_26 (by decide) ?_
    exact W.zret (v := 0) hx hb hr rfl (fun t ht hW => ⟨0, rfl, hF, ht⟩) (fun q hq => absurd hq List.not_mem_nil) dX0_isHole_27
  · have hF := hF.2 cz
    refine lv_iload_n hx hb dX0_isHole_4 rfl (lv_at hl 1 rfl) ?_
    refine lv_bipush (v := 25) hx hb dX0_isHole_5 (by decide) ?_
    refine lv_icmp_ge (tgt := 26) hx hb dX0_isHole_7 (by decide) (fun cz => ?_) (fun cz => ?_)
    · have hF := hF.1 cz
      refine lv_iconst (v := 0) hx hb dX0_isHole_26 (by decide) ?_
      exact W.zret (v := 0) hx hb hr rfl (fun t ht hW => ⟨0, rfl, hF, ht⟩) (fun q hq => absurd hq List.not_mem_nil) dX0_isHole_27
    · have hF := hF.2 cz
      refine lv_aload_n hx hb dX0_isHole_10 rfl (lv_at hl 0 rfl) ?_
      refine va_get (D := (dC, dI)) (ci := 0) (v := .int (σ.1 1)) (C := RX0) (T := TX0) (N := 8) hx hb hts in_X0 hown hK.1 hP 0 rfl rfl 1 (by decide) (hts _ q66) (fun _ h9 => h9) rfl dX0_isHole_11 ?_
      refine lv_iload_n hx hb dX0_isHole_14 rfl (lv_at hl 1 rfl) ?_
      refine lv_ishr hx hb dX0_isHole_15 ?_
      refine lv_iconst (v := 1) hx hb dX0_isHole_16 (by decide) ?_
      refine lv_iand hx hb dX0_isHole_17 ?_
      refine lv_iconst (v := 1) hx hb dX0_isHole_18 (by decide) ?_
      refine lv_icmp_ne (tgt := 26) hx hb dX0_isHole_19 (by decide) (fun cz => ?_) (fun cz => ?_)
      · have hF := hF.1 cz
        refine lv_iconst (v := 0) hx hb dX0_isHole_26 (by decide) ?_
        exact W.zret (v := 0) hx hb hr rfl (fun t ht hW => ⟨0, rfl, hF, ht⟩) (fun q hq => absurd hq List.not_mem_nil) dX0_isHole_27
      · have hF := hF.2 cz
        refine lv_iconst (v := 1) hx hb dX0_isHole_22 (by decide) ?_
        refine lv_goto (tgt := 27) hx hb dX0_isHole_23 (by decide) ?_
        exact W.zret (v := 1) hx hb hr rfl (fun t ht hW => ⟨1, rfl, hF, ht⟩) (fun q hq => absurd hq List.not_mem_nil) dX0_isHole_27
theorem dX0_numberOf_0 : decode cX0_numberOf 0 = .ok (.aload_n 0, 1) := by decide +kernel
theorem dX0_numberOf_1 : decode cX0_numberOf 1 = .ok (.iload_n 1, 1) := by decide +kernel
theorem dX0_numberOf_2 : decode cX0_numberOf 2 = .ok (.invokevirtual 53, 3) := by decide +kernel
theorem dX0_numberOf_5 : decode cX0_numberOf 5 = .ok (.ifCond .eq 19, 3) := by decide +kernel
theorem dX0_numberOf_8 : decode cX0_numberOf 8 = .ok (.aload_n 0, 1) := by decide +kernel
theorem dX0_numberOf_9 : decode cX0_numberOf 9 = .ok (.getfield 43, 3) := by decide +kernel
theorem dX0_numberOf_12 : decode cX0_numberOf 12 = .ok (.iconst 1, 1) := by decide +kernel
theorem dX0_numberOf_13 : decode cX0_numberOf 13 = .ok (.iload_n 1, 1) := by decide +kernel
theorem dX0_numberOf_14 : decode cX0_numberOf 14 = .ok (.ishl, 1) := by decide +kernel
theorem dX0_numberOf_15 : decode cX0_numberOf 15 = .ok (.iconst 1, 1) := by decide +kernel
theorem dX0_numberOf_16 : decode cX0_numberOf 16 = .ok (.isub, 1) := by decide +kernel
theorem dX0_numberOf_17 : decode cX0_numberOf 17 = .ok (.iand, 1) := by decide +kernel
theorem dX0_numberOf_18 : decode cX0_numberOf 18 = .ok (.invokestatic 87, 3) := by decide +kernel
theorem dX0_numberOf_21 : decode cX0_numberOf 21 = .ok (.goto 4, 3) := by decide +kernel
theorem dX0_numberOf_24 : decode cX0_numberOf 24 = .ok (.iconst (-1), 1) := by decide +kernel
theorem dX0_numberOf_25 : decode cX0_numberOf 25 = .ok (.ireturn, 1) := by decide +kernel
def wp_X0_numberOf (σ : SX) (x1 : Int32) (P : Int32 → Prop) : Prop := (wp_X0_isHole σ x1 (fun r2 => ((r2 = 0 → (P (-1))) ∧ (¬ r2 = 0 → (wp_J6_bitCount_0f7a4 ((σ.1 1) &&& (((1 : Int32) <<< (x1 &&& 31)) - 1)) (fun r18 => (P r18)))))))
theorem k_X0_numberOf : KV RX0 yX0_numberOf cX0_numberOf 2 (some .int) 1 := ⟨q483, q484, q2, q485, by decide +kernel⟩
set_option maxHeartbeats 4000000 in
set_option maxRecDepth 100000 in
theorem m_X0_numberOf (l : Launch) (dC : Nat → ClassId) (dI : Nat → Nat → Nat) (h : Nat → Nat) (cy : Nat → ClassId) (σ : SX) (x1 : Int32) (P : Int32 → Prop) (hF : wp_X0_numberOf σ x1 P) : Met l yX0_numberOf (ws_ yX0_numberOf cX0_numberOf 2 (some .int)) ({ frames := 1, cells := 0, slots := 0, locals := 21 } : Room) (va_Pc [.ref (h 0), .int x1] (fun U => va_P (dC, dI) classes (wB h cy σ) U.heap ∧ kwX dC dI cy U)) (vp_Si P) 0 0 (fun _ => False) := by
  refine Met.ofCx (own := RX0) (by decide) rfl (Nat.le_of_ble_eq_true rfl) ?_
  intro p e s m below meth c hC hv ls hl
  obtain ⟨hx, hb, hr, hml, hown, hts, hlocks⟩ := hC
  have hl : lv_has ls 2 [(0, .ref (h 0)), (1, .int x1)] := hl
  obtain ⟨hP, hK⟩ := hv
  unfold wp_X0_numberOf at hF
  refine lv_aload_n hx hb dX0_numberOf_0 rfl (lv_at hl 0 rfl) ?_
  refine lv_iload_n hx hb dX0_numberOf_1 rfl (lv_at hl 1 rfl) ?_
  refine cpVi (q0 := 0) (As := [.int x1]) (rest := []) ⟨hx, hb, hr, hml, hown, hts, hlocks⟩ hK hP rfl rfl (m_X0_isHole l dC dI h cy σ x1 _ hF) k_X0_isHole q187 ⟨rfl, rfl⟩ ⟨Nat.le_of_ble_eq_true rfl, Nat.le_of_ble_eq_true rfl⟩ hl.1 rfl rfl (Nat.le_of_ble_eq_true rfl) dX0_numberOf_2 ⟨Nat.le_of_ble_eq_true rfl, Nat.le_of_ble_eq_true rfl⟩ (fun r2 hF => ?_)
  refine lv_if_eq (tgt := 24) hx hb dX0_numberOf_5 (by decide) (fun cz => ?_) (fun cz => ?_)
  · have hF := hF.1 cz
    refine lv_iconst (v := (-1)) hx hb dX0_numberOf_24 (by decide) ?_
    exact W.iret (v := (-1)) hx hb hr (fun t ht hW => ⟨(-1), rfl, hF, ht⟩) (fun q hq => absurd hq List.not_mem_nil) dX0_numberOf_25
  · have hF := hF.2 cz
    refine lv_aload_n hx hb dX0_numberOf_8 rfl (lv_at hl 0 rfl) ?_
    refine va_get (D := (dC, dI)) (ci := 0) (v := .int (σ.1 1)) (C := RX0) (T := TX0) (N := 8) hx hb hts in_X0 hown hK.1 hP 0 rfl rfl 1 (by decide) (hts _ q66) (fun _ h9 => h9) rfl dX0_numberOf_9 ?_
    refine lv_iconst (v := 1) hx hb dX0_numberOf_12 (by decide) ?_
    refine lv_iload_n hx hb dX0_numberOf_13 rfl (lv_at hl 1 rfl) ?_
    refine lv_ishl hx hb dX0_numberOf_14 ?_
    refine lv_iconst (v := 1) hx hb dX0_numberOf_15 (by decide) ?_
    refine lv_isub hx hb dX0_numberOf_16 ?_
    refine lv_iand hx hb dX0_numberOf_17 ?_
    refine cpSi (As := [.int ((σ.1 1) &&& (((1 : Int32) <<< (x1 &&& 31)) - 1))]) (rest := []) ⟨hx, hb, hr, hml, hown, hts, hlocks⟩ (m_J6_bitCount_0f7a4 l ((σ.1 1) &&& (((1 : Int32) <<< (x1 &&& 31)) - 1)) _ hF) k_J6_bitCount_0f7a4 q486 ⟨rfl, rfl⟩ ⟨Nat.le_of_ble_eq_true rfl, Nat.le_of_ble_eq_true rfl⟩ hl.1 rfl rfl (Nat.le_of_ble_eq_true rfl) dX0_numberOf_18 ⟨Nat.le_of_ble_eq_true rfl, Nat.le_of_ble_eq_true rfl⟩ (fun r18 hF => ?_)
    refine lv_goto (tgt := 25) hx hb dX0_numberOf_21 (by decide) ?_
    exact W.iret (v := r18) hx hb hr (fun t ht hW => ⟨r18, rfl, hF, ht⟩) (fun q hq => absurd hq List.not_mem_nil) dX0_numberOf_25
theorem dX0_addLine_0 : decode cX0_addLine 0 = .ok (.aload_n 0, 1) := by decide +kernel
theorem dX0_addLine_1 : decode cX0_addLine 1 = .ok (.aload_n 0, 1) := by decide +kernel
theorem dX0_addLine_2 : decode cX0_addLine 2 = .ok (.getfield 24, 3) := by decide +kernel
theorem dX0_addLine_5 : decode cX0_addLine 5 = .ok (.iload_n 1, 1) := by decide +kernel
theorem dX0_addLine_6 : decode cX0_addLine 6 = .ok (.invokevirtual 64, 3) := by decide +kernel
theorem dX0_addLine_9 : decode cX0_addLine 9 = .ok (.aload_n 0, 1) := by decide +kernel
theorem dX0_addLine_10 : decode cX0_addLine 10 = .ok (.getfield 24, 3) := by decide +kernel
theorem dX0_addLine_13 : decode cX0_addLine 13 = .ok (.iload_n 2, 1) := by decide +kernel
theorem dX0_addLine_14 : decode cX0_addLine 14 = .ok (.invokevirtual 64, 3) := by decide +kernel
theorem dX0_addLine_17 : decode cX0_addLine 17 = .ok (.iadd, 1) := by decide +kernel
theorem dX0_addLine_18 : decode cX0_addLine 18 = .ok (.iconst 2, 1) := by decide +kernel
theorem dX0_addLine_19 : decode cX0_addLine 19 = .ok (.idiv, 1) := by decide +kernel
theorem dX0_addLine_20 : decode cX0_addLine 20 = .ok (.invokevirtual 76, 3) := by decide +kernel
theorem dX0_addLine_23 : decode cX0_addLine 23 = .ok (.istore_n 3, 1) := by decide +kernel
theorem dX0_addLine_24 : decode cX0_addLine 24 = .ok (.iconst 1, 1) := by decide +kernel
theorem dX0_addLine_25 : decode cX0_addLine 25 = .ok (.iload_n 1, 1) := by decide +kernel
theorem dX0_addLine_26 : decode cX0_addLine 26 = .ok (.ishl, 1) := by decide +kernel
theorem dX0_addLine_27 : decode cX0_addLine 27 = .ok (.iconst 1, 1) := by decide +kernel
theorem dX0_addLine_28 : decode cX0_addLine 28 = .ok (.iload_n 3, 1) := by decide +kernel
theorem dX0_addLine_29 : decode cX0_addLine 29 = .ok (.ishl, 1) := by decide +kernel
theorem dX0_addLine_30 : decode cX0_addLine 30 = .ok (.ior, 1) := by decide +kernel
theorem dX0_addLine_31 : decode cX0_addLine 31 = .ok (.istore 4, 2) := by decide +kernel
theorem dX0_addLine_33 : decode cX0_addLine 33 = .ok (.aload_n 0, 1) := by decide +kernel
theorem dX0_addLine_34 : decode cX0_addLine 34 = .ok (.getfield 28, 3) := by decide +kernel
theorem dX0_addLine_37 : decode cX0_addLine 37 = .ok (.iload_n 1, 1) := by decide +kernel
theorem dX0_addLine_38 : decode cX0_addLine 38 = .ok (.bipush 100, 2) := by decide +kernel
theorem dX0_addLine_40 : decode cX0_addLine 40 = .ok (.imul, 1) := by decide +kernel
theorem dX0_addLine_41 : decode cX0_addLine 41 = .ok (.iload_n 2, 1) := by decide +kernel
theorem dX0_addLine_42 : decode cX0_addLine 42 = .ok (.iadd, 1) := by decide +kernel
theorem dX0_addLine_43 : decode cX0_addLine 43 = .ok (.invokevirtual 57, 3) := by decide +kernel
theorem dX0_addLine_46 : decode cX0_addLine 46 = .ok (.aload_n 0, 1) := by decide +kernel
theorem dX0_addLine_47 : decode cX0_addLine 47 = .ok (.getfield 31, 3) := by decide +kernel
theorem dX0_addLine_50 : decode cX0_addLine 50 = .ok (.iload_n 3, 1) := by decide +kernel
theorem dX0_addLine_51 : decode cX0_addLine 51 = .ok (.invokevirtual 57, 3) := by decide +kernel
theorem dX0_addLine_54 : decode cX0_addLine 54 = .ok (.aload_n 0, 1) := by decide +kernel
theorem dX0_addLine_55 : decode cX0_addLine 55 = .ok (.getfield 34, 3) := by decide +kernel
theorem dX0_addLine_58 : decode cX0_addLine 58 = .ok (.iload 4, 2) := by decide +kernel
theorem dX0_addLine_60 : decode cX0_addLine 60 = .ok (.invokevirtual 57, 3) := by decide +kernel
theorem dX0_addLine_63 : decode cX0_addLine 63 = .ok (.aload_n 0, 1) := by decide +kernel
theorem dX0_addLine_64 : decode cX0_addLine 64 = .ok (.getfield 37, 3) := by decide +kernel
theorem dX0_addLine_67 : decode cX0_addLine 67 = .ok (.iload 4, 2) := by decide +kernel
theorem dX0_addLine_69 : decode cX0_addLine 69 = .ok (.iconst 1, 1) := by decide +kernel
theorem dX0_addLine_70 : decode cX0_addLine 70 = .ok (.iload_n 2, 1) := by decide +kernel
theorem dX0_addLine_71 : decode cX0_addLine 71 = .ok (.ishl, 1) := by decide +kernel
theorem dX0_addLine_72 : decode cX0_addLine 72 = .ok (.ior, 1) := by decide +kernel
theorem dX0_addLine_73 : decode cX0_addLine 73 = .ok (.invokevirtual 57, 3) := by decide +kernel
theorem dX0_addLine_76 : decode cX0_addLine 76 = .ok (.return_, 1) := by decide +kernel
def wp_X0_addLine (σ : SX) (x1 : Int32) (x2 : Int32) (P : SX → Prop) : Prop := (wp_X1_at 13 (σ.2.1 1) (σ.1 2) x1 (fun r6 => (wp_X1_at 13 (σ.2.1 1) (σ.1 2) x2 (fun r14 => (wp_X0_numberOf σ ((r6 + r14) / 2) (fun r20 => (wp_X1_add 104 (σ.2.1 2) (σ.1 3) ((x1 * 100) + x2) (fun f43 n43 => (wp_X1_add 104 (σ.2.1 3) (σ.1 4) r20 (fun f51 n51 => (wp_X1_add 104 (σ.2.1 4) (σ.1 5) (((1 : Int32) <<< (x1 &&& 31)) ||| ((1 : Int32) <<< (r20 &&& 31))) (fun f60 n60 => (wp_X1_add 104 (σ.2.1 5) (σ.1 6) ((((1 : Int32) <<< (x1 &&& 31)) ||| ((1 : Int32) <<< (r20 &&& 31))) ||| ((1 : Int32) <<< (x2 &&& 31))) (fun f73 n73 => (P (sI (sA (sI (sA (sI (sA (sI (sA σ 2 f43) 3 n43) 3 f51) 4 n51) 4 f60) 5 n60) 5 f73) 6 n73))))))))))))))))
theorem k_X0_addLine : KV RX0 yX0_addLine cX0_addLine 5 none 2 := ⟨q480, qs12, q2, q481, by decide +kernel⟩
set_option maxHeartbeats 4000000 in
set_option maxRecDepth 100000 in
theorem m_X0_addLine (l : Launch) (dC : Nat → ClassId) (dI : Nat → Nat → Nat) (h : Nat → Nat) (cy : Nat → ClassId) (sz : Nat) (σ : SX) (x1 : Int32) (x2 : Int32) (P : SX → Prop) (hF : wp_X0_addLine σ x1 x2 P) : Met l yX0_addLine (ws_ yX0_addLine cX0_addLine 5 none) ({ frames := 2, cells := 0, slots := 0, locals := 42 } : Room) (va_Pc [.ref (h 0), .int x1, .int x2] (fun U => U.heap.size = sz ∧ va_P (dC, dI) classes (wB h cy σ) U.heap ∧ kwX dC dI cy U ∧ va_D (fun _ => True) (wB h cy σ))) (va_Qv (fun u => P u) (fun (u : SX) t => va_P (dC, dI) classes (wB h cy u) t.heap ∧ kwX dC dI cy t ∧ va_D (va_A (wB h cy σ) sz) (wB h cy u)) (va_A (wB h cy σ) sz)) 0 0 (va_A (wB h cy σ) sz) := by
  refine Met.ofCx (own := RX0) (by decide) rfl (Nat.le_of_ble_eq_true rfl) ?_
  intro p e s m below meth c hC hv ls hl
  obtain ⟨hx, hb, hr, hml, hown, hts, hlocks⟩ := hC
  have hl : lv_has ls 5 [(0, .ref (h 0)), (1, .int x1), (2, .int x2)] := hl
  obtain ⟨hsz, hP, hK, hD0⟩ := hv
  subst hsz
  have hD := hD0.self (sz := s.heap.size)
  generalize hAe : va_A (wB h cy σ) s.heap.size = A at hD ⊢
  have hA : ∀ q : Nat, s.heap.size ≤ q → A q := fun q h => by rw [← hAe]; exact Or.inr h
  have hS : va_S A s.heap s.heap [] := va_S.rf
  clear hAe
  unfold wp_X0_addLine at hF
  refine lv_aload_n hx hb dX0_addLine_0 rfl (lv_at hl 0 rfl) ?_
  refine lv_aload_n hx hb dX0_addLine_1 rfl (lv_at hl 0 rfl) ?_
  refine va_get (D := (dC, dI)) (ci := 0) (v := .ref (h 2)) (C := RX0) (T := TX0) (N := 8) hx hb hts in_X0 hown hK.1 hP 0 rfl rfl 3 (by decide) (hts _ q68) (fun _ h9 => h9) rfl dX0_addLine_2 ?_
  refine lv_iload_n hx hb dX0_addLine_5 rfl (lv_at hl 1 rfl) ?_
  have hPc := hP.sub (ws' := wR (h 2) (h 3) cy 13 (σ.2.1 1) (σ.1 2)) [2, 3] rfl
  refine cpVi (q0 := 0) (As := [.int x1]) (rest := [.ref (h 0)]) ⟨hx, hb, hr, hml, hown, hts, hlocks⟩ hK hPc rfl rfl (m_X1_at l dC dI (h 2) (h 3) cy 13 (σ.2.1 1) (σ.1 2) x1 _ hF) k_X1_at q180 ⟨rfl, rfl⟩ ⟨Nat.le_of_ble_eq_true rfl, Nat.le_of_ble_eq_true rfl⟩ hl.1 rfl rfl (Nat.le_of_ble_eq_true rfl) dX0_addLine_6 ⟨Nat.le_of_ble_eq_true rfl, Nat.le_of_ble_eq_true rfl⟩ (fun r6 hF => ?_)
  refine lv_aload_n hx hb dX0_addLine_9 rfl (lv_at hl 0 rfl) ?_
  refine va_get (D := (dC, dI)) (ci := 0) (v := .ref (h 2)) (C := RX0) (T := TX0) (N := 8) hx hb hts in_X0 hown hK.1 hP 0 rfl rfl 3 (by decide) (hts _ q68) (fun _ h9 => h9) rfl dX0_addLine_10 ?_
  refine lv_iload_n hx hb dX0_addLine_13 rfl (lv_at hl 2 rfl) ?_
  have hPc := hP.sub (ws' := wR (h 2) (h 3) cy 13 (σ.2.1 1) (σ.1 2)) [2, 3] rfl
  refine cpVi (q0 := 0) (As := [.int x2]) (rest := [.int r6, .ref (h 0)]) ⟨hx, hb, hr, hml, hown, hts, hlocks⟩ hK hPc rfl rfl (m_X1_at l dC dI (h 2) (h 3) cy 13 (σ.2.1 1) (σ.1 2) x2 _ hF) k_X1_at q180 ⟨rfl, rfl⟩ ⟨Nat.le_of_ble_eq_true rfl, Nat.le_of_ble_eq_true rfl⟩ hl.1 rfl rfl (Nat.le_of_ble_eq_true rfl) dX0_addLine_14 ⟨Nat.le_of_ble_eq_true rfl, Nat.le_of_ble_eq_true rfl⟩ (fun r14 hF => ?_)
  refine lv_iadd hx hb dX0_addLine_17 ?_
  refine lv_iconst (v := 2) hx hb dX0_addLine_18 (by decide) ?_
  refine lv_idiv hx hb dX0_addLine_19 (by decide) ?_
  refine cpVi (q0 := 0) (As := [.int ((r6 + r14) / 2)]) (rest := []) ⟨hx, hb, hr, hml, hown, hts, hlocks⟩ hK hP rfl rfl (m_X0_numberOf l dC dI h cy σ ((r6 + r14) / 2) _ hF) k_X0_numberOf q482 ⟨rfl, rfl⟩ ⟨Nat.le_of_ble_eq_true rfl, Nat.le_of_ble_eq_true rfl⟩ hl.1 rfl rfl (Nat.le_of_ble_eq_true rfl) dX0_addLine_20 ⟨Nat.le_of_ble_eq_true rfl, Nat.le_of_ble_eq_true rfl⟩ (fun r20 hF => ?_)
  refine lv_istore_n (lv' := [(3, .int r20), (0, .ref (h 0)), (1, .int x1), (2, .int x2)]) hx hb dX0_addLine_23 rfl hl (by decide) rfl (fun ls hl => ?_)
  refine lv_iconst (v := 1) hx hb dX0_addLine_24 (by decide) ?_
  refine lv_iload_n hx hb dX0_addLine_25 rfl (lv_at hl 2 rfl) ?_
  refine lv_ishl hx hb dX0_addLine_26 ?_
  refine lv_iconst (v := 1) hx hb dX0_addLine_27 (by decide) ?_
  refine lv_iload_n hx hb dX0_addLine_28 rfl (lv_at hl 0 rfl) ?_
  refine lv_ishl hx hb dX0_addLine_29 ?_
  refine lv_ior hx hb dX0_addLine_30 ?_
  refine lv_istore (lv' := [(4, .int (((1 : Int32) <<< (x1 &&& 31)) ||| ((1 : Int32) <<< (r20 &&& 31)))), (3, .int r20), (0, .ref (h 0)), (1, .int x1), (2, .int x2)]) hx hb dX0_addLine_31 hl (by decide) rfl (fun ls hl => ?_)
  refine lv_aload_n hx hb dX0_addLine_33 rfl (lv_at hl 2 rfl) ?_
  refine va_get (D := (dC, dI)) (ci := 0) (v := .ref (h 4)) (C := RX0) (T := TX0) (N := 8) hx hb hts in_X0 hown hK.1 hP 0 rfl rfl 4 (by decide) (hts _ q69) (fun _ h9 => h9) rfl dX0_addLine_34 ?_
  refine lv_iload_n hx hb dX0_addLine_37 rfl (lv_at hl 3 rfl) ?_
  refine lv_bipush (v := 100) hx hb dX0_addLine_38 (by decide) ?_
  refine lv_imul hx hb dX0_addLine_40 ?_
  refine lv_iload_n hx hb dX0_addLine_41 rfl (lv_at hl 4 rfl) ?_
  refine lv_iadd hx hb dX0_addLine_42 ?_
  have hPc := hP.sub (ws' := wR (h 4) (h 5) cy 104 (σ.2.1 2) (σ.1 3)) [4, 5] rfl
  have hDc := hD.sub (ws' := wR (h 4) (h 5) cy 104 (σ.2.1 2) (σ.1 3)) [4, 5] (by decide) rfl
  have hFc := va_free (wc := wR (h 4) (h 5) cy 104 (σ.2.1 2) (σ.1 3)) hD hS hA [4, 5] rfl
  refine cwVv (q0 := 0) (As := [.int ((x1 * 100) + x2)]) (rest := []) ⟨hx, hb, hr, hml, hown, hts, hlocks⟩ hK hPc hDc rfl rfl hS hFc (m_X1_add l dC dI (h 4) (h 5) cy _ 104 (σ.2.1 2) (σ.1 3) ((x1 * 100) + x2) _ hF) k_X1_add q487 ⟨rfl, rfl⟩ ⟨Nat.le_of_ble_eq_true rfl, Nat.le_of_ble_eq_true rfl⟩ hl.1 rfl rfl (Nat.le_of_ble_eq_true rfl) dX0_addLine_43 ⟨Nat.le_of_ble_eq_true rfl, Nat.le_of_ble_eq_true rfl⟩ (fun u H1 locs hF hP1 hD1 hk1 hS => ?_)
  obtain ⟨f43, n43⟩ := u
  obtain ⟨hP, hD⟩ := va_join (wr := [(h 0, .inr (0, [.int (σ.1 0), .int (σ.1 1), .ref (h 1), .ref (h 2), .ref (h 4), .ref (h 6), .ref (h 8), .ref (h 10)])), (h 1, .inl (cy 0, 25, .inl (σ.2.1 0))), (h 2, .inr (1, [.ref (h 3), .int (σ.1 2)])), (h 3, .inl (cy 0, 13, .inl (σ.2.1 1))), (h 6, .inr (1, [.ref (h 7), .int (σ.1 4)])), (h 7, .inl (cy 0, 104, .inl (σ.2.1 3))), (h 8, .inr (1, [.ref (h 9), .int (σ.1 5)])), (h 9, .inl (cy 0, 104, .inl (σ.2.1 4))), (h 10, .inr (1, [.ref (h 11), .int (σ.1 6)])), (h 11, .inl (cy 0, 104, .inl (σ.2.1 5)))]) (w1 := wR (h 4) (h 5) cy 104 f43 n43) hP hD [4, 5] [0, 1, 2, 3, 6, 7, 8, 9, 10, 11] rfl rfl (by decide) (by decide) hk1 hFc hP1 hD1
  have hP := hP.sub (ws' := wB h cy (sI (sA σ 2 f43) 3 n43)) [0, 1, 2, 3, 10, 11, 4, 5, 6, 7, 8, 9] rfl
  have hD := hD.sub (ws' := wB h cy (sI (sA σ 2 f43) 3 n43)) [0, 1, 2, 3, 10, 11, 4, 5, 6, 7, 8, 9] (by decide) rfl
  generalize H1 = H at hP hS ⊢
  have hP : va_P (dC, dI) classes (wB h cy (sI (sA σ 2 f43) 3 n43)) H := hP
  have hD : va_D A (wB h cy (sI (sA σ 2 f43) 3 n43)) := hD
  refine lv_aload_n hx hb dX0_addLine_46 rfl (lv_at hl 2 rfl) ?_
  refine va_get (D := (dC, dI)) (ci := 0) (v := .ref (h 6)) (C := RX0) (T := TX0) (N := 8) hx hb hts in_X0 hown hK.1 hP 0 rfl rfl 5 (by decide) (hts _ q70) (fun _ h9 => h9) rfl dX0_addLine_47 ?_
  refine lv_iload_n hx hb dX0_addLine_50 rfl (lv_at hl 1 rfl) ?_
  have hPc := hP.sub (ws' := wR (h 6) (h 7) cy 104 (σ.2.1 3) (σ.1 4)) [6, 7] rfl
  have hDc := hD.sub (ws' := wR (h 6) (h 7) cy 104 (σ.2.1 3) (σ.1 4)) [6, 7] (by decide) rfl
  have hFc := va_free (wc := wR (h 6) (h 7) cy 104 (σ.2.1 3) (σ.1 4)) hD hS hA [6, 7] rfl
  refine cwVv (q0 := 0) (As := [.int r20]) (rest := []) ⟨hx, hb, hr, hml, hown, hts, hlocks⟩ hK hPc hDc rfl rfl hS hFc (m_X1_add l dC dI (h 6) (h 7) cy _ 104 (σ.2.1 3) (σ.1 4) r20 _ hF) k_X1_add q487 ⟨rfl, rfl⟩ ⟨Nat.le_of_ble_eq_true rfl, Nat.le_of_ble_eq_true rfl⟩ hl.1 rfl rfl (Nat.le_of_ble_eq_true rfl) dX0_addLine_51 ⟨Nat.le_of_ble_eq_true rfl, Nat.le_of_ble_eq_true rfl⟩ (fun u H1 locs hF hP1 hD1 hk1 hS => ?_)
  obtain ⟨f51, n51⟩ := u
  obtain ⟨hP, hD⟩ := va_join (wr := [(h 0, .inr (0, [.int (σ.1 0), .int (σ.1 1), .ref (h 1), .ref (h 2), .ref (h 4), .ref (h 6), .ref (h 8), .ref (h 10)])), (h 1, .inl (cy 0, 25, .inl (σ.2.1 0))), (h 2, .inr (1, [.ref (h 3), .int (σ.1 2)])), (h 3, .inl (cy 0, 13, .inl (σ.2.1 1))), (h 4, .inr (1, [.ref (h 5), .int (n43)])), (h 5, .inl (cy 0, 104, .inl (f43))), (h 8, .inr (1, [.ref (h 9), .int (σ.1 5)])), (h 9, .inl (cy 0, 104, .inl (σ.2.1 4))), (h 10, .inr (1, [.ref (h 11), .int (σ.1 6)])), (h 11, .inl (cy 0, 104, .inl (σ.2.1 5)))]) (w1 := wR (h 6) (h 7) cy 104 f51 n51) hP hD [6, 7] [0, 1, 2, 3, 4, 5, 8, 9, 10, 11] rfl rfl (by decide) (by decide) hk1 hFc hP1 hD1
  have hP := hP.sub (ws' := wB h cy (sI (sA (sI (sA σ 2 f43) 3 n43) 3 f51) 4 n51)) [0, 1, 2, 3, 4, 5, 10, 11, 6, 7, 8, 9] rfl
  have hD := hD.sub (ws' := wB h cy (sI (sA (sI (sA σ 2 f43) 3 n43) 3 f51) 4 n51)) [0, 1, 2, 3, 4, 5, 10, 11, 6, 7, 8, 9] (by decide) rfl
  generalize H1 = H at hP hS ⊢
  have hP : va_P (dC, dI) classes (wB h cy (sI (sA (sI (sA σ 2 f43) 3 n43) 3 f51) 4 n51)) H := hP
  have hD : va_D A (wB h cy (sI (sA (sI (sA σ 2 f43) 3 n43) 3 f51) 4 n51)) := hD
  refine lv_aload_n hx hb dX0_addLine_54 rfl (lv_at hl 2 rfl) ?_
  refine va_get (D := (dC, dI)) (ci := 0) (v := .ref (h 8)) (C := RX0) (T := TX0) (N := 8) hx hb hts in_X0 hown hK.1 hP 0 rfl rfl 6 (by decide) (hts _ q71) (fun _ h9 => h9) rfl dX0_addLine_55 ?_
  refine lv_iload hx hb dX0_addLine_58 (lv_at hl 0 rfl) ?_
  have hPc := hP.sub (ws' := wR (h 8) (h 9) cy 104 (σ.2.1 4) (σ.1 5)) [8, 9] rfl
  have hDc := hD.sub (ws' := wR (h 8) (h 9) cy 104 (σ.2.1 4) (σ.1 5)) [8, 9] (by decide) rfl
  have hFc := va_free (wc := wR (h 8) (h 9) cy 104 (σ.2.1 4) (σ.1 5)) hD hS hA [8, 9] rfl
  refine cwVv (q0 := 0) (As := [.int (((1 : Int32) <<< (x1 &&& 31)) ||| ((1 : Int32) <<< (r20 &&& 31)))]) (rest := []) ⟨hx, hb, hr, hml, hown, hts, hlocks⟩ hK hPc hDc rfl rfl hS hFc (m_X1_add l dC dI (h 8) (h 9) cy _ 104 (σ.2.1 4) (σ.1 5) (((1 : Int32) <<< (x1 &&& 31)) ||| ((1 : Int32) <<< (r20 &&& 31))) _ hF) k_X1_add q487 ⟨rfl, rfl⟩ ⟨Nat.le_of_ble_eq_true rfl, Nat.le_of_ble_eq_true rfl⟩ hl.1 rfl rfl (Nat.le_of_ble_eq_true rfl) dX0_addLine_60 ⟨Nat.le_of_ble_eq_true rfl, Nat.le_of_ble_eq_true rfl⟩ (fun u H1 locs hF hP1 hD1 hk1 hS => ?_)
  obtain ⟨f60, n60⟩ := u
  obtain ⟨hP, hD⟩ := va_join (wr := [(h 0, .inr (0, [.int (σ.1 0), .int (σ.1 1), .ref (h 1), .ref (h 2), .ref (h 4), .ref (h 6), .ref (h 8), .ref (h 10)])), (h 1, .inl (cy 0, 25, .inl (σ.2.1 0))), (h 2, .inr (1, [.ref (h 3), .int (σ.1 2)])), (h 3, .inl (cy 0, 13, .inl (σ.2.1 1))), (h 4, .inr (1, [.ref (h 5), .int (n43)])), (h 5, .inl (cy 0, 104, .inl (f43))), (h 6, .inr (1, [.ref (h 7), .int (n51)])), (h 7, .inl (cy 0, 104, .inl (f51))), (h 10, .inr (1, [.ref (h 11), .int (σ.1 6)])), (h 11, .inl (cy 0, 104, .inl (σ.2.1 5)))]) (w1 := wR (h 8) (h 9) cy 104 f60 n60) hP hD [8, 9] [0, 1, 2, 3, 4, 5, 6, 7, 10, 11] rfl rfl (by decide) (by decide) hk1 hFc hP1 hD1
  have hP := hP.sub (ws' := wB h cy (sI (sA (sI (sA (sI (sA σ 2 f43) 3 n43) 3 f51) 4 n51) 4 f60) 5 n60)) [0, 1, 2, 3, 4, 5, 6, 7, 10, 11, 8, 9] rfl
  have hD := hD.sub (ws' := wB h cy (sI (sA (sI (sA (sI (sA σ 2 f43) 3 n43) 3 f51) 4 n51) 4 f60) 5 n60)) [0, 1, 2, 3, 4, 5, 6, 7, 10, 11, 8, 9] (by decide) rfl
  generalize H1 = H at hP hS ⊢
  have hP : va_P (dC, dI) classes (wB h cy (sI (sA (sI (sA (sI (sA σ 2 f43) 3 n43) 3 f51) 4 n51) 4 f60) 5 n60)) H := hP
  have hD : va_D A (wB h cy (sI (sA (sI (sA (sI (sA σ 2 f43) 3 n43) 3 f51) 4 n51) 4 f60) 5 n60)) := hD
  refine lv_aload_n hx hb dX0_addLine_63 rfl (lv_at hl 2 rfl) ?_
  refine va_get (D := (dC, dI)) (ci := 0) (v := .ref (h 10)) (C := RX0) (T := TX0) (N := 8) hx hb hts in_X0 hown hK.1 hP 0 rfl rfl 7 (by decide) (hts _ q72) (fun _ h9 => h9) rfl dX0_addLine_64 ?_
  refine lv_iload hx hb dX0_addLine_67 (lv_at hl 0 rfl) ?_
  refine lv_iconst (v := 1) hx hb dX0_addLine_69 (by decide) ?_
  refine lv_iload_n hx hb dX0_addLine_70 rfl (lv_at hl 4 rfl) ?_
  refine lv_ishl hx hb dX0_addLine_71 ?_
  refine lv_ior hx hb dX0_addLine_72 ?_
  have hPc := hP.sub (ws' := wR (h 10) (h 11) cy 104 (σ.2.1 5) (σ.1 6)) [10, 11] rfl
  have hDc := hD.sub (ws' := wR (h 10) (h 11) cy 104 (σ.2.1 5) (σ.1 6)) [10, 11] (by decide) rfl
  have hFc := va_free (wc := wR (h 10) (h 11) cy 104 (σ.2.1 5) (σ.1 6)) hD hS hA [10, 11] rfl
  refine cwVv (q0 := 0) (As := [.int ((((1 : Int32) <<< (x1 &&& 31)) ||| ((1 : Int32) <<< (r20 &&& 31))) ||| ((1 : Int32) <<< (x2 &&& 31)))]) (rest := []) ⟨hx, hb, hr, hml, hown, hts, hlocks⟩ hK hPc hDc rfl rfl hS hFc (m_X1_add l dC dI (h 10) (h 11) cy _ 104 (σ.2.1 5) (σ.1 6) ((((1 : Int32) <<< (x1 &&& 31)) ||| ((1 : Int32) <<< (r20 &&& 31))) ||| ((1 : Int32) <<< (x2 &&& 31))) _ hF) k_X1_add q487 ⟨rfl, rfl⟩ ⟨Nat.le_of_ble_eq_true rfl, Nat.le_of_ble_eq_true rfl⟩ hl.1 rfl rfl (Nat.le_of_ble_eq_true rfl) dX0_addLine_73 ⟨Nat.le_of_ble_eq_true rfl, Nat.le_of_ble_eq_true rfl⟩ (fun u H1 locs hF hP1 hD1 hk1 hS => ?_)
  obtain ⟨f73, n73⟩ := u
  obtain ⟨hP, hD⟩ := va_join (wr := [(h 0, .inr (0, [.int (σ.1 0), .int (σ.1 1), .ref (h 1), .ref (h 2), .ref (h 4), .ref (h 6), .ref (h 8), .ref (h 10)])), (h 1, .inl (cy 0, 25, .inl (σ.2.1 0))), (h 2, .inr (1, [.ref (h 3), .int (σ.1 2)])), (h 3, .inl (cy 0, 13, .inl (σ.2.1 1))), (h 4, .inr (1, [.ref (h 5), .int (n43)])), (h 5, .inl (cy 0, 104, .inl (f43))), (h 6, .inr (1, [.ref (h 7), .int (n51)])), (h 7, .inl (cy 0, 104, .inl (f51))), (h 8, .inr (1, [.ref (h 9), .int (n60)])), (h 9, .inl (cy 0, 104, .inl (f60)))]) (w1 := wR (h 10) (h 11) cy 104 f73 n73) hP hD [10, 11] [0, 1, 2, 3, 4, 5, 6, 7, 8, 9] rfl rfl (by decide) (by decide) hk1 hFc hP1 hD1
  have hP := hP.sub (ws' := wB h cy (sI (sA (sI (sA (sI (sA (sI (sA σ 2 f43) 3 n43) 3 f51) 4 n51) 4 f60) 5 n60) 5 f73) 6 n73)) [0, 1, 2, 3, 4, 5, 6, 7, 8, 9, 10, 11] rfl
  have hD := hD.sub (ws' := wB h cy (sI (sA (sI (sA (sI (sA (sI (sA σ 2 f43) 3 n43) 3 f51) 4 n51) 4 f60) 5 n60) 5 f73) 6 n73)) [0, 1, 2, 3, 4, 5, 6, 7, 8, 9, 10, 11] (by decide) rfl
  generalize H1 = H at hP hS ⊢
  have hP : va_P (dC, dI) classes (wB h cy (sI (sA (sI (sA (sI (sA (sI (sA σ 2 f43) 3 n43) 3 f51) 4 n51) 4 f60) 5 n60) 5 f73) 6 n73)) H := hP
  have hD : va_D A (wB h cy (sI (sA (sI (sA (sI (sA (sI (sA σ 2 f43) 3 n43) 3 f51) 4 n51) 4 f60) 5 n60) 5 f73) 6 n73)) := hD
  exact W.vret hx hb hr (fun t ht hW => ⟨⟨sI (sA (sI (sA (sI (sA (sI (sA σ 2 f43) 3 n43) 3 f51) 4 n51) 4 f60) 5 n60) 5 f73) 6 n73, rfl, hF, by rw [ht]; exact hP, hK.warm hW, hD⟩, hS.F ht⟩) hS.2.2 dX0_addLine_76
theorem dX0_ahead_0 : decode cX0_ahead 0 = .ok (.aload_n 0, 1) := by decide +kernel
theorem dX0_ahead_1 : decode cX0_ahead 1 = .ok (.getfield 37, 3) := by decide +kernel
theorem dX0_ahead_4 : decode cX0_ahead 4 = .ok (.iload_n 2, 1) := by decide +kernel
theorem dX0_ahead_5 : decode cX0_ahead 5 = .ok (.invokevirtual 64, 3) := by decide +kernel
theorem dX0_ahead_8 : decode cX0_ahead 8 = .ok (.istore_n 3, 1) := by decide +kernel
theorem dX0_ahead_9 : decode cX0_ahead 9 = .ok (.iload_n 3, 1) := by decide +kernel
theorem dX0_ahead_10 : decode cX0_ahead 10 = .ok (.iconst (-1), 1) := by decide +kernel
theorem dX0_ahead_11 : decode cX0_ahead 11 = .ok (.if_icmp .ne 7, 3) := by decide +kernel
theorem dX0_ahead_14 : decode cX0_ahead 14 = .ok (.iload_n 1, 1) := by decide +kernel
theorem dX0_ahead_15 : decode cX0_ahead 15 = .ok (.goto 6, 3) := by decide +kernel
theorem dX0_ahead_18 : decode cX0_ahead 18 = .ok (.iload_n 1, 1) := by decide +kernel
theorem dX0_ahead_19 : decode cX0_ahead 19 = .ok (.iload_n 3, 1) := by decide +kernel
theorem dX0_ahead_20 : decode cX0_ahead 20 = .ok (.ixor, 1) := by decide +kernel
theorem dX0_ahead_21 : decode cX0_ahead 21 = .ok (.ireturn, 1) := by decide +kernel
def wp_X0_ahead (σ : SX) (x1 : Int32) (x2 : Int32) (P : Int32 → Prop) : Prop := (wp_X1_at 104 (σ.2.1 5) (σ.1 6) x2 (fun r5 => ((¬ r5 = (-1) → (P (x1 ^^^ r5))) ∧ (r5 = (-1) → (P x1)))))
theorem k_X0_ahead : KV RX0 yX0_ahead cX0_ahead 4 (some .int) 2 := ⟨q385, q386, q2, q387, by decide +kernel⟩
set_option maxHeartbeats 4000000 in
set_option maxRecDepth 100000 in
theorem m_X0_ahead (l : Launch) (dC : Nat → ClassId) (dI : Nat → Nat → Nat) (h : Nat → Nat) (cy : Nat → ClassId) (σ : SX) (x1 : Int32) (x2 : Int32) (P : Int32 → Prop) (hF : wp_X0_ahead σ x1 x2 P) : Met l yX0_ahead (ws_ yX0_ahead cX0_ahead 4 (some .int)) ({ frames := 1, cells := 0, slots := 0, locals := 21 } : Room) (va_Pc [.ref (h 0), .int x1, .int x2] (fun U => va_P (dC, dI) classes (wB h cy σ) U.heap ∧ kwX dC dI cy U)) (vp_Si P) 0 0 (fun _ => False) := by
  refine Met.ofCx (own := RX0) (by decide) rfl (Nat.le_of_ble_eq_true rfl) ?_
  intro p e s m below meth c hC hv ls hl
  obtain ⟨hx, hb, hr, hml, hown, hts, hlocks⟩ := hC
  have hl : lv_has ls 4 [(0, .ref (h 0)), (1, .int x1), (2, .int x2)] := hl
  obtain ⟨hP, hK⟩ := hv
  unfold wp_X0_ahead at hF
  refine lv_aload_n hx hb dX0_ahead_0 rfl (lv_at hl 0 rfl) ?_
  refine va_get (D := (dC, dI)) (ci := 0) (v := .ref (h 10)) (C := RX0) (T := TX0) (N := 8) hx hb hts in_X0 hown hK.1 hP 0 rfl rfl 7 (by decide) (hts _ q72) (fun _ h9 => h9) rfl dX0_ahead_1 ?_
  refine lv_iload_n hx hb dX0_ahead_4 rfl (lv_at hl 2 rfl) ?_
  have hPc := hP.sub (ws' := wR (h 10) (h 11) cy 104 (σ.2.1 5) (σ.1 6)) [10, 11] rfl
  refine cpVi (q0 := 0) (As := [.int x2]) (rest := []) ⟨hx, hb, hr, hml, hown, hts, hlocks⟩ hK hPc rfl rfl (m_X1_at l dC dI (h 10) (h 11) cy 104 (σ.2.1 5) (σ.1 6) x2 _ hF) k_X1_at q180 ⟨rfl, rfl⟩ ⟨Nat.le_of_ble_eq_true rfl, Nat.le_of_ble_eq_true rfl⟩ hl.1 rfl rfl (Nat.le_of_ble_eq_true rfl) dX0_ahead_5 ⟨Nat.le_of_ble_eq_true rfl, Nat.le_of_ble_eq_true rfl⟩ (fun r5 hF => ?_)
  refine lv_istore_n (lv' := [(3, .int r5), (0, .ref (h 0)), (1, .int x1), (2, .int x2)]) hx hb dX0_ahead_8 rfl hl (by decide) rfl (fun ls hl => ?_)
  refine lv_iload_n hx hb dX0_ahead_9 rfl (lv_at hl 0 rfl) ?_
  refine lv_iconst (v := (-1)) hx hb dX0_ahead_10 (by decide) ?_
  refine lv_icmp_ne (tgt := 18) hx hb dX0_ahead_11 (by decide) (fun cz => ?_) (fun cz => ?_)
  · have hF := hF.1 cz
    refine lv_iload_n hx hb dX0_ahead_18 rfl (lv_at hl 2 rfl) ?_
    refine lv_iload_n hx hb dX0_ahead_19 rfl (lv_at hl 0 rfl) ?_
    refine lv_ixor hx hb dX0_ahead_20 ?_
    exact W.iret (v := x1 ^^^ r5) hx hb hr (fun t ht hW => ⟨x1 ^^^ r5, rfl, hF, ht⟩) (fun q hq => absurd hq List.not_mem_nil) dX0_ahead_21
  · have hF := hF.2 cz
    refine lv_iload_n hx hb dX0_ahead_14 rfl (lv_at hl 2 rfl) ?_
    refine lv_goto (tgt := 21) hx hb dX0_ahead_15 (by decide) ?_
    exact W.iret (v := x1) hx hb hr (fun t ht hW => ⟨x1, rfl, hF, ht⟩) (fun q hq => absurd hq List.not_mem_nil) dX0_ahead_21
theorem dX0_behind_0 : decode cX0_behind 0 = .ok (.aload_n 0, 1) := by decide +kernel
theorem dX0_behind_1 : decode cX0_behind 1 = .ok (.getfield 37, 3) := by decide +kernel
theorem dX0_behind_4 : decode cX0_behind 4 = .ok (.iload_n 2, 1) := by decide +kernel
theorem dX0_behind_5 : decode cX0_behind 5 = .ok (.invokevirtual 64, 3) := by decide +kernel
theorem dX0_behind_8 : decode cX0_behind 8 = .ok (.istore_n 3, 1) := by decide +kernel
theorem dX0_behind_9 : decode cX0_behind 9 = .ok (.iload_n 3, 1) := by decide +kernel
theorem dX0_behind_10 : decode cX0_behind 10 = .ok (.iconst (-1), 1) := by decide +kernel
theorem dX0_behind_11 : decode cX0_behind 11 = .ok (.if_icmp .eq 23, 3) := by decide +kernel
theorem dX0_behind_14 : decode cX0_behind 14 = .ok (.iload_n 1, 1) := by decide +kernel
theorem dX0_behind_15 : decode cX0_behind 15 = .ok (.iload_n 3, 1) := by decide +kernel
theorem dX0_behind_16 : decode cX0_behind 16 = .ok (.iand, 1) := by decide +kernel
theorem dX0_behind_17 : decode cX0_behind 17 = .ok (.aload_n 0, 1) := by decide +kernel
theorem dX0_behind_18 : decode cX0_behind 18 = .ok (.getfield 34, 3) := by decide +kernel
theorem dX0_behind_21 : decode cX0_behind 21 = .ok (.iload_n 2, 1) := by decide +kernel
theorem dX0_behind_22 : decode cX0_behind 22 = .ok (.invokevirtual 64, 3) := by decide +kernel
theorem dX0_behind_25 : decode cX0_behind 25 = .ok (.if_icmp .ne 9, 3) := by decide +kernel
theorem dX0_behind_28 : decode cX0_behind 28 = .ok (.iload_n 1, 1) := by decide +kernel
theorem dX0_behind_29 : decode cX0_behind 29 = .ok (.iload_n 3, 1) := by decide +kernel
theorem dX0_behind_30 : decode cX0_behind 30 = .ok (.ixor, 1) := by decide +kernel
theorem dX0_behind_31 : decode cX0_behind 31 = .ok (.goto 4, 3) := by decide +kernel
theorem dX0_behind_34 : decode cX0_behind 34 = .ok (.iconst (-1), 1) := by decide +kernel
theorem dX0_behind_35 : decode cX0_behind 35 = .ok (.ireturn, 1) := by decide +kernel
def wp_X0_behind (σ : SX) (x1 : Int32) (x2 : Int32) (P : Int32 → Prop) : Prop := (wp_X1_at 104 (σ.2.1 5) (σ.1 6) x2 (fun r5 => ((r5 = (-1) → (P (-1))) ∧ (¬ r5 = (-1) → (wp_X1_at 104 (σ.2.1 4) (σ.1 5) x2 (fun r22 => ((¬ (x1 &&& r5) = r22 → (P (-1))) ∧ ((x1 &&& r5) = r22 → (P (x1 ^^^ r5))))))))))
theorem k_X0_behind : KV RX0 yX0_behind cX0_behind 4 (some .int) 2 := ⟨q215, q216, q2, q217, by decide +kernel⟩
set_option maxHeartbeats 4000000 in
set_option maxRecDepth 100000 in
theorem m_X0_behind (l : Launch) (dC : Nat → ClassId) (dI : Nat → Nat → Nat) (h : Nat → Nat) (cy : Nat → ClassId) (σ : SX) (x1 : Int32) (x2 : Int32) (P : Int32 → Prop) (hF : wp_X0_behind σ x1 x2 P) : Met l yX0_behind (ws_ yX0_behind cX0_behind 4 (some .int)) ({ frames := 1, cells := 0, slots := 0, locals := 21 } : Room) (va_Pc [.ref (h 0), .int x1, .int x2] (fun U => va_P (dC, dI) classes (wB h cy σ) U.heap ∧ kwX dC dI cy U)) (vp_Si P) 0 0 (fun _ => False) := by
  refine Met.ofCx (own := RX0) (by decide) rfl (Nat.le_of_ble_eq_true rfl) ?_
  intro p e s m below meth c hC hv ls hl
  obtain ⟨hx, hb, hr, hml, hown, hts, hlocks⟩ := hC
  have hl : lv_has ls 4 [(0, .ref (h 0)), (1, .int x1), (2, .int x2)] := hl
  obtain ⟨hP, hK⟩ := hv
  unfold wp_X0_behind at hF
  refine lv_aload_n hx hb dX0_behind_0 rfl (lv_at hl 0 rfl) ?_
  refine va_get (D := (dC, dI)) (ci := 0) (v := .ref (h 10)) (C := RX0) (T := TX0) (N := 8) hx hb hts in_X0 hown hK.1 hP 0 rfl rfl 7 (by decide) (hts _ q72) (fun _ h9 => h9) rfl dX0_behind_1 ?_
  refine lv_iload_n hx hb dX0_behind_4 rfl (lv_at hl 2 rfl) ?_
  have hPc := hP.sub (ws' := wR (h 10) (h 11) cy 104 (σ.2.1 5) (σ.1 6)) [10, 11] rfl
  refine cpVi (q0 := 0) (As := [.int x2]) (rest := []) ⟨hx, hb, hr, hml, hown, hts, hlocks⟩ hK hPc rfl rfl (m_X1_at l dC dI (h 10) (h 11) cy 104 (σ.2.1 5) (σ.1 6) x2 _ hF) k_X1_at q180 ⟨rfl, rfl⟩ ⟨Nat.le_of_ble_eq_true rfl, Nat.le_of_ble_eq_true rfl⟩ hl.1 rfl rfl (Nat.le_of_ble_eq_true rfl) dX0_behind_5 ⟨Nat.le_of_ble_eq_true rfl, Nat.le_of_ble_eq_true rfl⟩ (fun r5 hF => ?_)
  refine lv_istore_n (lv' := [(3, .int r5), (0, .ref (h 0)), (1, .int x1), (2, .int x2)]) hx hb dX0_behind_8 rfl hl (by decide) rfl (fun ls hl => ?_)
  refine lv_iload_n hx hb dX0_behind_9 rfl (lv_at hl 0 rfl) ?_
  refine lv_iconst (v := (-1)) hx hb dX0_behind_10 (by decide) ?_
  refine lv_icmp_eq (tgt := 34) hx hb dX0_behind_11 (by decide) (fun cz => ?_) (fun cz => ?_)
  · have hF := hF.1 cz
    refine lv_iconst (v := (-1)) hx hb dX0_behind_34 (by decide) ?_
    exact W.iret (v := (-1)) hx hb hr (fun t ht hW => ⟨(-1), rfl, hF, ht⟩) (fun q hq => absurd hq List.not_mem_nil) dX0_behind_35
  · have hF := hF.2 cz
    refine lv_iload_n hx hb dX0_behind_14 rfl (lv_at hl 2 rfl) ?_
    refine lv_iload_n hx hb dX0_behind_15 rfl (lv_at hl 0 rfl) ?_
    refine lv_iand hx hb dX0_behind_16 ?_
    refine lv_aload_n hx hb dX0_behind_17 rfl (lv_at hl 1 rfl) ?_
    refine va_get (D := (dC, dI)) (ci := 0) (v := .ref (h 8)) (C := RX0) (T := TX0) (N := 8) hx hb hts in_X0 hown hK.1 hP 0 rfl rfl 6 (by decide) (hts _ q71) (fun _ h9 => h9) rfl dX0_behind_18 ?_
    refine lv_iload_n hx hb dX0_behind_21 rfl (lv_at hl 3 rfl) ?_
    have hPc := hP.sub (ws' := wR (h 8) (h 9) cy 104 (σ.2.1 4) (σ.1 5)) [8, 9] rfl
    refine cpVi (q0 := 0) (As := [.int x2]) (rest := [.int (x1 &&& r5)]) ⟨hx, hb, hr, hml, hown, hts, hlocks⟩ hK hPc rfl rfl (m_X1_at l dC dI (h 8) (h 9) cy 104 (σ.2.1 4) (σ.1 5) x2 _ hF) k_X1_at q180 ⟨rfl, rfl⟩ ⟨Nat.le_of_ble_eq_true rfl, Nat.le_of_ble_eq_true rfl⟩ hl.1 rfl rfl (Nat.le_of_ble_eq_true rfl) dX0_behind_22 ⟨Nat.le_of_ble_eq_true rfl, Nat.le_of_ble_eq_true rfl⟩ (fun r22 hF => ?_)
    refine lv_icmp_ne (tgt := 34) hx hb dX0_behind_25 (by decide) (fun cz => ?_) (fun cz => ?_)
    · have hF := hF.1 cz
      refine lv_iconst (v := (-1)) hx hb dX0_behind_34 (by decide) ?_
      exact W.iret (v := (-1)) hx hb hr (fun t ht hW => ⟨(-1), rfl, hF, ht⟩) (fun q hq => absurd hq List.not_mem_nil) dX0_behind_35
    · have hF := hF.2 cz
      refine lv_iload_n hx hb dX0_behind_28 rfl (lv_at hl 2 rfl) ?_
      refine lv_iload_n hx hb dX0_behind_29 rfl (lv_at hl 0 rfl) ?_
      refine lv_ixor hx hb dX0_behind_30 ?_
      refine lv_goto (tgt := 35) hx hb dX0_behind_31 (by decide) ?_
      exact W.iret (v := x1 ^^^ r5) hx hb hr (fun t ht hW => ⟨x1 ^^^ r5, rfl, hF, ht⟩) (fun q hq => absurd hq List.not_mem_nil) dX0_behind_35
theorem dX0_cellOf_0 : decode cX0_cellOf 0 = .ok (.aload_n 0, 1) := by decide +kernel
theorem dX0_cellOf_1 : decode cX0_cellOf 1 = .ok (.getfield 24, 3) := by decide +kernel
theorem dX0_cellOf_4 : decode cX0_cellOf 4 = .ok (.iload_n 1, 1) := by decide +kernel
theorem dX0_cellOf_5 : decode cX0_cellOf 5 = .ok (.invokevirtual 64, 3) := by decide +kernel
theorem dX0_cellOf_8 : decode cX0_cellOf 8 = .ok (.ireturn, 1) := by decide +kernel
def wp_X0_cellOf (σ : SX) (x1 : Int32) (P : Int32 → Prop) : Prop := (wp_X1_at 13 (σ.2.1 1) (σ.1 2) x1 (fun r5 => (P r5)))
theorem k_X0_cellOf : KV RX0 yX0_cellOf cX0_cellOf 2 (some .int) 1 := ⟨q356, q357, q2, q358, by decide +kernel⟩
set_option maxHeartbeats 4000000 in
set_option maxRecDepth 100000 in
theorem m_X0_cellOf (l : Launch) (dC : Nat → ClassId) (dI : Nat → Nat → Nat) (h : Nat → Nat) (cy : Nat → ClassId) (σ : SX) (x1 : Int32) (P : Int32 → Prop) (hF : wp_X0_cellOf σ x1 P) : Met l yX0_cellOf (ws_ yX0_cellOf cX0_cellOf 2 (some .int)) ({ frames := 1, cells := 0, slots := 0, locals := 21 } : Room) (va_Pc [.ref (h 0), .int x1] (fun U => va_P (dC, dI) classes (wB h cy σ) U.heap ∧ kwX dC dI cy U)) (vp_Si P) 0 0 (fun _ => False) := by
  refine Met.ofCx (own := RX0) (by decide) rfl (Nat.le_of_ble_eq_true rfl) ?_
  intro p e s m below meth c hC hv ls hl
  obtain ⟨hx, hb, hr, hml, hown, hts, hlocks⟩ := hC
  have hl : lv_has ls 2 [(0, .ref (h 0)), (1, .int x1)] := hl
  obtain ⟨hP, hK⟩ := hv
  unfold wp_X0_cellOf at hF
  refine lv_aload_n hx hb dX0_cellOf_0 rfl (lv_at hl 0 rfl) ?_
  refine va_get (D := (dC, dI)) (ci := 0) (v := .ref (h 2)) (C := RX0) (T := TX0) (N := 8) hx hb hts in_X0 hown hK.1 hP 0 rfl rfl 3 (by decide) (hts _ q68) (fun _ h9 => h9) rfl dX0_cellOf_1 ?_
  refine lv_iload_n hx hb dX0_cellOf_4 rfl (lv_at hl 1 rfl) ?_
  have hPc := hP.sub (ws' := wR (h 2) (h 3) cy 13 (σ.2.1 1) (σ.1 2)) [2, 3] rfl
  refine cpVi (q0 := 0) (As := [.int x1]) (rest := []) ⟨hx, hb, hr, hml, hown, hts, hlocks⟩ hK hPc rfl rfl (m_X1_at l dC dI (h 2) (h 3) cy 13 (σ.2.1 1) (σ.1 2) x1 _ hF) k_X1_at q180 ⟨rfl, rfl⟩ ⟨Nat.le_of_ble_eq_true rfl, Nat.le_of_ble_eq_true rfl⟩ hl.1 rfl rfl (Nat.le_of_ble_eq_true rfl) dX0_cellOf_5 ⟨Nat.le_of_ble_eq_true rfl, Nat.le_of_ble_eq_true rfl⟩ (fun r5 hF => ?_)
  exact W.iret (v := r5) hx hb hr (fun t ht hW => ⟨r5, rfl, hF, ht⟩) (fun q hq => absurd hq List.not_mem_nil) dX0_cellOf_8
theorem dX0_isTwoSteps_0 : decode cX0_isTwoSteps 0 = .ok (.iload_n 1, 1) := by decide +kernel
theorem dX0_isTwoSteps_1 : decode cX0_isTwoSteps 1 = .ok (.ifCond .eq 7, 3) := by decide +kernel
theorem dX0_isTwoSteps_4 : decode cX0_isTwoSteps 4 = .ok (.iload_n 2, 1) := by decide +kernel
theorem dX0_isTwoSteps_5 : decode cX0_isTwoSteps 5 = .ok (.ifCond .ne 19, 3) := by decide +kernel
theorem dX0_isTwoSteps_8 : decode cX0_isTwoSteps 8 = .ok (.iload_n 1, 1) := by decide +kernel
theorem dX0_isTwoSteps_9 : decode cX0_isTwoSteps 9 = .ok (.iload_n 2, 1) := by decide +kernel
theorem dX0_isTwoSteps_10 : decode cX0_isTwoSteps 10 = .ok (.iadd, 1) := by decide +kernel
theorem dX0_isTwoSteps_11 : decode cX0_isTwoSteps 11 = .ok (.invokestatic 82, 3) := by decide +kernel
theorem dX0_isTwoSteps_14 : decode cX0_isTwoSteps 14 = .ok (.iconst 2, 1) := by decide +kernel
theorem dX0_isTwoSteps_15 : decode cX0_isTwoSteps 15 = .ok (.if_icmp .ne 7, 3) := by decide +kernel
theorem dX0_isTwoSteps_18 : decode cX0_isTwoSteps 18 = .ok (.iconst 1, 1) := by decide +kernel
theorem dX0_isTwoSteps_19 : decode cX0_isTwoSteps 19 = .ok (.goto 4, 3) := by decide +kernel
theorem dX0_isTwoSteps_22 : decode cX0_isTwoSteps 22 = .ok (.iconst 0, 1) := by decide +kernel
theorem dX0_isTwoSteps_23 : decode cX0_isTwoSteps 23 = .ok (.ireturn, 1) := by decide +kernel
theorem dX0_isTwoSteps_24 : decode cX0_isTwoSteps 24 = .ok (.iload_n 1, 1) := by decide +kernel
theorem dX0_isTwoSteps_25 : decode cX0_isTwoSteps 25 = .ok (.invokestatic 82, 3) := by decide +kernel
theorem dX0_isTwoSteps_28 : decode cX0_isTwoSteps 28 = .ok (.iconst 2, 1) := by decide +kernel
theorem dX0_isTwoSteps_29 : decode cX0_isTwoSteps 29 = .ok (.if_icmp .ne 11, 3) := by decide +kernel
theorem dX0_isTwoSteps_32 : decode cX0_isTwoSteps 32 = .ok (.iload_n 2, 1) := by decide +kernel
theorem dX0_isTwoSteps_33 : decode cX0_isTwoSteps 33 = .ok (.invokestatic 82, 3) := by decide +kernel
theorem dX0_isTwoSteps_36 : decode cX0_isTwoSteps 36 = .ok (.iconst 2, 1) := by decide +kernel
theorem dX0_isTwoSteps_37 : decode cX0_isTwoSteps 37 = .ok (.if_icmp .eq 5, 3) := by decide +kernel
theorem dX0_isTwoSteps_40 : decode cX0_isTwoSteps 40 = .ok (.iconst 0, 1) := by decide +kernel
theorem dX0_isTwoSteps_41 : decode cX0_isTwoSteps 41 = .ok (.ireturn, 1) := by decide +kernel
theorem dX0_isTwoSteps_42 : decode cX0_isTwoSteps 42 = .ok (.aload_n 0, 1) := by decide +kernel
theorem dX0_isTwoSteps_43 : decode cX0_isTwoSteps 43 = .ok (.getfield 9, 3) := by decide +kernel
theorem dX0_isTwoSteps_46 : decode cX0_isTwoSteps 46 = .ok (.bipush 100, 2) := by decide +kernel
theorem dX0_isTwoSteps_48 : decode cX0_isTwoSteps 48 = .ok (.if_icmp .eq 18, 3) := by decide +kernel
theorem dX0_isTwoSteps_51 : decode cX0_isTwoSteps 51 = .ok (.aload_n 0, 1) := by decide +kernel
theorem dX0_isTwoSteps_52 : decode cX0_isTwoSteps 52 = .ok (.getfield 9, 3) := by decide +kernel
theorem dX0_isTwoSteps_55 : decode cX0_isTwoSteps 55 = .ok (.bipush 116, 2) := by decide +kernel
theorem dX0_isTwoSteps_57 : decode cX0_isTwoSteps 57 = .ok (.if_icmp .ne 13, 3) := by decide +kernel
theorem dX0_isTwoSteps_60 : decode cX0_isTwoSteps 60 = .ok (.iload_n 1, 1) := by decide +kernel
theorem dX0_isTwoSteps_61 : decode cX0_isTwoSteps 61 = .ok (.iload_n 2, 1) := by decide +kernel
theorem dX0_isTwoSteps_62 : decode cX0_isTwoSteps 62 = .ok (.ineg, 1) := by decide +kernel
theorem dX0_isTwoSteps_63 : decode cX0_isTwoSteps 63 = .ok (.if_icmp .ne 7, 3) := by decide +kernel
theorem dX0_isTwoSteps_66 : decode cX0_isTwoSteps 66 = .ok (.iconst 1, 1) := by decide +kernel
theorem dX0_isTwoSteps_67 : decode cX0_isTwoSteps 67 = .ok (.goto 4, 3) := by decide +kernel
theorem dX0_isTwoSteps_70 : decode cX0_isTwoSteps 70 = .ok (.iconst 0, 1) := by decide +kernel
theorem dX0_isTwoSteps_71 : decode cX0_isTwoSteps 71 = .ok (.ireturn, 1) := by decide +kernel
def wp_X0_isTwoSteps_J8 (x1 : Int32) (x2 : Int32) (P : Int32 → Prop) : Prop := ((¬ (jabs (x1 + x2)) = 2 → (P 0)) ∧ ((jabs (x1 + x2)) = 2 → (P 1)))
def wp_X0_isTwoSteps (σ : SX) (x1 : Int32) (x2 : Int32) (P : Int32 → Prop) : Prop := ((x1 = 0 → wp_X0_isTwoSteps_J8 x1 x2 P) ∧ (¬ x1 = 0 → ((¬ x2 = 0 → ((¬ (jabs x1) = 2 → (P 0)) ∧ ((jabs x1) = 2 → (((jabs x2) = 2 → (((σ.1 0) = 100 → (P 1)) ∧ (¬ (σ.1 0) = 100 → ((¬ (σ.1 0) = 116 → (P 0)) ∧ ((σ.1 0) = 116 → ((¬ x1 = (-x2) → (P 0)) ∧ (x1 = (-x2) → (P 1)))))))) ∧ (¬ (jabs x2) = 2 → (P 0)))))) ∧ (x2 = 0 → wp_X0_isTwoSteps_J8 x1 x2 P))))
theorem k_X0_isTwoSteps : KV RX0 yX0_isTwoSteps cX0_isTwoSteps 3 (some .boolean) 2 := ⟨q197, qs1, q2, q198, by decide +kernel⟩
set_option maxHeartbeats 4000000 in
set_option maxRecDepth 100000 in
theorem m_X0_isTwoSteps (l : Launch) (dC : Nat → ClassId) (dI : Nat → Nat → Nat) (h : Nat → Nat) (cy : Nat → ClassId) (σ : SX) (x1 : Int32) (x2 : Int32) (P : Int32 → Prop) (hF : wp_X0_isTwoSteps σ x1 x2 P) : Met l yX0_isTwoSteps (ws_ yX0_isTwoSteps cX0_isTwoSteps 3 (some .boolean)) ({ frames := 1, cells := 0, slots := 0, locals := 21 } : Room) (va_Pc [.ref (h 0), .int x1, .int x2] (fun U => va_P (dC, dI) classes (wB h cy σ) U.heap ∧ kwX dC dI cy U)) (vp_Si P) 0 0 (fun _ => False) := by
  refine Met.ofCx (own := RX0) (by decide) rfl (Nat.le_of_ble_eq_true rfl) ?_
  intro p e s m below meth c hC hv ls hl
  obtain ⟨hx, hb, hr, hml, hown, hts, hlocks⟩ := hC
  have hl : lv_has ls 3 [(0, .ref (h 0)), (1, .int x1), (2, .int x2)] := hl
  obtain ⟨hP, hK⟩ := hv
  unfold wp_X0_isTwoSteps at hF
  refine lv_iload_n hx hb dX0_isTwoSteps_0 rfl (lv_at hl 1 rfl) ?_
  have hJ8 : wp_X0_isTwoSteps_J8 x1 x2 P → ∀ (ls : Array Slot), lv_has ls 3 [(1, .int x1), (2, .int x2)] → W p l e ({ frames := 1, cells := 0, slots := 0, locals := 21 } : Room) s m ([.ref (h 0), .int x1, .int x2] : List Value).toArray below meth c s.heap [] 0 0 (MQ below (vp_Si P) ([.ref (h 0), .int x1, .int x2] : List Value).toArray s 0 0 (fun _ => False)) (F0 m 8 ls []) := by
    intro hF ls hl
    unfold wp_X0_isTwoSteps_J8 at hF
    refine lv_iload_n hx hb dX0_isTwoSteps_8 rfl (lv_at hl 0 rfl) ?_
    refine lv_iload_n hx hb dX0_isTwoSteps_9 rfl (lv_at hl 1 rfl) ?_
    refine lv_iadd hx hb dX0_isTwoSteps_10 ?_
    refine va_mabs hx hb (by rw [hml]; exact hl.1.symm) hown (hts _ q199) (hts _ q200) (hts _ q13) (hts _ q201) (Nat.le_of_ble_eq_true rfl) (Nat.le_of_ble_eq_true rfl) (Nat.le_of_ble_eq_true rfl) (Nat.le_of_ble_eq_true rfl) dX0_isTwoSteps_11 ?_
    refine lv_iconst (v := 2) hx hb dX0_isTwoSteps_14 (by decide) ?_
    refine lv_icmp_ne (tgt := 22) hx hb dX0_isTwoSteps_15 (by decide) (fun cz => ?_) (fun cz => ?_)
    · have hF := hF.1 cz
      refine lv_iconst (v := 0) hx hb dX0_isTwoSteps_22 (by decide) ?_
      exact W.zret (v := 0) hx hb hr rfl (fun t ht hW => ⟨0, rfl, hF, ht⟩) (fun q hq => absurd hq List.not_mem_nil) dX0_isTwoSteps_23
    · have hF := hF.2 cz
      refine lv_iconst (v := 1) hx hb dX0_isTwoSteps_18 (by decide) ?_
      refine lv_goto (tgt := 23) hx hb dX0_isTwoSteps_19 (by decide) ?_
      exact W.zret (v := 1) hx hb hr rfl (fun t ht hW => ⟨1, rfl, hF, ht⟩) (fun q hq => absurd hq List.not_mem_nil) dX0_isTwoSteps_23
  refine lv_if_eq (tgt := 8) hx hb dX0_isTwoSteps_1 (by decide) (fun cz => ?_) (fun cz => ?_)
  · have hF := hF.1 cz
    exact hJ8 hF _ (lv_sub hl [1, 2] rfl)
  · have hF := hF.2 cz
    refine lv_iload_n hx hb dX0_isTwoSteps_4 rfl (lv_at hl 2 rfl) ?_
    refine lv_if_ne (tgt := 24) hx hb dX0_isTwoSteps_5 (by decide) (fun cz => ?_) (fun cz => ?_)
    · have hF := hF.1 cz
      refine lv_iload_n hx hb dX0_isTwoSteps_24 rfl (lv_at hl 1 rfl) ?_
      refine va_mabs hx hb (by rw [hml]; exact hl.1.symm) hown (hts _ q199) (hts _ q200) (hts _ q13) (hts _ q201) (Nat.le_of_ble_eq_true rfl) (Nat.le_of_ble_eq_true rfl) (Nat.le_of_ble_eq_true rfl) (Nat.le_of_ble_eq_true rfl) dX0_isTwoSteps_25 ?_
      refine lv_iconst (v := 2) hx hb dX0_isTwoSteps_28 (by decide) ?_
      refine lv_icmp_ne (tgt := 40) hx hb dX0_isTwoSteps_29 (by decide) (fun cz => ?_) (fun cz => ?_)
      · have hF := hF.1 cz
        refine lv_iconst (v := 0) hx hb dX0_isTwoSteps_40 (by decide) ?_
        exact W.zret (v := 0) hx hb hr rfl (fun t ht hW => ⟨0, rfl, hF, ht⟩) (fun q hq => absurd hq List.not_mem_nil) dX0_isTwoSteps_41
      · have hF := hF.2 cz
        refine lv_iload_n hx hb dX0_isTwoSteps_32 rfl (lv_at hl 2 rfl) ?_
        refine va_mabs hx hb (by rw [hml]; exact hl.1.symm) hown (hts _ q199) (hts _ q200) (hts _ q13) (hts _ q201) (Nat.le_of_ble_eq_true rfl) (Nat.le_of_ble_eq_true rfl) (Nat.le_of_ble_eq_true rfl) (Nat.le_of_ble_eq_true rfl) dX0_isTwoSteps_33 ?_
        refine lv_iconst (v := 2) hx hb dX0_isTwoSteps_36 (by decide) ?_
        refine lv_icmp_eq (tgt := 42) hx hb dX0_isTwoSteps_37 (by decide) (fun cz => ?_) (fun cz => ?_)
        · have hF := hF.1 cz
          refine lv_aload_n hx hb dX0_isTwoSteps_42 rfl (lv_at hl 0 rfl) ?_
          refine va_get (D := (dC, dI)) (ci := 0) (v := .int (σ.1 0)) (C := RX0) (T := TX0) (N := 8) hx hb hts in_X0 hown hK.1 hP 0 rfl rfl 0 (by decide) (hts _ q64) (fun _ h9 => h9) rfl dX0_isTwoSteps_43 ?_
          refine lv_bipush (v := 100) hx hb dX0_isTwoSteps_46 (by decide) ?_
          refine lv_icmp_eq (tgt := 66) hx hb dX0_isTwoSteps_48 (by decide) (fun cz => ?_) (fun cz => ?_)
          · have hF := hF.1 cz
            refine lv_iconst (v := 1) hx hb dX0_isTwoSteps_66 (by decide) ?_
            refine lv_goto (tgt := 71) hx hb dX0_isTwoSteps_67 (by decide) ?_
            exact W.zret (v := 1) hx hb hr rfl (fun t ht hW => ⟨1, rfl, hF, ht⟩) (fun q hq => absurd hq List.not_mem_nil) dX0_isTwoSteps_71
          · have hF := hF.2 cz
            refine lv_aload_n hx hb dX0_isTwoSteps_51 rfl (lv_at hl 0 rfl) ?_
            refine va_get (D := (dC, dI)) (ci := 0) (v := .int (σ.1 0)) (C := RX0) (T := TX0) (N := 8) hx hb hts in_X0 hown hK.1 hP 0 rfl rfl 0 (by decide) (hts _ q64) (fun _ h9 => h9) rfl dX0_isTwoSteps_52 ?_
            refine lv_bipush (v := 116) hx hb dX0_isTwoSteps_55 (by decide) ?_
            refine lv_icmp_ne (tgt := 70) hx hb dX0_isTwoSteps_57 (by decide) (fun cz => ?_) (fun cz => ?_)
            · have hF := hF.1 cz
              refine lv_iconst (v := 0) hx hb dX0_isTwoSteps_70 (by decide) ?_
              exact W.zret (v := 0) hx hb hr rfl (fun t ht hW => ⟨0, rfl, hF, ht⟩) (fun q hq => absurd hq List.not_mem_nil) dX0_isTwoSteps_71
            · have hF := hF.2 cz
              refine lv_iload_n hx hb dX0_isTwoSteps_60 rfl (lv_at hl 1 rfl) ?_
              refine lv_iload_n hx hb dX0_isTwoSteps_61 rfl (lv_at hl 2 rfl) ?_
              refine lv_ineg hx hb dX0_isTwoSteps_62 ?_
              refine lv_icmp_ne (tgt := 70) hx hb dX0_isTwoSteps_63 (by decide) (fun cz => ?_) (fun cz => ?_)
              · have hF := hF.1 cz
                refine lv_iconst (v := 0) hx hb dX0_isTwoSteps_70 (by decide) ?_
                exact W.zret (v := 0) hx hb hr rfl (fun t ht hW => ⟨0, rfl, hF, ht⟩) (fun q hq => absurd hq List.not_mem_nil) dX0_isTwoSteps_71
              · have hF := hF.2 cz
                refine lv_iconst (v := 1) hx hb dX0_isTwoSteps_66 (by decide) ?_
                refine lv_goto (tgt := 71) hx hb dX0_isTwoSteps_67 (by decide) ?_
                exact W.zret (v := 1) hx hb hr rfl (fun t ht hW => ⟨1, rfl, hF, ht⟩) (fun q hq => absurd hq List.not_mem_nil) dX0_isTwoSteps_71
        · have hF := hF.2 cz
          refine lv_iconst (v := 0) hx hb dX0_isTwoSteps_40 (by decide) ?_
          exact W.zret (v := 0) hx hb hr rfl (fun t ht hW => ⟨0, rfl, hF, ht⟩) (fun q hq => absurd hq List.not_mem_nil) dX0_isTwoSteps_41
    · have hF := hF.2 cz
      exact hJ8 hF _ (lv_sub hl [1, 2] rfl)
theorem dX0_isLine_0 : decode cX0_isLine 0 = .ok (.iload_n 2, 1) := by decide +kernel
theorem dX0_isLine_1 : decode cX0_isLine 1 = .ok (.iconst 5, 1) := by decide +kernel
theorem dX0_isLine_2 : decode cX0_isLine 2 = .ok (.idiv, 1) := by decide +kernel
theorem dX0_isLine_3 : decode cX0_isLine 3 = .ok (.iload_n 1, 1) := by decide +kernel
theorem dX0_isLine_4 : decode cX0_isLine 4 = .ok (.iconst 5, 1) := by decide +kernel
theorem dX0_isLine_5 : decode cX0_isLine 5 = .ok (.idiv, 1) := by decide +kernel
theorem dX0_isLine_6 : decode cX0_isLine 6 = .ok (.isub, 1) := by decide +kernel
theorem dX0_isLine_7 : decode cX0_isLine 7 = .ok (.istore_n 3, 1) := by decide +kernel
theorem dX0_isLine_8 : decode cX0_isLine 8 = .ok (.iload_n 2, 1) := by decide +kernel
theorem dX0_isLine_9 : decode cX0_isLine 9 = .ok (.iconst 5, 1) := by decide +kernel
theorem dX0_isLine_10 : decode cX0_isLine 10 = .ok (.irem, 1) := by decide +kernel
theorem dX0_isLine_11 : decode cX0_isLine 11 = .ok (.iload_n 1, 1) := by decide +kernel
theorem dX0_isLine_12 : decode cX0_isLine 12 = .ok (.iconst 5, 1) := by decide +kernel
theorem dX0_isLine_13 : decode cX0_isLine 13 = .ok (.irem, 1) := by decide +kernel
theorem dX0_isLine_14 : decode cX0_isLine 14 = .ok (.isub, 1) := by decide +kernel
theorem dX0_isLine_15 : decode cX0_isLine 15 = .ok (.istore 4, 2) := by decide +kernel
theorem dX0_isLine_17 : decode cX0_isLine 17 = .ok (.aload_n 0, 1) := by decide +kernel
theorem dX0_isLine_18 : decode cX0_isLine 18 = .ok (.iload_n 3, 1) := by decide +kernel
theorem dX0_isLine_19 : decode cX0_isLine 19 = .ok (.iload 4, 2) := by decide +kernel
theorem dX0_isLine_21 : decode cX0_isLine 21 = .ok (.invokevirtual 79, 3) := by decide +kernel
theorem dX0_isLine_24 : decode cX0_isLine 24 = .ok (.ifCond .eq 35, 3) := by decide +kernel
theorem dX0_isLine_27 : decode cX0_isLine 27 = .ok (.aload_n 0, 1) := by decide +kernel
theorem dX0_isLine_28 : decode cX0_isLine 28 = .ok (.iload_n 1, 1) := by decide +kernel
theorem dX0_isLine_29 : decode cX0_isLine 29 = .ok (.invokevirtual 53, 3) := by decide +kernel
theorem dX0_isLine_32 : decode cX0_isLine 32 = .ok (.ifCond .eq 27, 3) := by decide +kernel
theorem dX0_isLine_35 : decode cX0_isLine 35 = .ok (.aload_n 0, 1) := by decide +kernel
theorem dX0_isLine_36 : decode cX0_isLine 36 = .ok (.iload_n 1, 1) := by decide +kernel
theorem dX0_isLine_37 : decode cX0_isLine 37 = .ok (.iload_n 2, 1) := by decide +kernel
theorem dX0_isLine_38 : decode cX0_isLine 38 = .ok (.iadd, 1) := by decide +kernel
theorem dX0_isLine_39 : decode cX0_isLine 39 = .ok (.iconst 2, 1) := by decide +kernel
theorem dX0_isLine_40 : decode cX0_isLine 40 = .ok (.idiv, 1) := by decide +kernel
theorem dX0_isLine_41 : decode cX0_isLine 41 = .ok (.invokevirtual 53, 3) := by decide +kernel
theorem dX0_isLine_44 : decode cX0_isLine 44 = .ok (.ifCond .eq 15, 3) := by decide +kernel
theorem dX0_isLine_47 : decode cX0_isLine 47 = .ok (.aload_n 0, 1) := by decide +kernel
theorem dX0_isLine_48 : decode cX0_isLine 48 = .ok (.iload_n 2, 1) := by decide +kernel
theorem dX0_isLine_49 : decode cX0_isLine 49 = .ok (.invokevirtual 53, 3) := by decide +kernel
theorem dX0_isLine_52 : decode cX0_isLine 52 = .ok (.ifCond .eq 7, 3) := by decide +kernel
theorem dX0_isLine_55 : decode cX0_isLine 55 = .ok (.iconst 1, 1) := by decide +kernel
theorem dX0_isLine_56 : decode cX0_isLine 56 = .ok (.goto 4, 3) := by decide +kernel
theorem dX0_isLine_59 : decode cX0_isLine 59 = .ok (.iconst 0, 1) := by decide +kernel
theorem dX0_isLine_60 : decode cX0_isLine 60 = .ok (.ireturn, 1) := by decide +kernel
def wp_X0_isLine (σ : SX) (x1 : Int32) (x2 : Int32) (P : Int32 → Prop) : Prop := (wp_X0_isTwoSteps σ ((x2 / 5) - (x1 / 5)) ((x2 - x2 / 5 * 5) - (x1 - x1 / 5 * 5)) (fun r21 => ((r21 = 0 → (P 0)) ∧ (¬ r21 = 0 → (wp_X0_isHole σ x1 (fun r29 => ((r29 = 0 → (P 0)) ∧ (¬ r29 = 0 → (wp_X0_isHole σ ((x1 + x2) / 2) (fun r41 => ((r41 = 0 → (P 0)) ∧ (¬ r41 = 0 → (wp_X0_isHole σ x2 (fun r49 => ((r49 = 0 → (P 0)) ∧ (¬ r49 = 0 → (P 1)))))))))))))))))
theorem k_X0_isLine : KV RX0 yX0_isLine cX0_isLine 5 (some .boolean) 2 := ⟨q193, qs0, q2, q194, by decide +kernel⟩
set_option maxHeartbeats 4000000 in
set_option maxRecDepth 100000 in
theorem m_X0_isLine (l : Launch) (dC : Nat → ClassId) (dI : Nat → Nat → Nat) (h : Nat → Nat) (cy : Nat → ClassId) (σ : SX) (x1 : Int32) (x2 : Int32) (P : Int32 → Prop) (hF : wp_X0_isLine σ x1 x2 P) : Met l yX0_isLine (ws_ yX0_isLine cX0_isLine 5 (some .boolean)) ({ frames := 2, cells := 0, slots := 0, locals := 43 } : Room) (va_Pc [.ref (h 0), .int x1, .int x2] (fun U => va_P (dC, dI) classes (wB h cy σ) U.heap ∧ kwX dC dI cy U)) (vp_Si P) 0 0 (fun _ => False) := by
  refine Met.ofCx (own := RX0) (by decide) rfl (Nat.le_of_ble_eq_true rfl) ?_
  intro p e s m below meth c hC hv ls hl
  obtain ⟨hx, hb, hr, hml, hown, hts, hlocks⟩ := hC
  have hl : lv_has ls 5 [(0, .ref (h 0)), (1, .int x1), (2, .int x2)] := hl
  obtain ⟨hP, hK⟩ := hv
  unfold wp_X0_isLine at hF
  refine lv_iload_n hx hb dX0_isLine_0 rfl (lv_at hl 2 rfl) ?_
  refine lv_iconst (v := 5) hx hb dX0_isLine_1 (by decide) ?_
  refine lv_idiv hx hb dX0_isLine_2 (by decide) ?_
  refine lv_iload_n hx hb dX0_isLine_3 rfl (lv_at hl 1 rfl) ?_
  refine lv_iconst (v := 5) hx hb dX0_isLine_4 (by decide) ?_
  refine lv_idiv hx hb dX0_isLine_5 (by decide) ?_
  refine lv_isub hx hb dX0_isLine_6 ?_
  refine lv_istore_n (lv' := [(3, .int ((x2 / 5) - (x1 / 5))), (0, .ref (h 0)), (1, .int x1), (2, .int x2)]) hx hb dX0_isLine_7 rfl hl (by decide) rfl (fun ls hl => ?_)
  refine lv_iload_n hx hb dX0_isLine_8 rfl (lv_at hl 3 rfl) ?_
  refine lv_iconst (v := 5) hx hb dX0_isLine_9 (by decide) ?_
  refine lv_irem hx hb dX0_isLine_10 (by decide) ?_
  refine lv_iload_n hx hb dX0_isLine_11 rfl (lv_at hl 2 rfl) ?_
  refine lv_iconst (v := 5) hx hb dX0_isLine_12 (by decide) ?_
  refine lv_irem hx hb dX0_isLine_13 (by decide) ?_
  refine lv_isub hx hb dX0_isLine_14 ?_
  refine lv_istore (lv' := [(4, .int ((x2 - x2 / 5 * 5) - (x1 - x1 / 5 * 5))), (3, .int ((x2 / 5) - (x1 / 5))), (0, .ref (h 0)), (1, .int x1), (2, .int x2)]) hx hb dX0_isLine_15 hl (by decide) rfl (fun ls hl => ?_)
  refine lv_aload_n hx hb dX0_isLine_17 rfl (lv_at hl 2 rfl) ?_
  refine lv_iload_n hx hb dX0_isLine_18 rfl (lv_at hl 1 rfl) ?_
  refine lv_iload hx hb dX0_isLine_19 (lv_at hl 0 rfl) ?_
  refine cpVi (q0 := 0) (As := [.int ((x2 / 5) - (x1 / 5)), .int ((x2 - x2 / 5 * 5) - (x1 - x1 / 5 * 5))]) (rest := []) ⟨hx, hb, hr, hml, hown, hts, hlocks⟩ hK hP rfl rfl (m_X0_isTwoSteps l dC dI h cy σ ((x2 / 5) - (x1 / 5)) ((x2 - x2 / 5 * 5) - (x1 - x1 / 5 * 5)) _ hF) k_X0_isTwoSteps q195 ⟨rfl, rfl⟩ ⟨Nat.le_of_ble_eq_true rfl, Nat.le_of_ble_eq_true rfl⟩ hl.1 rfl rfl (Nat.le_of_ble_eq_true rfl) dX0_isLine_21 ⟨Nat.le_of_ble_eq_true rfl, Nat.le_of_ble_eq_true rfl⟩ (fun r21 hF => ?_)
  refine lv_if_eq (tgt := 59) hx hb dX0_isLine_24 (by decide) (fun cz => ?_) (fun cz => ?_)
  · have hF := hF.1 cz
    refine lv_iconst (v := 0) hx hb dX0_isLine_59 (by decide) ?_
    exact W.zret (v := 0) hx hb hr rfl (fun t ht hW => ⟨0, rfl, hF, ht⟩) (fun q hq => absurd hq List.not_mem_nil) dX0_isLine_60
  · have hF := hF.2 cz
    refine lv_aload_n hx hb dX0_isLine_27 rfl (lv_at hl 2 rfl) ?_
    refine lv_iload_n hx hb dX0_isLine_28 rfl (lv_at hl 3 rfl) ?_
    refine cpVi (q0 := 0) (As := [.int x1]) (rest := []) ⟨hx, hb, hr, hml, hown, hts, hlocks⟩ hK hP rfl rfl (m_X0_isHole l dC dI h cy σ x1 _ hF) k_X0_isHole q187 ⟨rfl, rfl⟩ ⟨Nat.le_of_ble_eq_true rfl, Nat.le_of_ble_eq_true rfl⟩ hl.1 rfl rfl (Nat.le_of_ble_eq_true rfl) dX0_isLine_29 ⟨Nat.le_of_ble_eq_true rfl, Nat.le_of_ble_eq_true rfl⟩ (fun r29 hF => ?_)
    refine lv_if_eq (tgt := 59) hx hb dX0_isLine_32 (by decide) (fun cz => ?_) (fun cz => ?_)
    · have hF := hF.1 cz
      refine lv_iconst (v := 0) hx hb dX0_isLine_59 (by decide) ?_
      exact W.zret (v := 0) hx hb hr rfl (fun t ht hW => ⟨0, rfl, hF, ht⟩) (fun q hq => absurd hq List.not_mem_nil) dX0_isLine_60
    · have hF := hF.2 cz
      refine lv_aload_n hx hb dX0_isLine_35 rfl (lv_at hl 2 rfl) ?_
      refine lv_iload_n hx hb dX0_isLine_36 rfl (lv_at hl 3 rfl) ?_
      refine lv_iload_n hx hb dX0_isLine_37 rfl (lv_at hl 4 rfl) ?_
      refine lv_iadd hx hb dX0_isLine_38 ?_
      refine lv_iconst (v := 2) hx hb dX0_isLine_39 (by decide) ?_
      refine lv_idiv hx hb dX0_isLine_40 (by decide) ?_
      refine cpVi (q0 := 0) (As := [.int ((x1 + x2) / 2)]) (rest := []) ⟨hx, hb, hr, hml, hown, hts, hlocks⟩ hK hP rfl rfl (m_X0_isHole l dC dI h cy σ ((x1 + x2) / 2) _ hF) k_X0_isHole q187 ⟨rfl, rfl⟩ ⟨Nat.le_of_ble_eq_true rfl, Nat.le_of_ble_eq_true rfl⟩ hl.1 rfl rfl (Nat.le_of_ble_eq_true rfl) dX0_isLine_41 ⟨Nat.le_of_ble_eq_true rfl, Nat.le_of_ble_eq_true rfl⟩ (fun r41 hF => ?_)
      refine lv_if_eq (tgt := 59) hx hb dX0_isLine_44 (by decide) (fun cz => ?_) (fun cz => ?_)
      · have hF := hF.1 cz
        refine lv_iconst (v := 0) hx hb dX0_isLine_59 (by decide) ?_
        exact W.zret (v := 0) hx hb hr rfl (fun t ht hW => ⟨0, rfl, hF, ht⟩) (fun q hq => absurd hq List.not_mem_nil) dX0_isLine_60
      · have hF := hF.2 cz
        refine lv_aload_n hx hb dX0_isLine_47 rfl (lv_at hl 2 rfl) ?_
        refine lv_iload_n hx hb dX0_isLine_48 rfl (lv_at hl 4 rfl) ?_
        refine cpVi (q0 := 0) (As := [.int x2]) (rest := []) ⟨hx, hb, hr, hml, hown, hts, hlocks⟩ hK hP rfl rfl (m_X0_isHole l dC dI h cy σ x2 _ hF) k_X0_isHole q187 ⟨rfl, rfl⟩ ⟨Nat.le_of_ble_eq_true rfl, Nat.le_of_ble_eq_true rfl⟩ hl.1 rfl rfl (Nat.le_of_ble_eq_true rfl) dX0_isLine_49 ⟨Nat.le_of_ble_eq_true rfl, Nat.le_of_ble_eq_true rfl⟩ (fun r49 hF => ?_)
        refine lv_if_eq (tgt := 59) hx hb dX0_isLine_52 (by decide) (fun cz => ?_) (fun cz => ?_)
        · have hF := hF.1 cz
          refine lv_iconst (v := 0) hx hb dX0_isLine_59 (by decide) ?_
          exact W.zret (v := 0) hx hb hr rfl (fun t ht hW => ⟨0, rfl, hF, ht⟩) (fun q hq => absurd hq List.not_mem_nil) dX0_isLine_60
        · have hF := hF.2 cz
          refine lv_iconst (v := 1) hx hb dX0_isLine_55 (by decide) ?_
          refine lv_goto (tgt := 60) hx hb dX0_isLine_56 (by decide) ?_
          exact W.zret (v := 1) hx hb hr rfl (fun t ht hW => ⟨1, rfl, hF, ht⟩) (fun q hq => absurd hq List.not_mem_nil) dX0_isLine_60
theorem dX0_layLines_0 : decode cX0_layLines 0 = .ok (.aload_n 0, 1) := by decide +kernel
theorem dX0_layLines_1 : decode cX0_layLines 1 = .ok (.getfield 28, 3) := by decide +kernel
theorem dX0_layLines_4 : decode cX0_layLines 4 = .ok (.invokevirtual 50, 3) := by decide +kernel
theorem dX0_layLines_7 : decode cX0_layLines 7 = .ok (.aload_n 0, 1) := by decide +kernel
theorem dX0_layLines_8 : decode cX0_layLines 8 = .ok (.getfield 31, 3) := by decide +kernel
theorem dX0_layLines_11 : decode cX0_layLines 11 = .ok (.invokevirtual 50, 3) := by decide +kernel
theorem dX0_layLines_14 : decode cX0_layLines 14 = .ok (.aload_n 0, 1) := by decide +kernel
theorem dX0_layLines_15 : decode cX0_layLines 15 = .ok (.getfield 34, 3) := by decide +kernel
theorem dX0_layLines_18 : decode cX0_layLines 18 = .ok (.invokevirtual 50, 3) := by decide +kernel
theorem dX0_layLines_21 : decode cX0_layLines 21 = .ok (.aload_n 0, 1) := by decide +kernel
theorem dX0_layLines_22 : decode cX0_layLines 22 = .ok (.getfield 37, 3) := by decide +kernel
theorem dX0_layLines_25 : decode cX0_layLines 25 = .ok (.invokevirtual 50, 3) := by decide +kernel
theorem dX0_layLines_28 : decode cX0_layLines 28 = .ok (.iconst 0, 1) := by decide +kernel
theorem dX0_layLines_29 : decode cX0_layLines 29 = .ok (.istore_n 1, 1) := by decide +kernel
theorem dX0_layLines_30 : decode cX0_layLines 30 = .ok (.iload_n 1, 1) := by decide +kernel
theorem dX0_layLines_31 : decode cX0_layLines 31 = .ok (.aload_n 0, 1) := by decide +kernel
theorem dX0_layLines_32 : decode cX0_layLines 32 = .ok (.getfield 24, 3) := by decide +kernel
theorem dX0_layLines_35 : decode cX0_layLines 35 = .ok (.invokevirtual 60, 3) := by decide +kernel
theorem dX0_layLines_38 : decode cX0_layLines 38 = .ok (.if_icmp .ge 57, 3) := by decide +kernel
theorem dX0_layLines_41 : decode cX0_layLines 41 = .ok (.iconst 0, 1) := by decide +kernel
theorem dX0_layLines_42 : decode cX0_layLines 42 = .ok (.istore_n 2, 1) := by decide +kernel
theorem dX0_layLines_43 : decode cX0_layLines 43 = .ok (.iload_n 2, 1) := by decide +kernel
theorem dX0_layLines_44 : decode cX0_layLines 44 = .ok (.aload_n 0, 1) := by decide +kernel
theorem dX0_layLines_45 : decode cX0_layLines 45 = .ok (.getfield 24, 3) := by decide +kernel
theorem dX0_layLines_48 : decode cX0_layLines 48 = .ok (.invokevirtual 60, 3) := by decide +kernel
theorem dX0_layLines_51 : decode cX0_layLines 51 = .ok (.if_icmp .ge 38, 3) := by decide +kernel
theorem dX0_layLines_54 : decode cX0_layLines 54 = .ok (.aload_n 0, 1) := by decide +kernel
theorem dX0_layLines_55 : decode cX0_layLines 55 = .ok (.aload_n 0, 1) := by decide +kernel
theorem dX0_layLines_56 : decode cX0_layLines 56 = .ok (.getfield 24, 3) := by decide +kernel
theorem dX0_layLines_59 : decode cX0_layLines 59 = .ok (.iload_n 1, 1) := by decide +kernel
theorem dX0_layLines_60 : decode cX0_layLines 60 = .ok (.invokevirtual 64, 3) := by decide +kernel
theorem dX0_layLines_63 : decode cX0_layLines 63 = .ok (.aload_n 0, 1) := by decide +kernel
theorem dX0_layLines_64 : decode cX0_layLines 64 = .ok (.getfield 24, 3) := by decide +kernel
theorem dX0_layLines_67 : decode cX0_layLines 67 = .ok (.iload_n 2, 1) := by decide +kernel
theorem dX0_layLines_68 : decode cX0_layLines 68 = .ok (.invokevirtual 64, 3) := by decide +kernel
theorem dX0_layLines_71 : decode cX0_layLines 71 = .ok (.invokevirtual 68, 3) := by decide +kernel
theorem dX0_layLines_74 : decode cX0_layLines 74 = .ok (.ifCond .eq 9, 3) := by decide +kernel
theorem dX0_layLines_77 : decode cX0_layLines 77 = .ok (.aload_n 0, 1) := by decide +kernel
theorem dX0_layLines_78 : decode cX0_layLines 78 = .ok (.iload_n 1, 1) := by decide +kernel
theorem dX0_layLines_79 : decode cX0_layLines 79 = .ok (.iload_n 2, 1) := by decide +kernel
theorem dX0_layLines_80 : decode cX0_layLines 80 = .ok (.invokevirtual 72, 3) := by decide +kernel
theorem dX0_layLines_83 : decode cX0_layLines 83 = .ok (.iinc 2 1, 3) := by decide +kernel
theorem dX0_layLines_86 : decode cX0_layLines 86 = .ok (.goto (-43), 3) := by decide +kernel
theorem dX0_layLines_89 : decode cX0_layLines 89 = .ok (.iinc 1 1, 3) := by decide +kernel
theorem dX0_layLines_92 : decode cX0_layLines 92 = .ok (.goto (-62), 3) := by decide +kernel
theorem dX0_layLines_95 : decode cX0_layLines 95 = .ok (.return_, 1) := by decide +kernel
def wp_X0_layLines_J83 (rec43 : Int32 → SX → Prop) (v2_43 : Int32) (s_83 : SX) : Prop := (rec43 (v2_43 + 1) s_83)
def wp_X0_layLines_B43 (v1_30 : Int32) (K43 : SX → Prop) (rec43 : Int32 → SX → Prop) (v2_43 : Int32) (s_43 : SX) : Prop := (wp_X1_size 13 (s_43.2.1 1) (s_43.1 2)  (fun r48 => ((r48 ≤ v2_43 → (K43 s_43)) ∧ (¬ r48 ≤ v2_43 → (wp_X1_at 13 (s_43.2.1 1) (s_43.1 2) v1_30 (fun r60 => (wp_X1_at 13 (s_43.2.1 1) (s_43.1 2) v2_43 (fun r68 => (wp_X0_isLine s_43 r60 r68 (fun r71 => ((r71 = 0 → (wp_X0_layLines_J83 rec43 v2_43 s_43)) ∧ (¬ r71 = 0 → (wp_X0_addLine s_43 v1_30 v2_43 (fun s80 => (wp_X0_layLines_J83 rec43 v2_43 s80)))))))))))))))
def wp_X0_layLines_L43 (v1_30 : Int32) (K43 : SX → Prop) : Nat → Int32 → SX → Prop
  | 0, _, _ => False
  | nn + 1, v2_43, s_43 => wp_X0_layLines_B43 v1_30 K43 (wp_X0_layLines_L43 v1_30 K43 nn) v2_43 s_43
def wp_X0_layLines_B30 (fu : Nat) (K30 : SX → Prop) (rec30 : Int32 → SX → Prop) (v1_30 : Int32) (s_30 : SX) : Prop := (wp_X1_size 13 (s_30.2.1 1) (s_30.1 2)  (fun r35 => ((r35 ≤ v1_30 → (K30 s_30)) ∧ (¬ r35 ≤ v1_30 → (wp_X0_layLines_L43 v1_30 (fun (s_89 : SX) => (rec30 (v1_30 + 1) s_89)) fu 0 s_30)))))
def wp_X0_layLines_L30 (fu : Nat) (K30 : SX → Prop) : Nat → Int32 → SX → Prop
  | 0, _, _ => False
  | nn + 1, v1_30, s_30 => wp_X0_layLines_B30 fu K30 (wp_X0_layLines_L30 fu K30 nn) v1_30 s_30
def wp_X0_layLines (fu : Nat) (σ : SX) (P : SX → Prop) : Prop := (wp_X1_empty 104 (σ.2.1 2) (σ.1 3)  (fun f4 n4 => (wp_X1_empty 104 (σ.2.1 3) (σ.1 4)  (fun f11 n11 => (wp_X1_empty 104 (σ.2.1 4) (σ.1 5)  (fun f18 n18 => (wp_X1_empty 104 (σ.2.1 5) (σ.1 6)  (fun f25 n25 => (wp_X0_layLines_L30 fu (fun (s_95 : SX) => (P s_95)) fu 0 (sI (sA (sI (sA (sI (sA (sI (sA σ 2 f4) 3 n4) 3 f11) 4 n11) 4 f18) 5 n18) 5 f25) 6 n25))))))))))
theorem k_X0_layLines : KV RX0 yX0_layLines cX0_layLines 3 none 0 := ⟨q475, qs11, q2, q476, by decide +kernel⟩
set_option maxHeartbeats 4000000 in
set_option maxRecDepth 100000 in
theorem m_X0_layLines (l : Launch) (dC : Nat → ClassId) (dI : Nat → Nat → Nat) (h : Nat → Nat) (cy : Nat → ClassId) (sz : Nat) (fu : Nat) (σ : SX) (P : SX → Prop) (hF : wp_X0_layLines fu σ P) : Met l yX0_layLines (ws_ yX0_layLines cX0_layLines 3 none) ({ frames := 3, cells := 0, slots := 0, locals := 67 } : Room) (va_Pc [.ref (h 0)] (fun U => U.heap.size = sz ∧ va_P (dC, dI) classes (wB h cy σ) U.heap ∧ kwX dC dI cy U ∧ va_D (fun _ => True) (wB h cy σ))) (va_Qv (fun u => P u) (fun (u : SX) t => va_P (dC, dI) classes (wB h cy u) t.heap ∧ kwX dC dI cy t ∧ va_D (va_A (wB h cy σ) sz) (wB h cy u)) (va_A (wB h cy σ) sz)) 0 0 (va_A (wB h cy σ) sz) := by
  refine Met.ofCx (own := RX0) (by decide) rfl (Nat.le_of_ble_eq_true rfl) ?_
  intro p e s m below meth c hC hv ls hl
  obtain ⟨hx, hb, hr, hml, hown, hts, hlocks⟩ := hC
  have hl : lv_has ls 3 [(0, .ref (h 0))] := hl
  obtain ⟨hsz, hP, hK, hD0⟩ := hv
  subst hsz
  have hD := hD0.self (sz := s.heap.size)
  generalize hAe : va_A (wB h cy σ) s.heap.size = A at hD ⊢
  have hA : ∀ q : Nat, s.heap.size ≤ q → A q := fun q h => by rw [← hAe]; exact Or.inr h
  have hS : va_S A s.heap s.heap [] := va_S.rf
  clear hAe
  unfold wp_X0_layLines at hF
  refine lv_aload_n hx hb dX0_layLines_0 rfl (lv_at hl 0 rfl) ?_
  refine va_get (D := (dC, dI)) (ci := 0) (v := .ref (h 4)) (C := RX0) (T := TX0) (N := 8) hx hb hts in_X0 hown hK.1 hP 0 rfl rfl 4 (by decide) (hts _ q69) (fun _ h9 => h9) rfl dX0_layLines_1 ?_
  have hPc := hP.sub (ws' := wR (h 4) (h 5) cy 104 (σ.2.1 2) (σ.1 3)) [4, 5] rfl
  have hDc := hD.sub (ws' := wR (h 4) (h 5) cy 104 (σ.2.1 2) (σ.1 3)) [4, 5] (by decide) rfl
  have hFc := va_free (wc := wR (h 4) (h 5) cy 104 (σ.2.1 2) (σ.1 3)) hD hS hA [4, 5] rfl
  refine cwVv (q0 := 0) (As := []) (rest := []) ⟨hx, hb, hr, hml, hown, hts, hlocks⟩ hK hPc hDc rfl rfl hS hFc (m_X1_empty l dC dI (h 4) (h 5) cy _ 104 (σ.2.1 2) (σ.1 3)  _ hF) k_X1_empty q477 ⟨rfl, rfl⟩ ⟨Nat.le_of_ble_eq_true rfl, Nat.le_of_ble_eq_true rfl⟩ hl.1 rfl rfl (Nat.le_of_ble_eq_true rfl) dX0_layLines_4 ⟨Nat.le_of_ble_eq_true rfl, Nat.le_of_ble_eq_true rfl⟩ (fun u H1 locs hF hP1 hD1 hk1 hS => ?_)
  obtain ⟨f4, n4⟩ := u
  obtain ⟨hP, hD⟩ := va_join (wr := [(h 0, .inr (0, [.int (σ.1 0), .int (σ.1 1), .ref (h 1), .ref (h 2), .ref (h 4), .ref (h 6), .ref (h 8), .ref (h 10)])), (h 1, .inl (cy 0, 25, .inl (σ.2.1 0))), (h 2, .inr (1, [.ref (h 3), .int (σ.1 2)])), (h 3, .inl (cy 0, 13, .inl (σ.2.1 1))), (h 6, .inr (1, [.ref (h 7), .int (σ.1 4)])), (h 7, .inl (cy 0, 104, .inl (σ.2.1 3))), (h 8, .inr (1, [.ref (h 9), .int (σ.1 5)])), (h 9, .inl (cy 0, 104, .inl (σ.2.1 4))), (h 10, .inr (1, [.ref (h 11), .int (σ.1 6)])), (h 11, .inl (cy 0, 104, .inl (σ.2.1 5)))]) (w1 := wR (h 4) (h 5) cy 104 f4 n4) hP hD [4, 5] [0, 1, 2, 3, 6, 7, 8, 9, 10, 11] rfl rfl (by decide) (by decide) hk1 hFc hP1 hD1
  have hP := hP.sub (ws' := wB h cy (sI (sA σ 2 f4) 3 n4)) [0, 1, 2, 3, 10, 11, 4, 5, 6, 7, 8, 9] rfl
  have hD := hD.sub (ws' := wB h cy (sI (sA σ 2 f4) 3 n4)) [0, 1, 2, 3, 10, 11, 4, 5, 6, 7, 8, 9] (by decide) rfl
  generalize H1 = H at hP hS ⊢
  have hP : va_P (dC, dI) classes (wB h cy (sI (sA σ 2 f4) 3 n4)) H := hP
  have hD : va_D A (wB h cy (sI (sA σ 2 f4) 3 n4)) := hD
  refine lv_aload_n hx hb dX0_layLines_7 rfl (lv_at hl 0 rfl) ?_
  refine va_get (D := (dC, dI)) (ci := 0) (v := .ref (h 6)) (C := RX0) (T := TX0) (N := 8) hx hb hts in_X0 hown hK.1 hP 0 rfl rfl 5 (by decide) (hts _ q70) (fun _ h9 => h9) rfl dX0_layLines_8 ?_
  have hPc := hP.sub (ws' := wR (h 6) (h 7) cy 104 (σ.2.1 3) (σ.1 4)) [6, 7] rfl
  have hDc := hD.sub (ws' := wR (h 6) (h 7) cy 104 (σ.2.1 3) (σ.1 4)) [6, 7] (by decide) rfl
  have hFc := va_free (wc := wR (h 6) (h 7) cy 104 (σ.2.1 3) (σ.1 4)) hD hS hA [6, 7] rfl
  refine cwVv (q0 := 0) (As := []) (rest := []) ⟨hx, hb, hr, hml, hown, hts, hlocks⟩ hK hPc hDc rfl rfl hS hFc (m_X1_empty l dC dI (h 6) (h 7) cy _ 104 (σ.2.1 3) (σ.1 4)  _ hF) k_X1_empty q477 ⟨rfl, rfl⟩ ⟨Nat.le_of_ble_eq_true rfl, Nat.le_of_ble_eq_true rfl⟩ hl.1 rfl rfl (Nat.le_of_ble_eq_true rfl) dX0_layLines_11 ⟨Nat.le_of_ble_eq_true rfl, Nat.le_of_ble_eq_true rfl⟩ (fun u H1 locs hF hP1 hD1 hk1 hS => ?_)
  obtain ⟨f11, n11⟩ := u
  obtain ⟨hP, hD⟩ := va_join (wr := [(h 0, .inr (0, [.int (σ.1 0), .int (σ.1 1), .ref (h 1), .ref (h 2), .ref (h 4), .ref (h 6), .ref (h 8), .ref (h 10)])), (h 1, .inl (cy 0, 25, .inl (σ.2.1 0))), (h 2, .inr (1, [.ref (h 3), .int (σ.1 2)])), (h 3, .inl (cy 0, 13, .inl (σ.2.1 1))), (h 4, .inr (1, [.ref (h 5), .int (n4)])), (h 5, .inl (cy 0, 104, .inl (f4))), (h 8, .inr (1, [.ref (h 9), .int (σ.1 5)])), (h 9, .inl (cy 0, 104, .inl (σ.2.1 4))), (h 10, .inr (1, [.ref (h 11), .int (σ.1 6)])), (h 11, .inl (cy 0, 104, .inl (σ.2.1 5)))]) (w1 := wR (h 6) (h 7) cy 104 f11 n11) hP hD [6, 7] [0, 1, 2, 3, 4, 5, 8, 9, 10, 11] rfl rfl (by decide) (by decide) hk1 hFc hP1 hD1
  have hP := hP.sub (ws' := wB h cy (sI (sA (sI (sA σ 2 f4) 3 n4) 3 f11) 4 n11)) [0, 1, 2, 3, 4, 5, 10, 11, 6, 7, 8, 9] rfl
  have hD := hD.sub (ws' := wB h cy (sI (sA (sI (sA σ 2 f4) 3 n4) 3 f11) 4 n11)) [0, 1, 2, 3, 4, 5, 10, 11, 6, 7, 8, 9] (by decide) rfl
  generalize H1 = H at hP hS ⊢
  have hP : va_P (dC, dI) classes (wB h cy (sI (sA (sI (sA σ 2 f4) 3 n4) 3 f11) 4 n11)) H := hP
  have hD : va_D A (wB h cy (sI (sA (sI (sA σ 2 f4) 3 n4) 3 f11) 4 n11)) := hD
  refine lv_aload_n hx hb dX0_layLines_14 rfl (lv_at hl 0 rfl) ?_
  refine va_get (D := (dC, dI)) (ci := 0) (v := .ref (h 8)) (C := RX0) (T := TX0) (N := 8) hx hb hts in_X0 hown hK.1 hP 0 rfl rfl 6 (by decide) (hts _ q71) (fun _ h9 => h9) rfl dX0_layLines_15 ?_
  have hPc := hP.sub (ws' := wR (h 8) (h 9) cy 104 (σ.2.1 4) (σ.1 5)) [8, 9] rfl
  have hDc := hD.sub (ws' := wR (h 8) (h 9) cy 104 (σ.2.1 4) (σ.1 5)) [8, 9] (by decide) rfl
  have hFc := va_free (wc := wR (h 8) (h 9) cy 104 (σ.2.1 4) (σ.1 5)) hD hS hA [8, 9] rfl
  refine cwVv (q0 := 0) (As := []) (rest := []) ⟨hx, hb, hr, hml, hown, hts, hlocks⟩ hK hPc hDc rfl rfl hS hFc (m_X1_empty l dC dI (h 8) (h 9) cy _ 104 (σ.2.1 4) (σ.1 5)  _ hF) k_X1_empty q477 ⟨rfl, rfl⟩ ⟨Nat.le_of_ble_eq_true rfl, Nat.le_of_ble_eq_true rfl⟩ hl.1 rfl rfl (Nat.le_of_ble_eq_true rfl) dX0_layLines_18 ⟨Nat.le_of_ble_eq_true rfl, Nat.le_of_ble_eq_true rfl⟩ (fun u H1 locs hF hP1 hD1 hk1 hS => ?_)
  obtain ⟨f18, n18⟩ := u
  obtain ⟨hP, hD⟩ := va_join (wr := [(h 0, .inr (0, [.int (σ.1 0), .int (σ.1 1), .ref (h 1), .ref (h 2), .ref (h 4), .ref (h 6), .ref (h 8), .ref (h 10)])), (h 1, .inl (cy 0, 25, .inl (σ.2.1 0))), (h 2, .inr (1, [.ref (h 3), .int (σ.1 2)])), (h 3, .inl (cy 0, 13, .inl (σ.2.1 1))), (h 4, .inr (1, [.ref (h 5), .int (n4)])), (h 5, .inl (cy 0, 104, .inl (f4))), (h 6, .inr (1, [.ref (h 7), .int (n11)])), (h 7, .inl (cy 0, 104, .inl (f11))), (h 10, .inr (1, [.ref (h 11), .int (σ.1 6)])), (h 11, .inl (cy 0, 104, .inl (σ.2.1 5)))]) (w1 := wR (h 8) (h 9) cy 104 f18 n18) hP hD [8, 9] [0, 1, 2, 3, 4, 5, 6, 7, 10, 11] rfl rfl (by decide) (by decide) hk1 hFc hP1 hD1
  have hP := hP.sub (ws' := wB h cy (sI (sA (sI (sA (sI (sA σ 2 f4) 3 n4) 3 f11) 4 n11) 4 f18) 5 n18)) [0, 1, 2, 3, 4, 5, 6, 7, 10, 11, 8, 9] rfl
  have hD := hD.sub (ws' := wB h cy (sI (sA (sI (sA (sI (sA σ 2 f4) 3 n4) 3 f11) 4 n11) 4 f18) 5 n18)) [0, 1, 2, 3, 4, 5, 6, 7, 10, 11, 8, 9] (by decide) rfl
  generalize H1 = H at hP hS ⊢
  have hP : va_P (dC, dI) classes (wB h cy (sI (sA (sI (sA (sI (sA σ 2 f4) 3 n4) 3 f11) 4 n11) 4 f18) 5 n18)) H := hP
  have hD : va_D A (wB h cy (sI (sA (sI (sA (sI (sA σ 2 f4) 3 n4) 3 f11) 4 n11) 4 f18) 5 n18)) := hD
  refine lv_aload_n hx hb dX0_layLines_21 rfl (lv_at hl 0 rfl) ?_
  refine va_get (D := (dC, dI)) (ci := 0) (v := .ref (h 10)) (C := RX0) (T := TX0) (N := 8) hx hb hts in_X0 hown hK.1 hP 0 rfl rfl 7 (by decide) (hts _ q72) (fun _ h9 => h9) rfl dX0_layLines_22 ?_
  have hPc := hP.sub (ws' := wR (h 10) (h 11) cy 104 (σ.2.1 5) (σ.1 6)) [10, 11] rfl
  have hDc := hD.sub (ws' := wR (h 10) (h 11) cy 104 (σ.2.1 5) (σ.1 6)) [10, 11] (by decide) rfl
  have hFc := va_free (wc := wR (h 10) (h 11) cy 104 (σ.2.1 5) (σ.1 6)) hD hS hA [10, 11] rfl
  refine cwVv (q0 := 0) (As := []) (rest := []) ⟨hx, hb, hr, hml, hown, hts, hlocks⟩ hK hPc hDc rfl rfl hS hFc (m_X1_empty l dC dI (h 10) (h 11) cy _ 104 (σ.2.1 5) (σ.1 6)  _ hF) k_X1_empty q477 ⟨rfl, rfl⟩ ⟨Nat.le_of_ble_eq_true rfl, Nat.le_of_ble_eq_true rfl⟩ hl.1 rfl rfl (Nat.le_of_ble_eq_true rfl) dX0_layLines_25 ⟨Nat.le_of_ble_eq_true rfl, Nat.le_of_ble_eq_true rfl⟩ (fun u H1 locs hF hP1 hD1 hk1 hS => ?_)
  obtain ⟨f25, n25⟩ := u
  obtain ⟨hP, hD⟩ := va_join (wr := [(h 0, .inr (0, [.int (σ.1 0), .int (σ.1 1), .ref (h 1), .ref (h 2), .ref (h 4), .ref (h 6), .ref (h 8), .ref (h 10)])), (h 1, .inl (cy 0, 25, .inl (σ.2.1 0))), (h 2, .inr (1, [.ref (h 3), .int (σ.1 2)])), (h 3, .inl (cy 0, 13, .inl (σ.2.1 1))), (h 4, .inr (1, [.ref (h 5), .int (n4)])), (h 5, .inl (cy 0, 104, .inl (f4))), (h 6, .inr (1, [.ref (h 7), .int (n11)])), (h 7, .inl (cy 0, 104, .inl (f11))), (h 8, .inr (1, [.ref (h 9), .int (n18)])), (h 9, .inl (cy 0, 104, .inl (f18)))]) (w1 := wR (h 10) (h 11) cy 104 f25 n25) hP hD [10, 11] [0, 1, 2, 3, 4, 5, 6, 7, 8, 9] rfl rfl (by decide) (by decide) hk1 hFc hP1 hD1
  have hP := hP.sub (ws' := wB h cy (sI (sA (sI (sA (sI (sA (sI (sA σ 2 f4) 3 n4) 3 f11) 4 n11) 4 f18) 5 n18) 5 f25) 6 n25)) [0, 1, 2, 3, 4, 5, 6, 7, 8, 9, 10, 11] rfl
  have hD := hD.sub (ws' := wB h cy (sI (sA (sI (sA (sI (sA (sI (sA σ 2 f4) 3 n4) 3 f11) 4 n11) 4 f18) 5 n18) 5 f25) 6 n25)) [0, 1, 2, 3, 4, 5, 6, 7, 8, 9, 10, 11] (by decide) rfl
  generalize H1 = H at hP hS ⊢
  have hP : va_P (dC, dI) classes (wB h cy (sI (sA (sI (sA (sI (sA (sI (sA σ 2 f4) 3 n4) 3 f11) 4 n11) 4 f18) 5 n18) 5 f25) 6 n25)) H := hP
  have hD : va_D A (wB h cy (sI (sA (sI (sA (sI (sA (sI (sA σ 2 f4) 3 n4) 3 f11) 4 n11) 4 f18) 5 n18) 5 f25) 6 n25)) := hD
  refine lv_iconst (v := 0) hx hb dX0_layLines_28 (by decide) ?_
  refine lv_istore_n (lv' := [(1, .int 0), (0, .ref (h 0))]) hx hb dX0_layLines_29 rfl hl (by decide) rfl (fun ls hl => ?_)
  have hX30 : ∀ (s_95 : SX), (fun (s_95 : SX) => (P s_95)) s_95 → ∀ (H : Heap) (locs : List Loc), va_P (dC, dI) classes (wB h cy s_95) H → va_D A (wB h cy s_95) → va_S A s.heap H locs → ∀ (ls : Array Slot), lv_has ls 3 [] → W p l e ({ frames := 3, cells := 0, slots := 0, locals := 67 } : Room) s m ([.ref (h 0)] : List Value).toArray below meth c H locs 0 0 (MQ below (va_Qv (fun u => P u) (fun (u : SX) t => va_P (dC, dI) classes (wB h cy u) t.heap ∧ kwX dC dI cy t ∧ va_D A (wB h cy u)) A) ([.ref (h 0)] : List Value).toArray s 0 0 A) (F0 m 95 ls []) := by
    intro s_95 hF H locs hP hD hS ls hl
    exact W.vret hx hb hr (fun t ht hW => ⟨⟨s_95, rfl, hF, by rw [ht]; exact hP, hK.warm hW, hD⟩, hS.F ht⟩) hS.2.2 dX0_layLines_95
  have hL30 : ∀ (K30 : SX → Prop), (∀ (s_95 : SX), K30 s_95 → ∀ (H : Heap) (locs : List Loc), va_P (dC, dI) classes (wB h cy s_95) H → va_D A (wB h cy s_95) → va_S A s.heap H locs → ∀ (ls : Array Slot), lv_has ls 3 [] → W p l e ({ frames := 3, cells := 0, slots := 0, locals := 67 } : Room) s m ([.ref (h 0)] : List Value).toArray below meth c H locs 0 0 (MQ below (va_Qv (fun u => P u) (fun (u : SX) t => va_P (dC, dI) classes (wB h cy u) t.heap ∧ kwX dC dI cy t ∧ va_D A (wB h cy u)) A) ([.ref (h 0)] : List Value).toArray s 0 0 A) (F0 m 95 ls [])) → ∀ (nn : Nat), ∀ (v1_30 : Int32), ∀ (s_30 : SX), wp_X0_layLines_L30 fu K30 nn v1_30 s_30 → ∀ (H : Heap) (locs : List Loc), va_P (dC, dI) classes (wB h cy s_30) H → va_D A (wB h cy s_30) → va_S A s.heap H locs → ∀ (ls : Array Slot), lv_has ls 3 [(1, .int v1_30), (0, .ref (h 0))] → W p l e ({ frames := 3, cells := 0, slots := 0, locals := 67 } : Room) s m ([.ref (h 0)] : List Value).toArray below meth c H locs 0 0 (MQ below (va_Qv (fun u => P u) (fun (u : SX) t => va_P (dC, dI) classes (wB h cy u) t.heap ∧ kwX dC dI cy t ∧ va_D A (wB h cy u)) A) ([.ref (h 0)] : List Value).toArray s 0 0 A) (F0 m 30 ls []) := by
    intro K30 hX30 nn
    induction nn with
    | zero =>
      intro v1_30 s_30 hF
      exact hF.elim
    | succ nn ih =>
      intro v1_30 s_30 hF H locs hP hD hS ls hl
      obtain ⟨rec30, hrec⟩ : ∃ z : Int32 → SX → Prop, z = wp_X0_layLines_L30 fu K30 nn := ⟨_, rfl⟩
      have hF : wp_X0_layLines_B30 fu K30 rec30 v1_30 s_30 := by rw [hrec]; exact hF
      rw [← hrec] at ih
      clear hrec
      unfold wp_X0_layLines_B30 at hF
      refine lv_iload_n hx hb dX0_layLines_30 rfl (lv_at hl 0 rfl) ?_
      refine lv_aload_n hx hb dX0_layLines_31 rfl (lv_at hl 1 rfl) ?_
      refine va_get (D := (dC, dI)) (ci := 0) (v := .ref (h 2)) (C := RX0) (T := TX0) (N := 8) hx hb hts in_X0 hown hK.1 hP 0 rfl rfl 3 (by decide) (hts _ q68) (fun _ h9 => h9) rfl dX0_layLines_32 ?_
      have hPc := hP.sub (ws' := wR (h 2) (h 3) cy 13 (s_30.2.1 1) (s_30.1 2)) [2, 3] rfl
      refine cpVi (q0 := 0) (As := []) (rest := [.int v1_30]) ⟨hx, hb, hr, hml, hown, hts, hlocks⟩ hK hPc rfl rfl (m_X1_size l dC dI (h 2) (h 3) cy 13 (s_30.2.1 1) (s_30.1 2)  _ hF) k_X1_size q168 ⟨rfl, rfl⟩ ⟨Nat.le_of_ble_eq_true rfl, Nat.le_of_ble_eq_true rfl⟩ hl.1 rfl rfl (Nat.le_of_ble_eq_true rfl) dX0_layLines_35 ⟨Nat.le_of_ble_eq_true rfl, Nat.le_of_ble_eq_true rfl⟩ (fun r35 hF => ?_)
      refine lv_icmp_ge (tgt := 95) hx hb dX0_layLines_38 (by decide) (fun cz => ?_) (fun cz => ?_)
      · have hF := hF.1 cz
        exact hX30 s_30 hF _ _ hP hD hS _ (lv_sub hl [] rfl)
      · have hF := hF.2 cz
        refine lv_iconst (v := 0) hx hb dX0_layLines_41 (by decide) ?_
        refine lv_istore_n (lv' := [(2, .int 0), (1, .int v1_30), (0, .ref (h 0))]) hx hb dX0_layLines_42 rfl hl (by decide) rfl (fun ls hl => ?_)
        have hX43 : ∀ (s_89 : SX), (fun (s_89 : SX) => (rec30 (v1_30 + 1) s_89)) s_89 → ∀ (H : Heap) (locs : List Loc), va_P (dC, dI) classes (wB h cy s_89) H → va_D A (wB h cy s_89) → va_S A s.heap H locs → ∀ (ls : Array Slot), lv_has ls 3 [(1, .int v1_30), (0, .ref (h 0))] → W p l e ({ frames := 3, cells := 0, slots := 0, locals := 67 } : Room) s m ([.ref (h 0)] : List Value).toArray below meth c H locs 0 0 (MQ below (va_Qv (fun u => P u) (fun (u : SX) t => va_P (dC, dI) classes (wB h cy u) t.heap ∧ kwX dC dI cy t ∧ va_D A (wB h cy u)) A) ([.ref (h 0)] : List Value).toArray s 0 0 A) (F0 m 89 ls []) := by
          intro s_89 hF H locs hP hD hS ls hl
          refine lv_iinc (v := v1_30 + 1) (lv' := [(1, .int (v1_30 + 1)), (0, .ref (h 0))]) hx hb dX0_layLines_89 hl (k := 0) rfl (by rfl) (by decide) rfl (fun ls hl => ?_)
          refine lv_goto (tgt := 30) hx hb dX0_layLines_92 (by decide) ?_
          exact ih (v1_30 + 1) s_89 hF _ _ hP hD hS _ (lv_sub hl [0, 1] rfl)
        have hL43 : ∀ (K43 : SX → Prop), (∀ (s_89 : SX), K43 s_89 → ∀ (H : Heap) (locs : List Loc), va_P (dC, dI) classes (wB h cy s_89) H → va_D A (wB h cy s_89) → va_S A s.heap H locs → ∀ (ls : Array Slot), lv_has ls 3 [(1, .int v1_30), (0, .ref (h 0))] → W p l e ({ frames := 3, cells := 0, slots := 0, locals := 67 } : Room) s m ([.ref (h 0)] : List Value).toArray below meth c H locs 0 0 (MQ below (va_Qv (fun u => P u) (fun (u : SX) t => va_P (dC, dI) classes (wB h cy u) t.heap ∧ kwX dC dI cy t ∧ va_D A (wB h cy u)) A) ([.ref (h 0)] : List Value).toArray s 0 0 A) (F0 m 89 ls [])) → ∀ (nn : Nat), ∀ (v2_43 : Int32), ∀ (s_43 : SX), wp_X0_layLines_L43 v1_30 K43 nn v2_43 s_43 → ∀ (H : Heap) (locs : List Loc), va_P (dC, dI) classes (wB h cy s_43) H → va_D A (wB h cy s_43) → va_S A s.heap H locs → ∀ (ls : Array Slot), lv_has ls 3 [(2, .int v2_43), (1, .int v1_30), (0, .ref (h 0))] → W p l e ({ frames := 3, cells := 0, slots := 0, locals := 67 } : Room) s m ([.ref (h 0)] : List Value).toArray below meth c H locs 0 0 (MQ below (va_Qv (fun u => P u) (fun (u : SX) t => va_P (dC, dI) classes (wB h cy u) t.heap ∧ kwX dC dI cy t ∧ va_D A (wB h cy u)) A) ([.ref (h 0)] : List Value).toArray s 0 0 A) (F0 m 43 ls []) := by
          intro K43 hX43 nn
          induction nn with
          | zero =>
            intro v2_43 s_43 hF
            exact hF.elim
          | succ nn ih =>
            intro v2_43 s_43 hF H locs hP hD hS ls hl
            obtain ⟨rec43, hrec⟩ : ∃ z : Int32 → SX → Prop, z = wp_X0_layLines_L43 v1_30 K43 nn := ⟨_, rfl⟩
            have hF : wp_X0_layLines_B43 v1_30 K43 rec43 v2_43 s_43 := by rw [hrec]; exact hF
            rw [← hrec] at ih
            clear hrec
            unfold wp_X0_layLines_B43 at hF
            refine lv_iload_n hx hb dX0_layLines_43 rfl (lv_at hl 0 rfl) ?_
            refine lv_aload_n hx hb dX0_layLines_44 rfl (lv_at hl 2 rfl) ?_
            refine va_get (D := (dC, dI)) (ci := 0) (v := .ref (h 2)) (C := RX0) (T := TX0) (N := 8) hx hb hts in_X0 hown hK.1 hP 0 rfl rfl 3 (by decide) (hts _ q68) (fun _ h9 => h9) rfl dX0_layLines_45 ?_
            have hPc := hP.sub (ws' := wR (h 2) (h 3) cy 13 (s_43.2.1 1) (s_43.1 2)) [2, 3] rfl
            refine cpVi (q0 := 0) (As := []) (rest := [.int v2_43]) ⟨hx, hb, hr, hml, hown, hts, hlocks⟩ hK hPc rfl rfl (m_X1_size l dC dI (h 2) (h 3) cy 13 (s_43.2.1 1) (s_43.1 2)  _ hF) k_X1_size q168 ⟨rfl, rfl⟩ ⟨Nat.le_of_ble_eq_true rfl, Nat.le_of_ble_eq_true rfl⟩ hl.1 rfl rfl (Nat.le_of_ble_eq_true rfl) dX0_layLines_48 ⟨Nat.le_of_ble_eq_true rfl, Nat.le_of_ble_eq_true rfl⟩ (fun r48 hF => ?_)
            refine lv_icmp_ge (tgt := 89) hx hb dX0_layLines_51 (by decide) (fun cz => ?_) (fun cz => ?_)
            · have hF := hF.1 cz
              exact hX43 s_43 hF _ _ hP hD hS _ (lv_sub hl [1, 2] rfl)
            · have hF := hF.2 cz
              refine lv_aload_n hx hb dX0_layLines_54 rfl (lv_at hl 2 rfl) ?_
              refine lv_aload_n hx hb dX0_layLines_55 rfl (lv_at hl 2 rfl) ?_
              refine va_get (D := (dC, dI)) (ci := 0) (v := .ref (h 2)) (C := RX0) (T := TX0) (N := 8) hx hb hts in_X0 hown hK.1 hP 0 rfl rfl 3 (by decide) (hts _ q68) (fun _ h9 => h9) rfl dX0_layLines_56 ?_
              refine lv_iload_n hx hb dX0_layLines_59 rfl (lv_at hl 1 rfl) ?_
              have hPc := hP.sub (ws' := wR (h 2) (h 3) cy 13 (s_43.2.1 1) (s_43.1 2)) [2, 3] rfl
              refine cpVi (q0 := 0) (As := [.int v1_30]) (rest := [.ref (h 0)]) ⟨hx, hb, hr, hml, hown, hts, hlocks⟩ hK hPc rfl rfl (m_X1_at l dC dI (h 2) (h 3) cy 13 (s_43.2.1 1) (s_43.1 2) v1_30 _ hF) k_X1_at q180 ⟨rfl, rfl⟩ ⟨Nat.le_of_ble_eq_true rfl, Nat.le_of_ble_eq_true rfl⟩ hl.1 rfl rfl (Nat.le_of_ble_eq_true rfl) dX0_layLines_60 ⟨Nat.le_of_ble_eq_true rfl, Nat.le_of_ble_eq_true rfl⟩ (fun r60 hF => ?_)
              refine lv_aload_n hx hb dX0_layLines_63 rfl (lv_at hl 2 rfl) ?_
              refine va_get (D := (dC, dI)) (ci := 0) (v := .ref (h 2)) (C := RX0) (T := TX0) (N := 8) hx hb hts in_X0 hown hK.1 hP 0 rfl rfl 3 (by decide) (hts _ q68) (fun _ h9 => h9) rfl dX0_layLines_64 ?_
              refine lv_iload_n hx hb dX0_layLines_67 rfl (lv_at hl 0 rfl) ?_
              have hPc := hP.sub (ws' := wR (h 2) (h 3) cy 13 (s_43.2.1 1) (s_43.1 2)) [2, 3] rfl
              refine cpVi (q0 := 0) (As := [.int v2_43]) (rest := [.int r60, .ref (h 0)]) ⟨hx, hb, hr, hml, hown, hts, hlocks⟩ hK hPc rfl rfl (m_X1_at l dC dI (h 2) (h 3) cy 13 (s_43.2.1 1) (s_43.1 2) v2_43 _ hF) k_X1_at q180 ⟨rfl, rfl⟩ ⟨Nat.le_of_ble_eq_true rfl, Nat.le_of_ble_eq_true rfl⟩ hl.1 rfl rfl (Nat.le_of_ble_eq_true rfl) dX0_layLines_68 ⟨Nat.le_of_ble_eq_true rfl, Nat.le_of_ble_eq_true rfl⟩ (fun r68 hF => ?_)
              refine cpVi (q0 := 0) (As := [.int r60, .int r68]) (rest := []) ⟨hx, hb, hr, hml, hown, hts, hlocks⟩ hK hP rfl rfl (m_X0_isLine l dC dI h cy s_43 r60 r68 _ hF) k_X0_isLine q191 ⟨rfl, rfl⟩ ⟨Nat.le_of_ble_eq_true rfl, Nat.le_of_ble_eq_true rfl⟩ hl.1 rfl rfl (Nat.le_of_ble_eq_true rfl) dX0_layLines_71 ⟨Nat.le_of_ble_eq_true rfl, Nat.le_of_ble_eq_true rfl⟩ (fun r71 hF => ?_)
              have hJ83 : ∀ (s_83 : SX), wp_X0_layLines_J83 rec43 v2_43 s_83 → ∀ (H : Heap) (locs : List Loc), va_P (dC, dI) classes (wB h cy s_83) H → va_D A (wB h cy s_83) → va_S A s.heap H locs → ∀ (ls : Array Slot), lv_has ls 3 [(2, .int v2_43), (1, .int v1_30), (0, .ref (h 0))] → W p l e ({ frames := 3, cells := 0, slots := 0, locals := 67 } : Room) s m ([.ref (h 0)] : List Value).toArray below meth c H locs 0 0 (MQ below (va_Qv (fun u => P u) (fun (u : SX) t => va_P (dC, dI) classes (wB h cy u) t.heap ∧ kwX dC dI cy t ∧ va_D A (wB h cy u)) A) ([.ref (h 0)] : List Value).toArray s 0 0 A) (F0 m 83 ls []) := by
                intro s_83 hF H locs hP hD hS ls hl
                unfold wp_X0_layLines_J83 at hF
                refine lv_iinc (v := v2_43 + 1) (lv' := [(2, .int (v2_43 + 1)), (1, .int v1_30), (0, .ref (h 0))]) hx hb dX0_layLines_83 hl (k := 0) rfl (by rfl) (by decide) rfl (fun ls hl => ?_)
                refine lv_goto (tgt := 43) hx hb dX0_layLines_86 (by decide) ?_
                exact ih (v2_43 + 1) s_83 hF _ _ hP hD hS _ (lv_sub hl [0, 1, 2] rfl)
              refine lv_if_eq (tgt := 83) hx hb dX0_layLines_74 (by decide) (fun cz => ?_) (fun cz => ?_)
              · have hF := hF.1 cz
                exact hJ83 s_43 hF _ _ hP hD hS _ (lv_sub hl [0, 1, 2] rfl)
              · have hF := hF.2 cz
                refine lv_aload_n hx hb dX0_layLines_77 rfl (lv_at hl 2 rfl) ?_
                refine lv_iload_n hx hb dX0_layLines_78 rfl (lv_at hl 1 rfl) ?_
                refine lv_iload_n hx hb dX0_layLines_79 rfl (lv_at hl 0 rfl) ?_
                have hFc := va_free (wc := wB h cy s_43) hD hS hA [0, 1, 2, 3, 4, 5, 6, 7, 8, 9, 10, 11] rfl
                refine cwVv (q0 := 0) (As := [.int v1_30, .int v2_43]) (rest := []) ⟨hx, hb, hr, hml, hown, hts, hlocks⟩ hK hP hD rfl rfl hS hFc (m_X0_addLine l dC dI h cy _ s_43 v1_30 v2_43 _ hF) k_X0_addLine q478 ⟨rfl, rfl⟩ ⟨Nat.le_of_ble_eq_true rfl, Nat.le_of_ble_eq_true rfl⟩ hl.1 rfl rfl (Nat.le_of_ble_eq_true rfl) dX0_layLines_80 ⟨Nat.le_of_ble_eq_true rfl, Nat.le_of_ble_eq_true rfl⟩ (fun u H1 locs hF hP1 hD1 hk1 hS => ?_)
                obtain ⟨s80, rfl⟩ : ∃ z, z = u := ⟨_, rfl⟩
                have hP := hP1
                have hD := hD1.weaken (fun _ q _ h => hFc q.1 h)
                generalize H1 = H at hP hS ⊢
                have hP : va_P (dC, dI) classes (wB h cy s80) H := hP
                have hD : va_D A (wB h cy s80) := hD
                exact hJ83 s80 hF _ _ hP hD hS _ (lv_sub hl [0, 1, 2] rfl)
        exact hL43 _ hX43 fu 0 s_30 hF _ _ hP hD hS _ (lv_sub hl [0, 1, 2] rfl)
  exact hL30 _ hX30 fu 0 (sI (sA (sI (sA (sI (sA (sI (sA σ 2 f4) 3 n4) 3 f11) 4 n11) 4 f18) 5 n18) 5 f25) 6 n25) hF _ _ hP hD hS _ (lv_sub hl [0, 1] rfl)
theorem dX0_changeKind_0 : decode cX0_changeKind 0 = .ok (.aload_n 0, 1) := by decide +kernel
theorem dX0_changeKind_1 : decode cX0_changeKind 1 = .ok (.iload_n 1, 1) := by decide +kernel
theorem dX0_changeKind_2 : decode cX0_changeKind 2 = .ok (.putfield 9, 3) := by decide +kernel
theorem dX0_changeKind_5 : decode cX0_changeKind 5 = .ok (.aload_n 0, 1) := by decide +kernel
theorem dX0_changeKind_6 : decode cX0_changeKind 6 = .ok (.invokevirtual 40, 3) := by decide +kernel
theorem dX0_changeKind_9 : decode cX0_changeKind 9 = .ok (.return_, 1) := by decide +kernel
def wp_X0_changeKind (fu : Nat) (σ : SX) (x1 : Int32) (P : SX → Prop) : Prop := ((narrow .char (.int x1) = .int x1 ∧ fits .char (.int x1) = true) ∧ (wp_X0_layLines fu (sI σ 0 x1)  (fun s6 => (P s6))))
theorem k_X0_changeKind : KV RX0 yX0_changeKind cX0_changeKind 2 none 1 := ⟨q470, q471, q2, q472, by decide +kernel⟩
set_option maxHeartbeats 4000000 in
set_option maxRecDepth 100000 in
theorem m_X0_changeKind (l : Launch) (dC : Nat → ClassId) (dI : Nat → Nat → Nat) (h : Nat → Nat) (cy : Nat → ClassId) (sz : Nat) (fu : Nat) (σ : SX) (x1 : Int32) (P : SX → Prop) (hF : wp_X0_changeKind fu σ x1 P) : Met l yX0_changeKind (ws_ yX0_changeKind cX0_changeKind 2 none) ({ frames := 4, cells := 0, slots := 0, locals := 89 } : Room) (va_Pc [.ref (h 0), .int x1] (fun U => U.heap.size = sz ∧ va_P (dC, dI) classes (wB h cy σ) U.heap ∧ kwX dC dI cy U ∧ va_D (fun _ => True) (wB h cy σ))) (va_Qv (fun u => P u) (fun (u : SX) t => va_P (dC, dI) classes (wB h cy u) t.heap ∧ kwX dC dI cy t ∧ va_D (va_A (wB h cy σ) sz) (wB h cy u)) (va_A (wB h cy σ) sz)) 0 0 (va_A (wB h cy σ) sz) := by
  refine Met.ofCx (own := RX0) (by decide) rfl (Nat.le_of_ble_eq_true rfl) ?_
  intro p e s m below meth c hC hv ls hl
  obtain ⟨hx, hb, hr, hml, hown, hts, hlocks⟩ := hC
  have hl : lv_has ls 2 [(0, .ref (h 0)), (1, .int x1)] := hl
  obtain ⟨hsz, hP, hK, hD0⟩ := hv
  subst hsz
  have hD := hD0.self (sz := s.heap.size)
  generalize hAe : va_A (wB h cy σ) s.heap.size = A at hD ⊢
  have hA : ∀ q : Nat, s.heap.size ≤ q → A q := fun q h => by rw [← hAe]; exact Or.inr h
  have hS : va_S A s.heap s.heap [] := va_S.rf
  clear hAe
  unfold wp_X0_changeKind at hF
  refine lv_aload_n hx hb dX0_changeKind_0 rfl (lv_at hl 0 rfl) ?_
  refine lv_iload_n hx hb dX0_changeKind_1 rfl (lv_at hl 1 rfl) ?_
  have hO := hF.1
  have hF := hF.2
  refine va_put (D := (dC, dI)) (ci := 0) (v := .int x1) (ty := .char) (C := RX0) (T := TX0) (N := 8) hx hb hts in_X0 tyX0 tyX0_ok nmX0 hown hK.1 hP hD hS 0 rfl rfl 0 (by decide) (hts _ q64) (fun _ h9 => h9) rfl (by decide +kernel) hO.1 hO.2 (Nat.le_of_ble_eq_true rfl) dX0_changeKind_2 (fun H locs hP hD hS => ?_)
  have hP : va_P (dC, dI) classes (wB h cy (sI σ 0 x1)) H := hP
  have hD : va_D A (wB h cy (sI σ 0 x1)) := hD
  refine lv_aload_n hx hb dX0_changeKind_5 rfl (lv_at hl 0 rfl) ?_
  have hFc := va_free (wc := wB h cy (sI σ 0 x1)) hD hS hA [0, 1, 2, 3, 4, 5, 6, 7, 8, 9, 10, 11] rfl
  refine cwVv (q0 := 0) (As := []) (rest := []) ⟨hx, hb, hr, hml, hown, hts, hlocks⟩ hK hP hD rfl rfl hS hFc (m_X0_layLines l dC dI h cy _ fu (sI σ 0 x1)  _ hF) k_X0_layLines q473 ⟨rfl, rfl⟩ ⟨Nat.le_of_ble_eq_true rfl, Nat.le_of_ble_eq_true rfl⟩ hl.1 rfl rfl (Nat.le_of_ble_eq_true rfl) dX0_changeKind_6 ⟨Nat.le_of_ble_eq_true rfl, Nat.le_of_ble_eq_true rfl⟩ (fun u H1 locs hF hP1 hD1 hk1 hS => ?_)
  obtain ⟨s6, rfl⟩ : ∃ z, z = u := ⟨_, rfl⟩
  have hP := hP1
  have hD := hD1.weaken (fun _ q _ h => hFc q.1 h)
  generalize H1 = H at hP hS ⊢
  have hP : va_P (dC, dI) classes (wB h cy s6) H := hP
  have hD : va_D A (wB h cy s6) := hD
  exact W.vret hx hb hr (fun t ht hW => ⟨⟨s6, rfl, hF, by rw [ht]; exact hP, hK.warm hW, hD⟩, hS.F ht⟩) hS.2.2 dX0_changeKind_9
theorem dX0_changeWeight_0 : decode cX0_changeWeight 0 = .ok (.aload_n 0, 1) := by decide +kernel
theorem dX0_changeWeight_1 : decode cX0_changeWeight 1 = .ok (.getfield 24, 3) := by decide +kernel
theorem dX0_changeWeight_4 : decode cX0_changeWeight 4 = .ok (.iload_n 1, 1) := by decide +kernel
theorem dX0_changeWeight_5 : decode cX0_changeWeight 5 = .ok (.invokevirtual 64, 3) := by decide +kernel
theorem dX0_changeWeight_8 : decode cX0_changeWeight 8 = .ok (.istore_n 3, 1) := by decide +kernel
theorem dX0_changeWeight_9 : decode cX0_changeWeight 9 = .ok (.iload_n 3, 1) := by decide +kernel
theorem dX0_changeWeight_10 : decode cX0_changeWeight 10 = .ok (.ifCond .lt 19, 3) := by decide +kernel
theorem dX0_changeWeight_13 : decode cX0_changeWeight 13 = .ok (.iload_n 3, 1) := by decide +kernel
theorem dX0_changeWeight_14 : decode cX0_changeWeight 14 = .ok (.aload_n 0, 1) := by decide +kernel
theorem dX0_changeWeight_15 : decode cX0_changeWeight 15 = .ok (.getfield 15, 3) := by decide +kernel
theorem dX0_changeWeight_18 : decode cX0_changeWeight 18 = .ok (.arraylength, 1) := by decide +kernel
theorem dX0_changeWeight_19 : decode cX0_changeWeight 19 = .ok (.if_icmp .ge 10, 3) := by decide +kernel
theorem dX0_changeWeight_22 : decode cX0_changeWeight 22 = .ok (.aload_n 0, 1) := by decide +kernel
theorem dX0_changeWeight_23 : decode cX0_changeWeight 23 = .ok (.getfield 15, 3) := by decide +kernel
theorem dX0_changeWeight_26 : decode cX0_changeWeight 26 = .ok (.iload_n 3, 1) := by decide +kernel
theorem dX0_changeWeight_27 : decode cX0_changeWeight 27 = .ok (.iload_n 2, 1) := by decide +kernel
theorem dX0_changeWeight_28 : decode cX0_changeWeight 28 = .ok (.iastore, 1) := by decide +kernel
theorem dX0_changeWeight_29 : decode cX0_changeWeight 29 = .ok (.return_, 1) := by decide +kernel
def wp_X0_changeWeight (σ : SX) (x1 : Int32) (x2 : Int32) (P : SX → Prop) : Prop := (wp_X1_at 13 (σ.2.1 1) (σ.1 2) x1 (fun r5 => ((r5 < 0 → (P σ)) ∧ (¬ r5 < 0 → ((25 ≤ r5 → (P σ)) ∧ (¬ 25 ≤ r5 → (vp_in r5 25 ∧ (P (sA σ 0 (upd (σ.2.1 0) r5.toNatClampNeg x2))))))))))
theorem k_X0_changeWeight : KV RX0 yX0_changeWeight cX0_changeWeight 4 none 2 := ⟨q788, q789, q2, q790, by decide +kernel⟩
set_option maxHeartbeats 4000000 in
set_option maxRecDepth 100000 in
theorem m_X0_changeWeight (l : Launch) (dC : Nat → ClassId) (dI : Nat → Nat → Nat) (h : Nat → Nat) (cy : Nat → ClassId) (sz : Nat) (σ : SX) (x1 : Int32) (x2 : Int32) (P : SX → Prop) (hF : wp_X0_changeWeight σ x1 x2 P) : Met l yX0_changeWeight (ws_ yX0_changeWeight cX0_changeWeight 4 none) ({ frames := 1, cells := 0, slots := 0, locals := 21 } : Room) (va_Pc [.ref (h 0), .int x1, .int x2] (fun U => U.heap.size = sz ∧ va_P (dC, dI) classes (wB h cy σ) U.heap ∧ kwX dC dI cy U ∧ va_D (fun _ => True) (wB h cy σ))) (va_Qv (fun u => P u) (fun (u : SX) t => va_P (dC, dI) classes (wB h cy u) t.heap ∧ kwX dC dI cy t ∧ va_D (va_A (wB h cy σ) sz) (wB h cy u)) (va_A (wB h cy σ) sz)) 0 0 (va_A (wB h cy σ) sz) := by
  refine Met.ofCx (own := RX0) (by decide) rfl (Nat.le_of_ble_eq_true rfl) ?_
  intro p e s m below meth c hC hv ls hl
  obtain ⟨hx, hb, hr, hml, hown, hts, hlocks⟩ := hC
  have hl : lv_has ls 4 [(0, .ref (h 0)), (1, .int x1), (2, .int x2)] := hl
  obtain ⟨hsz, hP, hK, hD0⟩ := hv
  subst hsz
  have hD := hD0.self (sz := s.heap.size)
  generalize hAe : va_A (wB h cy σ) s.heap.size = A at hD ⊢
  have hA : ∀ q : Nat, s.heap.size ≤ q → A q := fun q h => by rw [← hAe]; exact Or.inr h
  have hS : va_S A s.heap s.heap [] := va_S.rf
  clear hAe
  unfold wp_X0_changeWeight at hF
  refine lv_aload_n hx hb dX0_changeWeight_0 rfl (lv_at hl 0 rfl) ?_
  refine va_get (D := (dC, dI)) (ci := 0) (v := .ref (h 2)) (C := RX0) (T := TX0) (N := 8) hx hb hts in_X0 hown hK.1 hP 0 rfl rfl 3 (by decide) (hts _ q68) (fun _ h9 => h9) rfl dX0_changeWeight_1 ?_
  refine lv_iload_n hx hb dX0_changeWeight_4 rfl (lv_at hl 1 rfl) ?_
  have hPc := hP.sub (ws' := wR (h 2) (h 3) cy 13 (σ.2.1 1) (σ.1 2)) [2, 3] rfl
  refine cpVi (q0 := 0) (As := [.int x1]) (rest := []) ⟨hx, hb, hr, hml, hown, hts, hlocks⟩ hK hPc rfl rfl (m_X1_at l dC dI (h 2) (h 3) cy 13 (σ.2.1 1) (σ.1 2) x1 _ hF) k_X1_at q180 ⟨rfl, rfl⟩ ⟨Nat.le_of_ble_eq_true rfl, Nat.le_of_ble_eq_true rfl⟩ hl.1 rfl rfl (Nat.le_of_ble_eq_true rfl) dX0_changeWeight_5 ⟨Nat.le_of_ble_eq_true rfl, Nat.le_of_ble_eq_true rfl⟩ (fun r5 hF => ?_)
  refine lv_istore_n (lv' := [(3, .int r5), (0, .ref (h 0)), (1, .int x1), (2, .int x2)]) hx hb dX0_changeWeight_8 rfl hl (by decide) rfl (fun ls hl => ?_)
  refine lv_iload_n hx hb dX0_changeWeight_9 rfl (lv_at hl 0 rfl) ?_
  refine lv_if_lt (tgt := 29) hx hb dX0_changeWeight_10 (by decide) (fun cz => ?_) (fun cz => ?_)
  · have hF := hF.1 cz
    exact W.vret hx hb hr (fun t ht hW => ⟨⟨σ, rfl, hF, by rw [ht]; exact hP, hK.warm hW, hD⟩, hS.F ht⟩) hS.2.2 dX0_changeWeight_29
  · have hF := hF.2 cz
    refine lv_iload_n hx hb dX0_changeWeight_13 rfl (lv_at hl 0 rfl) ?_
    refine lv_aload_n hx hb dX0_changeWeight_14 rfl (lv_at hl 1 rfl) ?_
    refine va_get (D := (dC, dI)) (ci := 0) (v := .ref (h 1)) (C := RX0) (T := TX0) (N := 8) hx hb hts in_X0 hown hK.1 hP 0 rfl rfl 2 (by decide) (hts _ q67) (fun _ h9 => h9) rfl dX0_changeWeight_15 ?_
    refine va_alen hx hb hK.1 hP 1 0 rfl rfl (v := 25) (by rfl) dX0_changeWeight_18 ?_
    refine lv_icmp_ge (tgt := 29) hx hb dX0_changeWeight_19 (by decide) (fun cz => ?_) (fun cz => ?_)
    · have hF := hF.1 cz
      exact W.vret hx hb hr (fun t ht hW => ⟨⟨σ, rfl, hF, by rw [ht]; exact hP, hK.warm hW, hD⟩, hS.F ht⟩) hS.2.2 dX0_changeWeight_29
    · have hF := hF.2 cz
      refine lv_aload_n hx hb dX0_changeWeight_22 rfl (lv_at hl 1 rfl) ?_
      refine va_get (D := (dC, dI)) (ci := 0) (v := .ref (h 1)) (C := RX0) (T := TX0) (N := 8) hx hb hts in_X0 hown hK.1 hP 0 rfl rfl 2 (by decide) (hts _ q67) (fun _ h9 => h9) rfl dX0_changeWeight_23 ?_
      refine lv_iload_n hx hb dX0_changeWeight_26 rfl (lv_at hl 0 rfl) ?_
      refine lv_iload_n hx hb dX0_changeWeight_27 rfl (lv_at hl 3 rfl) ?_
      have hI := hF.1
      have hF := hF.2
      refine va_iast hx hb hK.1 hP hD hS 1 0 rfl rfl hI dX0_changeWeight_28 (fun H locs hP hD hS => ?_)
      have hP : va_P (dC, dI) classes (wB h cy (sA σ 0 (upd (σ.2.1 0) r5.toNatClampNeg x2))) H := hP
      have hD : va_D A (wB h cy (sA σ 0 (upd (σ.2.1 0) r5.toNatClampNeg x2))) := hD
      exact W.vret hx hb hr (fun t ht hW => ⟨⟨sA σ 0 (upd (σ.2.1 0) r5.toNatClampNeg x2), rfl, hF, by rw [ht]; exact hP, hK.warm hW, hD⟩, hS.F ht⟩) hS.2.2 dX0_changeWeight_29
theorem dX0_layHoles_0 : decode cX0_layHoles 0 = .ok (.aload_n 0, 1) := by decide +kernel
theorem dX0_layHoles_1 : decode cX0_layHoles 1 = .ok (.getfield 24, 3) := by decide +kernel
theorem dX0_layHoles_4 : decode cX0_layHoles 4 = .ok (.invokevirtual 50, 3) := by decide +kernel
theorem dX0_layHoles_7 : decode cX0_layHoles 7 = .ok (.iconst 0, 1) := by decide +kernel
theorem dX0_layHoles_8 : decode cX0_layHoles 8 = .ok (.istore_n 1, 1) := by decide +kernel
theorem dX0_layHoles_9 : decode cX0_layHoles 9 = .ok (.iload_n 1, 1) := by decide +kernel
theorem dX0_layHoles_10 : decode cX0_layHoles 10 = .ok (.bipush 25, 2) := by decide +kernel
theorem dX0_layHoles_12 : decode cX0_layHoles 12 = .ok (.if_icmp .ge 25, 3) := by decide +kernel
theorem dX0_layHoles_15 : decode cX0_layHoles 15 = .ok (.aload_n 0, 1) := by decide +kernel
theorem dX0_layHoles_16 : decode cX0_layHoles 16 = .ok (.iload_n 1, 1) := by decide +kernel
theorem dX0_layHoles_17 : decode cX0_layHoles 17 = .ok (.invokevirtual 53, 3) := by decide +kernel
theorem dX0_layHoles_20 : decode cX0_layHoles 20 = .ok (.ifCond .eq 11, 3) := by decide +kernel
theorem dX0_layHoles_23 : decode cX0_layHoles 23 = .ok (.aload_n 0, 1) := by decide +kernel
theorem dX0_layHoles_24 : decode cX0_layHoles 24 = .ok (.getfield 24, 3) := by decide +kernel
theorem dX0_layHoles_27 : decode cX0_layHoles 27 = .ok (.iload_n 1, 1) := by decide +kernel
theorem dX0_layHoles_28 : decode cX0_layHoles 28 = .ok (.invokevirtual 57, 3) := by decide +kernel
theorem dX0_layHoles_31 : decode cX0_layHoles 31 = .ok (.iinc 1 1, 3) := by decide +kernel
theorem dX0_layHoles_34 : decode cX0_layHoles 34 = .ok (.goto (-25), 3) := by decide +kernel
theorem dX0_layHoles_37 : decode cX0_layHoles 37 = .ok (.aload_n 0, 1) := by decide +kernel
theorem dX0_layHoles_38 : decode cX0_layHoles 38 = .ok (.invokevirtual 40, 3) := by decide +kernel
theorem dX0_layHoles_41 : decode cX0_layHoles 41 = .ok (.return_, 1) := by decide +kernel
def wp_X0_layHoles_J31 (rec9 : Int32 → SX → Prop) (v1_9 : Int32) (s_31 : SX) : Prop := (rec9 (v1_9 + 1) s_31)
def wp_X0_layHoles_B9 (K9 : SX → Prop) (rec9 : Int32 → SX → Prop) (v1_9 : Int32) (s_9 : SX) : Prop := ((25 ≤ v1_9 → (K9 s_9)) ∧ (¬ 25 ≤ v1_9 → (wp_X0_isHole s_9 v1_9 (fun r17 => ((r17 = 0 → (wp_X0_layHoles_J31 rec9 v1_9 s_9)) ∧ (¬ r17 = 0 → (wp_X1_add 13 (s_9.2.1 1) (s_9.1 2) v1_9 (fun f28 n28 => (wp_X0_layHoles_J31 rec9 v1_9 (sI (sA s_9 1 f28) 2 n28))))))))))
def wp_X0_layHoles_L9 (K9 : SX → Prop) : Nat → Int32 → SX → Prop
  | 0, _, _ => False
  | nn + 1, v1_9, s_9 => wp_X0_layHoles_B9 K9 (wp_X0_layHoles_L9 K9 nn) v1_9 s_9
def wp_X0_layHoles (fu : Nat) (σ : SX) (P : SX → Prop) : Prop := (wp_X1_empty 13 (σ.2.1 1) (σ.1 2)  (fun f4 n4 => (wp_X0_layHoles_L9 (fun (s_37 : SX) => (wp_X0_layLines fu s_37  (fun s38 => (P s38)))) fu 0 (sI (sA σ 1 f4) 2 n4))))
theorem k_X0_layHoles : KV RX0 yX0_layHoles cX0_layHoles 2 none 0 := ⟨q551, qs14, q2, q552, by decide +kernel⟩
set_option maxHeartbeats 4000000 in
set_option maxRecDepth 100000 in
theorem m_X0_layHoles (l : Launch) (dC : Nat → ClassId) (dI : Nat → Nat → Nat) (h : Nat → Nat) (cy : Nat → ClassId) (sz : Nat) (fu : Nat) (σ : SX) (P : SX → Prop) (hF : wp_X0_layHoles fu σ P) : Met l yX0_layHoles (ws_ yX0_layHoles cX0_layHoles 2 none) ({ frames := 4, cells := 0, slots := 0, locals := 89 } : Room) (va_Pc [.ref (h 0)] (fun U => U.heap.size = sz ∧ va_P (dC, dI) classes (wB h cy σ) U.heap ∧ kwX dC dI cy U ∧ va_D (fun _ => True) (wB h cy σ))) (va_Qv (fun u => P u) (fun (u : SX) t => va_P (dC, dI) classes (wB h cy u) t.heap ∧ kwX dC dI cy t ∧ va_D (va_A (wB h cy σ) sz) (wB h cy u)) (va_A (wB h cy σ) sz)) 0 0 (va_A (wB h cy σ) sz) := by
  refine Met.ofCx (own := RX0) (by decide) rfl (Nat.le_of_ble_eq_true rfl) ?_
  intro p e s m below meth c hC hv ls hl
  obtain ⟨hx, hb, hr, hml, hown, hts, hlocks⟩ := hC
  have hl : lv_has ls 2 [(0, .ref (h 0))] := hl
  obtain ⟨hsz, hP, hK, hD0⟩ := hv
  subst hsz
  have hD := hD0.self (sz := s.heap.size)
  generalize hAe : va_A (wB h cy σ) s.heap.size = A at hD ⊢
  have hA : ∀ q : Nat, s.heap.size ≤ q → A q := fun q h => by rw [← hAe]; exact Or.inr h
  have hS : va_S A s.heap s.heap [] := va_S.rf
  clear hAe
  unfold wp_X0_layHoles at hF
  refine lv_aload_n hx hb dX0_layHoles_0 rfl (lv_at hl 0 rfl) ?_
  refine va_get (D := (dC, dI)) (ci := 0) (v := .ref (h 2)) (C := RX0) (T := TX0) (N := 8) hx hb hts in_X0 hown hK.1 hP 0 rfl rfl 3 (by decide) (hts _ q68) (fun _ h9 => h9) rfl dX0_layHoles_1 ?_
  have hPc := hP.sub (ws' := wR (h 2) (h 3) cy 13 (σ.2.1 1) (σ.1 2)) [2, 3] rfl
  have hDc := hD.sub (ws' := wR (h 2) (h 3) cy 13 (σ.2.1 1) (σ.1 2)) [2, 3] (by decide) rfl
  have hFc := va_free (wc := wR (h 2) (h 3) cy 13 (σ.2.1 1) (σ.1 2)) hD hS hA [2, 3] rfl
  refine cwVv (q0 := 0) (As := []) (rest := []) ⟨hx, hb, hr, hml, hown, hts, hlocks⟩ hK hPc hDc rfl rfl hS hFc (m_X1_empty l dC dI (h 2) (h 3) cy _ 13 (σ.2.1 1) (σ.1 2)  _ hF) k_X1_empty q477 ⟨rfl, rfl⟩ ⟨Nat.le_of_ble_eq_true rfl, Nat.le_of_ble_eq_true rfl⟩ hl.1 rfl rfl (Nat.le_of_ble_eq_true rfl) dX0_layHoles_4 ⟨Nat.le_of_ble_eq_true rfl, Nat.le_of_ble_eq_true rfl⟩ (fun u H1 locs hF hP1 hD1 hk1 hS => ?_)
  obtain ⟨f4, n4⟩ := u
  obtain ⟨hP, hD⟩ := va_join (wr := [(h 0, .inr (0, [.int (σ.1 0), .int (σ.1 1), .ref (h 1), .ref (h 2), .ref (h 4), .ref (h 6), .ref (h 8), .ref (h 10)])), (h 1, .inl (cy 0, 25, .inl (σ.2.1 0))), (h 4, .inr (1, [.ref (h 5), .int (σ.1 3)])), (h 5, .inl (cy 0, 104, .inl (σ.2.1 2))), (h 6, .inr (1, [.ref (h 7), .int (σ.1 4)])), (h 7, .inl (cy 0, 104, .inl (σ.2.1 3))), (h 8, .inr (1, [.ref (h 9), .int (σ.1 5)])), (h 9, .inl (cy 0, 104, .inl (σ.2.1 4))), (h 10, .inr (1, [.ref (h 11), .int (σ.1 6)])), (h 11, .inl (cy 0, 104, .inl (σ.2.1 5)))]) (w1 := wR (h 2) (h 3) cy 13 f4 n4) hP hD [2, 3] [0, 1, 4, 5, 6, 7, 8, 9, 10, 11] rfl rfl (by decide) (by decide) hk1 hFc hP1 hD1
  have hP := hP.sub (ws' := wB h cy (sI (sA σ 1 f4) 2 n4)) [0, 1, 10, 11, 2, 3, 4, 5, 6, 7, 8, 9] rfl
  have hD := hD.sub (ws' := wB h cy (sI (sA σ 1 f4) 2 n4)) [0, 1, 10, 11, 2, 3, 4, 5, 6, 7, 8, 9] (by decide) rfl
  generalize H1 = H at hP hS ⊢
  have hP : va_P (dC, dI) classes (wB h cy (sI (sA σ 1 f4) 2 n4)) H := hP
  have hD : va_D A (wB h cy (sI (sA σ 1 f4) 2 n4)) := hD
  refine lv_iconst (v := 0) hx hb dX0_layHoles_7 (by decide) ?_
  refine lv_istore_n (lv' := [(1, .int 0), (0, .ref (h 0))]) hx hb dX0_layHoles_8 rfl hl (by decide) rfl (fun ls hl => ?_)
  have hX9 : ∀ (s_37 : SX), (fun (s_37 : SX) => (wp_X0_layLines fu s_37  (fun s38 => (P s38)))) s_37 → ∀ (H : Heap) (locs : List Loc), va_P (dC, dI) classes (wB h cy s_37) H → va_D A (wB h cy s_37) → va_S A s.heap H locs → ∀ (ls : Array Slot), lv_has ls 2 [(0, .ref (h 0))] → W p l e ({ frames := 4, cells := 0, slots := 0, locals := 89 } : Room) s m ([.ref (h 0)] : List Value).toArray below meth c H locs 0 0 (MQ below (va_Qv (fun u => P u) (fun (u : SX) t => va_P (dC, dI) classes (wB h cy u) t.heap ∧ kwX dC dI cy t ∧ va_D A (wB h cy u)) A) ([.ref (h 0)] : List Value).toArray s 0 0 A) (F0 m 37 ls []) := by
    intro s_37 hF H locs hP hD hS ls hl
    refine lv_aload_n hx hb dX0_layHoles_37 rfl (lv_at hl 0 rfl) ?_
    have hFc := va_free (wc := wB h cy s_37) hD hS hA [0, 1, 2, 3, 4, 5, 6, 7, 8, 9, 10, 11] rfl
    refine cwVv (q0 := 0) (As := []) (rest := []) ⟨hx, hb, hr, hml, hown, hts, hlocks⟩ hK hP hD rfl rfl hS hFc (m_X0_layLines l dC dI h cy _ fu s_37  _ hF) k_X0_layLines q473 ⟨rfl, rfl⟩ ⟨Nat.le_of_ble_eq_true rfl, Nat.le_of_ble_eq_true rfl⟩ hl.1 rfl rfl (Nat.le_of_ble_eq_true rfl) dX0_layHoles_38 ⟨Nat.le_of_ble_eq_true rfl, Nat.le_of_ble_eq_true rfl⟩ (fun u H1 locs hF hP1 hD1 hk1 hS => ?_)
    obtain ⟨s38, rfl⟩ : ∃ z, z = u := ⟨_, rfl⟩
    have hP := hP1
    have hD := hD1.weaken (fun _ q _ h => hFc q.1 h)
    generalize H1 = H at hP hS ⊢
    have hP : va_P (dC, dI) classes (wB h cy s38) H := hP
    have hD : va_D A (wB h cy s38) := hD
    exact W.vret hx hb hr (fun t ht hW => ⟨⟨s38, rfl, hF, by rw [ht]; exact hP, hK.warm hW, hD⟩, hS.F ht⟩) hS.2.2 dX0_layHoles_41
  have hL9 : ∀ (K9 : SX → Prop), (∀ (s_37 : SX), K9 s_37 → ∀ (H : Heap) (locs : List Loc), va_P (dC, dI) classes (wB h cy s_37) H → va_D A (wB h cy s_37) → va_S A s.heap H locs → ∀ (ls : Array Slot), lv_has ls 2 [(0, .ref (h 0))] → W p l e ({ frames := 4, cells := 0, slots := 0, locals := 89 } : Room) s m ([.ref (h 0)] : List Value).toArray below meth c H locs 0 0 (MQ below (va_Qv (fun u => P u) (fun (u : SX) t => va_P (dC, dI) classes (wB h cy u) t.heap ∧ kwX dC dI cy t ∧ va_D A (wB h cy u)) A) ([.ref (h 0)] : List Value).toArray s 0 0 A) (F0 m 37 ls [])) → ∀ (nn : Nat), ∀ (v1_9 : Int32), ∀ (s_9 : SX), wp_X0_layHoles_L9 K9 nn v1_9 s_9 → ∀ (H : Heap) (locs : List Loc), va_P (dC, dI) classes (wB h cy s_9) H → va_D A (wB h cy s_9) → va_S A s.heap H locs → ∀ (ls : Array Slot), lv_has ls 2 [(1, .int v1_9), (0, .ref (h 0))] → W p l e ({ frames := 4, cells := 0, slots := 0, locals := 89 } : Room) s m ([.ref (h 0)] : List Value).toArray below meth c H locs 0 0 (MQ below (va_Qv (fun u => P u) (fun (u : SX) t => va_P (dC, dI) classes (wB h cy u) t.heap ∧ kwX dC dI cy t ∧ va_D A (wB h cy u)) A) ([.ref (h 0)] : List Value).toArray s 0 0 A) (F0 m 9 ls []) := by
    intro K9 hX9 nn
    induction nn with
    | zero =>
      intro v1_9 s_9 hF
      exact hF.elim
    | succ nn ih =>
      intro v1_9 s_9 hF H locs hP hD hS ls hl
      obtain ⟨rec9, hrec⟩ : ∃ z : Int32 → SX → Prop, z = wp_X0_layHoles_L9 K9 nn := ⟨_, rfl⟩
      have hF : wp_X0_layHoles_B9 K9 rec9 v1_9 s_9 := by rw [hrec]; exact hF
      rw [← hrec] at ih
      clear hrec
      unfold wp_X0_layHoles_B9 at hF
      refine lv_iload_n hx hb dX0_layHoles_9 rfl (lv_at hl 0 rfl) ?_
      refine lv_bipush (v := 25) hx hb dX0_layHoles_10 (by decide) ?_
      refine lv_icmp_ge (tgt := 37) hx hb dX0_layHoles_12 (by decide) (fun cz => ?_) (fun cz => ?_)
      · have hF := hF.1 cz
        exact hX9 s_9 hF _ _ hP hD hS _ (lv_sub hl [1] rfl)
      · have hF := hF.2 cz
        refine lv_aload_n hx hb dX0_layHoles_15 rfl (lv_at hl 1 rfl) ?_
        refine lv_iload_n hx hb dX0_layHoles_16 rfl (lv_at hl 0 rfl) ?_
        refine cpVi (q0 := 0) (As := [.int v1_9]) (rest := []) ⟨hx, hb, hr, hml, hown, hts, hlocks⟩ hK hP rfl rfl (m_X0_isHole l dC dI h cy s_9 v1_9 _ hF) k_X0_isHole q187 ⟨rfl, rfl⟩ ⟨Nat.le_of_ble_eq_true rfl, Nat.le_of_ble_eq_true rfl⟩ hl.1 rfl rfl (Nat.le_of_ble_eq_true rfl) dX0_layHoles_17 ⟨Nat.le_of_ble_eq_true rfl, Nat.le_of_ble_eq_true rfl⟩ (fun r17 hF => ?_)
        have hJ31 : ∀ (s_31 : SX), wp_X0_layHoles_J31 rec9 v1_9 s_31 → ∀ (H : Heap) (locs : List Loc), va_P (dC, dI) classes (wB h cy s_31) H → va_D A (wB h cy s_31) → va_S A s.heap H locs → ∀ (ls : Array Slot), lv_has ls 2 [(1, .int v1_9), (0, .ref (h 0))] → W p l e ({ frames := 4, cells := 0, slots := 0, locals := 89 } : Room) s m ([.ref (h 0)] : List Value).toArray below meth c H locs 0 0 (MQ below (va_Qv (fun u => P u) (fun (u : SX) t => va_P (dC, dI) classes (wB h cy u) t.heap ∧ kwX dC dI cy t ∧ va_D A (wB h cy u)) A) ([.ref (h 0)] : List Value).toArray s 0 0 A) (F0 m 31 ls []) := by
          intro s_31 hF H locs hP hD hS ls hl
          unfold wp_X0_layHoles_J31 at hF
          refine lv_iinc (v := v1_9 + 1) (lv' := [(1, .int (v1_9 + 1)), (0, .ref (h 0))]) hx hb dX0_layHoles_31 hl (k := 0) rfl (by rfl) (by decide) rfl (fun ls hl => ?_)
          refine lv_goto (tgt := 9) hx hb dX0_layHoles_34 (by decide) ?_
          exact ih (v1_9 + 1) s_31 hF _ _ hP hD hS _ (lv_sub hl [0, 1] rfl)
        refine lv_if_eq (tgt := 31) hx hb dX0_layHoles_20 (by decide) (fun cz => ?_) (fun cz => ?_)
        · have hF := hF.1 cz
          exact hJ31 s_9 hF _ _ hP hD hS _ (lv_sub hl [0, 1] rfl)
        · have hF := hF.2 cz
          refine lv_aload_n hx hb dX0_layHoles_23 rfl (lv_at hl 1 rfl) ?_
          refine va_get (D := (dC, dI)) (ci := 0) (v := .ref (h 2)) (C := RX0) (T := TX0) (N := 8) hx hb hts in_X0 hown hK.1 hP 0 rfl rfl 3 (by decide) (hts _ q68) (fun _ h9 => h9) rfl dX0_layHoles_24 ?_
          refine lv_iload_n hx hb dX0_layHoles_27 rfl (lv_at hl 0 rfl) ?_
          have hPc := hP.sub (ws' := wR (h 2) (h 3) cy 13 (s_9.2.1 1) (s_9.1 2)) [2, 3] rfl
          have hDc := hD.sub (ws' := wR (h 2) (h 3) cy 13 (s_9.2.1 1) (s_9.1 2)) [2, 3] (by decide) rfl
          have hFc := va_free (wc := wR (h 2) (h 3) cy 13 (s_9.2.1 1) (s_9.1 2)) hD hS hA [2, 3] rfl
          refine cwVv (q0 := 0) (As := [.int v1_9]) (rest := []) ⟨hx, hb, hr, hml, hown, hts, hlocks⟩ hK hPc hDc rfl rfl hS hFc (m_X1_add l dC dI (h 2) (h 3) cy _ 13 (s_9.2.1 1) (s_9.1 2) v1_9 _ hF) k_X1_add q487 ⟨rfl, rfl⟩ ⟨Nat.le_of_ble_eq_true rfl, Nat.le_of_ble_eq_true rfl⟩ hl.1 rfl rfl (Nat.le_of_ble_eq_true rfl) dX0_layHoles_28 ⟨Nat.le_of_ble_eq_true rfl, Nat.le_of_ble_eq_true rfl⟩ (fun u H1 locs hF hP1 hD1 hk1 hS => ?_)
          obtain ⟨f28, n28⟩ := u
          obtain ⟨hP, hD⟩ := va_join (wr := [(h 0, .inr (0, [.int (s_9.1 0), .int (s_9.1 1), .ref (h 1), .ref (h 2), .ref (h 4), .ref (h 6), .ref (h 8), .ref (h 10)])), (h 1, .inl (cy 0, 25, .inl (s_9.2.1 0))), (h 4, .inr (1, [.ref (h 5), .int (s_9.1 3)])), (h 5, .inl (cy 0, 104, .inl (s_9.2.1 2))), (h 6, .inr (1, [.ref (h 7), .int (s_9.1 4)])), (h 7, .inl (cy 0, 104, .inl (s_9.2.1 3))), (h 8, .inr (1, [.ref (h 9), .int (s_9.1 5)])), (h 9, .inl (cy 0, 104, .inl (s_9.2.1 4))), (h 10, .inr (1, [.ref (h 11), .int (s_9.1 6)])), (h 11, .inl (cy 0, 104, .inl (s_9.2.1 5)))]) (w1 := wR (h 2) (h 3) cy 13 f28 n28) hP hD [2, 3] [0, 1, 4, 5, 6, 7, 8, 9, 10, 11] rfl rfl (by decide) (by decide) hk1 hFc hP1 hD1
          have hP := hP.sub (ws' := wB h cy (sI (sA s_9 1 f28) 2 n28)) [0, 1, 10, 11, 2, 3, 4, 5, 6, 7, 8, 9] rfl
          have hD := hD.sub (ws' := wB h cy (sI (sA s_9 1 f28) 2 n28)) [0, 1, 10, 11, 2, 3, 4, 5, 6, 7, 8, 9] (by decide) rfl
          generalize H1 = H at hP hS ⊢
          have hP : va_P (dC, dI) classes (wB h cy (sI (sA s_9 1 f28) 2 n28)) H := hP
          have hD : va_D A (wB h cy (sI (sA s_9 1 f28) 2 n28)) := hD
          exact hJ31 (sI (sA s_9 1 f28) 2 n28) hF _ _ hP hD hS _ (lv_sub hl [0, 1] rfl)
  exact hL9 _ hX9 fu 0 (sI (sA σ 1 f4) 2 n4) hF _ _ hP hD hS _ (lv_sub hl [0, 1] rfl)
theorem dX0_close_0 : decode cX0_close 0 = .ok (.iload_n 1, 1) := by decide +kernel
theorem dX0_close_1 : decode cX0_close 1 = .ok (.ifCond .lt 27, 3) := by decide +kernel
theorem dX0_close_4 : decode cX0_close 4 = .ok (.iload_n 1, 1) := by decide +kernel
theorem dX0_close_5 : decode cX0_close 5 = .ok (.bipush 25, 2) := by decide +kernel
theorem dX0_close_7 : decode cX0_close 7 = .ok (.if_icmp .ge 21, 3) := by decide +kernel
theorem dX0_close_10 : decode cX0_close 10 = .ok (.aload_n 0, 1) := by decide +kernel
theorem dX0_close_11 : decode cX0_close 11 = .ok (.dup, 1) := by decide +kernel
theorem dX0_close_12 : decode cX0_close 12 = .ok (.getfield 43, 3) := by decide +kernel
theorem dX0_close_15 : decode cX0_close 15 = .ok (.iconst 1, 1) := by decide +kernel
theorem dX0_close_16 : decode cX0_close 16 = .ok (.iload_n 1, 1) := by decide +kernel
theorem dX0_close_17 : decode cX0_close 17 = .ok (.ishl, 1) := by decide +kernel
theorem dX0_close_18 : decode cX0_close 18 = .ok (.iconst (-1), 1) := by decide +kernel
theorem dX0_close_19 : decode cX0_close 19 = .ok (.ixor, 1) := by decide +kernel
theorem dX0_close_20 : decode cX0_close 20 = .ok (.iand, 1) := by decide +kernel
theorem dX0_close_21 : decode cX0_close 21 = .ok (.putfield 43, 3) := by decide +kernel
theorem dX0_close_24 : decode cX0_close 24 = .ok (.aload_n 0, 1) := by decide +kernel
theorem dX0_close_25 : decode cX0_close 25 = .ok (.invokevirtual 47, 3) := by decide +kernel
theorem dX0_close_28 : decode cX0_close 28 = .ok (.return_, 1) := by decide +kernel
def wp_X0_close (fu : Nat) (σ : SX) (x1 : Int32) (P : SX → Prop) : Prop := ((x1 < 0 → (P σ)) ∧ (¬ x1 < 0 → ((25 ≤ x1 → (P σ)) ∧ (¬ 25 ≤ x1 → (wp_X0_layHoles fu (sI σ 1 ((σ.1 1) &&& (((1 : Int32) <<< (x1 &&& 31)) ^^^ (-1))))  (fun s25 => (P s25)))))))
theorem k_X0_close : KV RX0 yX0_close cX0_close 2 none 1 := ⟨q563, q564, q2, q565, by decide +kernel⟩
set_option maxHeartbeats 4000000 in
set_option maxRecDepth 100000 in
theorem m_X0_close (l : Launch) (dC : Nat → ClassId) (dI : Nat → Nat → Nat) (h : Nat → Nat) (cy : Nat → ClassId) (sz : Nat) (fu : Nat) (σ : SX) (x1 : Int32) (P : SX → Prop) (hF : wp_X0_close fu σ x1 P) : Met l yX0_close (ws_ yX0_close cX0_close 2 none) ({ frames := 5, cells := 0, slots := 0, locals := 110 } : Room) (va_Pc [.ref (h 0), .int x1] (fun U => U.heap.size = sz ∧ va_P (dC, dI) classes (wB h cy σ) U.heap ∧ kwX dC dI cy U ∧ va_D (fun _ => True) (wB h cy σ))) (va_Qv (fun u => P u) (fun (u : SX) t => va_P (dC, dI) classes (wB h cy u) t.heap ∧ kwX dC dI cy t ∧ va_D (va_A (wB h cy σ) sz) (wB h cy u)) (va_A (wB h cy σ) sz)) 0 0 (va_A (wB h cy σ) sz) := by
  refine Met.ofCx (own := RX0) (by decide) rfl (Nat.le_of_ble_eq_true rfl) ?_
  intro p e s m below meth c hC hv ls hl
  obtain ⟨hx, hb, hr, hml, hown, hts, hlocks⟩ := hC
  have hl : lv_has ls 2 [(0, .ref (h 0)), (1, .int x1)] := hl
  obtain ⟨hsz, hP, hK, hD0⟩ := hv
  subst hsz
  have hD := hD0.self (sz := s.heap.size)
  generalize hAe : va_A (wB h cy σ) s.heap.size = A at hD ⊢
  have hA : ∀ q : Nat, s.heap.size ≤ q → A q := fun q h => by rw [← hAe]; exact Or.inr h
  have hS : va_S A s.heap s.heap [] := va_S.rf
  clear hAe
  unfold wp_X0_close at hF
  refine lv_iload_n hx hb dX0_close_0 rfl (lv_at hl 1 rfl) ?_
  refine lv_if_lt (tgt := 28) hx hb dX0_close_1 (by decide) (fun cz => ?_) (fun cz => ?_)
  · have hF := hF.1 cz
    exact W.vret hx hb hr (fun t ht hW => ⟨⟨σ, rfl, hF, by rw [ht]; exact hP, hK.warm hW, hD⟩, hS.F ht⟩) hS.2.2 dX0_close_28
  · have hF := hF.2 cz
    refine lv_iload_n hx hb dX0_close_4 rfl (lv_at hl 1 rfl) ?_
    refine lv_bipush (v := 25) hx hb dX0_close_5 (by decide) ?_
    refine lv_icmp_ge (tgt := 28) hx hb dX0_close_7 (by decide) (fun cz => ?_) (fun cz => ?_)
    · have hF := hF.1 cz
      exact W.vret hx hb hr (fun t ht hW => ⟨⟨σ, rfl, hF, by rw [ht]; exact hP, hK.warm hW, hD⟩, hS.F ht⟩) hS.2.2 dX0_close_28
    · have hF := hF.2 cz
      refine lv_aload_n hx hb dX0_close_10 rfl (lv_at hl 0 rfl) ?_
      refine lv_dup hx hb dX0_close_11 rfl ?_
      refine va_get (D := (dC, dI)) (ci := 0) (v := .int (σ.1 1)) (C := RX0) (T := TX0) (N := 8) hx hb hts in_X0 hown hK.1 hP 0 rfl rfl 1 (by decide) (hts _ q66) (fun _ h9 => h9) rfl dX0_close_12 ?_
      refine lv_iconst (v := 1) hx hb dX0_close_15 (by decide) ?_
      refine lv_iload_n hx hb dX0_close_16 rfl (lv_at hl 1 rfl) ?_
      refine lv_ishl hx hb dX0_close_17 ?_
      refine lv_iconst (v := (-1)) hx hb dX0_close_18 (by decide) ?_
      refine lv_ixor hx hb dX0_close_19 ?_
      refine lv_iand hx hb dX0_close_20 ?_
      refine va_put (D := (dC, dI)) (ci := 0) (v := .int ((σ.1 1) &&& (((1 : Int32) <<< (x1 &&& 31)) ^^^ (-1)))) (ty := .int) (C := RX0) (T := TX0) (N := 8) hx hb hts in_X0 tyX0 tyX0_ok nmX0 hown hK.1 hP hD hS 0 rfl rfl 1 (by decide) (hts _ q66) (fun _ h9 => h9) rfl (by decide +kernel) rfl rfl (Nat.le_of_ble_eq_true rfl) dX0_close_21 (fun H locs hP hD hS => ?_)
      have hP : va_P (dC, dI) classes (wB h cy (sI σ 1 ((σ.1 1) &&& (((1 : Int32) <<< (x1 &&& 31)) ^^^ (-1))))) H := hP
      have hD : va_D A (wB h cy (sI σ 1 ((σ.1 1) &&& (((1 : Int32) <<< (x1 &&& 31)) ^^^ (-1))))) := hD
      refine lv_aload_n hx hb dX0_close_24 rfl (lv_at hl 0 rfl) ?_
      have hFc := va_free (wc := wB h cy (sI σ 1 ((σ.1 1) &&& (((1 : Int32) <<< (x1 &&& 31)) ^^^ (-1))))) hD hS hA [0, 1, 2, 3, 4, 5, 6, 7, 8, 9, 10, 11] rfl
      refine cwVv (q0 := 0) (As := []) (rest := []) ⟨hx, hb, hr, hml, hown, hts, hlocks⟩ hK hP hD rfl rfl hS hFc (m_X0_layHoles l dC dI h cy _ fu (sI σ 1 ((σ.1 1) &&& (((1 : Int32) <<< (x1 &&& 31)) ^^^ (-1))))  _ hF) k_X0_layHoles q549 ⟨rfl, rfl⟩ ⟨Nat.le_of_ble_eq_true rfl, Nat.le_of_ble_eq_true rfl⟩ hl.1 rfl rfl (Nat.le_of_ble_eq_true rfl) dX0_close_25 ⟨Nat.le_of_ble_eq_true rfl, Nat.le_of_ble_eq_true rfl⟩ (fun u H1 locs hF hP1 hD1 hk1 hS => ?_)
      obtain ⟨s25, rfl⟩ : ∃ z, z = u := ⟨_, rfl⟩
      have hP := hP1
      have hD := hD1.weaken (fun _ q _ h => hFc q.1 h)
      generalize H1 = H at hP hS ⊢
      have hP : va_P (dC, dI) classes (wB h cy s25) H := hP
      have hD : va_D A (wB h cy s25) := hD
      exact W.vret hx hb hr (fun t ht hW => ⟨⟨s25, rfl, hF, by rw [ht]; exact hP, hK.warm hW, hD⟩, hS.F ht⟩) hS.2.2 dX0_close_28
theorem dX0_codeOf_0 : decode cX0_codeOf 0 = .ok (.aload_n 0, 1) := by decide +kernel
theorem dX0_codeOf_1 : decode cX0_codeOf 1 = .ok (.getfield 28, 3) := by decide +kernel
theorem dX0_codeOf_4 : decode cX0_codeOf 4 = .ok (.iload_n 1, 1) := by decide +kernel
theorem dX0_codeOf_5 : decode cX0_codeOf 5 = .ok (.invokevirtual 64, 3) := by decide +kernel
theorem dX0_codeOf_8 : decode cX0_codeOf 8 = .ok (.ireturn, 1) := by decide +kernel
def wp_X0_codeOf (σ : SX) (x1 : Int32) (P : Int32 → Prop) : Prop := (wp_X1_at 104 (σ.2.1 2) (σ.1 3) x1 (fun r5 => (P r5)))
theorem k_X0_codeOf : KV RX0 yX0_codeOf cX0_codeOf 2 (some .int) 1 := ⟨q686, q687, q2, q688, by decide +kernel⟩
set_option maxHeartbeats 4000000 in
set_option maxRecDepth 100000 in
theorem m_X0_codeOf (l : Launch) (dC : Nat → ClassId) (dI : Nat → Nat → Nat) (h : Nat → Nat) (cy : Nat → ClassId) (σ : SX) (x1 : Int32) (P : Int32 → Prop) (hF : wp_X0_codeOf σ x1 P) : Met l yX0_codeOf (ws_ yX0_codeOf cX0_codeOf 2 (some .int)) ({ frames := 1, cells := 0, slots := 0, locals := 21 } : Room) (va_Pc [.ref (h 0), .int x1] (fun U => va_P (dC, dI) classes (wB h cy σ) U.heap ∧ kwX dC dI cy U)) (vp_Si P) 0 0 (fun _ => False) := by
  refine Met.ofCx (own := RX0) (by decide) rfl (Nat.le_of_ble_eq_true rfl) ?_
  intro p e s m below meth c hC hv ls hl
  obtain ⟨hx, hb, hr, hml, hown, hts, hlocks⟩ := hC
  have hl : lv_has ls 2 [(0, .ref (h 0)), (1, .int x1)] := hl
  obtain ⟨hP, hK⟩ := hv
  unfold wp_X0_codeOf at hF
  refine lv_aload_n hx hb dX0_codeOf_0 rfl (lv_at hl 0 rfl) ?_
  refine va_get (D := (dC, dI)) (ci := 0) (v := .ref (h 4)) (C := RX0) (T := TX0) (N := 8) hx hb hts in_X0 hown hK.1 hP 0 rfl rfl 4 (by decide) (hts _ q69) (fun _ h9 => h9) rfl dX0_codeOf_1 ?_
  refine lv_iload_n hx hb dX0_codeOf_4 rfl (lv_at hl 1 rfl) ?_
  have hPc := hP.sub (ws' := wR (h 4) (h 5) cy 104 (σ.2.1 2) (σ.1 3)) [4, 5] rfl
  refine cpVi (q0 := 0) (As := [.int x1]) (rest := []) ⟨hx, hb, hr, hml, hown, hts, hlocks⟩ hK hPc rfl rfl (m_X1_at l dC dI (h 4) (h 5) cy 104 (σ.2.1 2) (σ.1 3) x1 _ hF) k_X1_at q180 ⟨rfl, rfl⟩ ⟨Nat.le_of_ble_eq_true rfl, Nat.le_of_ble_eq_true rfl⟩ hl.1 rfl rfl (Nat.le_of_ble_eq_true rfl) dX0_codeOf_5 ⟨Nat.le_of_ble_eq_true rfl, Nat.le_of_ble_eq_true rfl⟩ (fun r5 hF => ?_)
  exact W.iret (v := r5) hx hb hr (fun t ht hW => ⟨r5, rfl, hF, ht⟩) (fun q hq => absurd hq List.not_mem_nil) dX0_codeOf_8
theorem dX0_colourOf_0 : decode cX0_colourOf 0 = .ok (.aload_n 0, 1) := by decide +kernel
theorem dX0_colourOf_1 : decode cX0_colourOf 1 = .ok (.getfield 24, 3) := by decide +kernel
theorem dX0_colourOf_4 : decode cX0_colourOf 4 = .ok (.iload_n 1, 1) := by decide +kernel
theorem dX0_colourOf_5 : decode cX0_colourOf 5 = .ok (.invokevirtual 64, 3) := by decide +kernel
theorem dX0_colourOf_8 : decode cX0_colourOf 8 = .ok (.iconst 5, 1) := by decide +kernel
theorem dX0_colourOf_9 : decode cX0_colourOf 9 = .ok (.idiv, 1) := by decide +kernel
theorem dX0_colourOf_10 : decode cX0_colourOf 10 = .ok (.istore_n 3, 1) := by decide +kernel
theorem dX0_colourOf_11 : decode cX0_colourOf 11 = .ok (.aload_n 0, 1) := by decide +kernel
theorem dX0_colourOf_12 : decode cX0_colourOf 12 = .ok (.getfield 24, 3) := by decide +kernel
theorem dX0_colourOf_15 : decode cX0_colourOf 15 = .ok (.iload_n 1, 1) := by decide +kernel
theorem dX0_colourOf_16 : decode cX0_colourOf 16 = .ok (.invokevirtual 64, 3) := by decide +kernel
theorem dX0_colourOf_19 : decode cX0_colourOf 19 = .ok (.iconst 5, 1) := by decide +kernel
theorem dX0_colourOf_20 : decode cX0_colourOf 20 = .ok (.irem, 1) := by decide +kernel
theorem dX0_colourOf_21 : decode cX0_colourOf 21 = .ok (.istore 4, 2) := by decide +kernel
theorem dX0_colourOf_23 : decode cX0_colourOf 23 = .ok (.iload_n 2, 1) := by decide +kernel
theorem dX0_colourOf_24 : decode cX0_colourOf 24 = .ok (.ifCond .ne 10, 3) := by decide +kernel
theorem dX0_colourOf_27 : decode cX0_colourOf 27 = .ok (.iload_n 3, 1) := by decide +kernel
theorem dX0_colourOf_28 : decode cX0_colourOf 28 = .ok (.iload 4, 2) := by decide +kernel
theorem dX0_colourOf_30 : decode cX0_colourOf 30 = .ok (.iadd, 1) := by decide +kernel
theorem dX0_colourOf_31 : decode cX0_colourOf 31 = .ok (.goto 9, 3) := by decide +kernel
theorem dX0_colourOf_34 : decode cX0_colourOf 34 = .ok (.iload_n 3, 1) := by decide +kernel
theorem dX0_colourOf_35 : decode cX0_colourOf 35 = .ok (.iconst 5, 1) := by decide +kernel
theorem dX0_colourOf_36 : decode cX0_colourOf 36 = .ok (.iadd, 1) := by decide +kernel
theorem dX0_colourOf_37 : decode cX0_colourOf 37 = .ok (.iload 4, 2) := by decide +kernel
theorem dX0_colourOf_39 : decode cX0_colourOf 39 = .ok (.isub, 1) := by decide +kernel
theorem dX0_colourOf_40 : decode cX0_colourOf 40 = .ok (.iconst 3, 1) := by decide +kernel
theorem dX0_colourOf_41 : decode cX0_colourOf 41 = .ok (.irem, 1) := by decide +kernel
theorem dX0_colourOf_42 : decode cX0_colourOf 42 = .ok (.ireturn, 1) := by decide +kernel
def wp_X0_colourOf (σ : SX) (x1 : Int32) (x2 : Int32) (P : Int32 → Prop) : Prop := (wp_X1_at 13 (σ.2.1 1) (σ.1 2) x1 (fun r5 => (wp_X1_at 13 (σ.2.1 1) (σ.1 2) x1 (fun r16 => ((¬ x2 = 0 → (P ((((r5 / 5) + 5) - (r16 - r16 / 5 * 5)) - (((r5 / 5) + 5) - (r16 - r16 / 5 * 5)) / 3 * 3))) ∧ (x2 = 0 → (P (((r5 / 5) + (r16 - r16 / 5 * 5)) - ((r5 / 5) + (r16 - r16 / 5 * 5)) / 3 * 3))))))))
theorem k_X0_colourOf : KV RX0 yX0_colourOf cX0_colourOf 5 (some .int) 2 := ⟨q305, q306, q2, q307, by decide +kernel⟩
set_option maxHeartbeats 4000000 in
set_option maxRecDepth 100000 in
theorem m_X0_colourOf (l : Launch) (dC : Nat → ClassId) (dI : Nat → Nat → Nat) (h : Nat → Nat) (cy : Nat → ClassId) (σ : SX) (x1 : Int32) (x2 : Int32) (P : Int32 → Prop) (hF : wp_X0_colourOf σ x1 x2 P) : Met l yX0_colourOf (ws_ yX0_colourOf cX0_colourOf 5 (some .int)) ({ frames := 1, cells := 0, slots := 0, locals := 21 } : Room) (va_Pc [.ref (h 0), .int x1, .int x2] (fun U => va_P (dC, dI) classes (wB h cy σ) U.heap ∧ kwX dC dI cy U)) (vp_Si P) 0 0 (fun _ => False) := by
  refine Met.ofCx (own := RX0) (by decide) rfl (Nat.le_of_ble_eq_true rfl) ?_
  intro p e s m below meth c hC hv ls hl
  obtain ⟨hx, hb, hr, hml, hown, hts, hlocks⟩ := hC
  have hl : lv_has ls 5 [(0, .ref (h 0)), (1, .int x1), (2, .int x2)] := hl
  obtain ⟨hP, hK⟩ := hv
  unfold wp_X0_colourOf at hF
  refine lv_aload_n hx hb dX0_colourOf_0 rfl (lv_at hl 0 rfl) ?_
  refine va_get (D := (dC, dI)) (ci := 0) (v := .ref (h 2)) (C := RX0) (T := TX0) (N := 8) hx hb hts in_X0 hown hK.1 hP 0 rfl rfl 3 (by decide) (hts _ q68) (fun _ h9 => h9) rfl dX0_colourOf_1 ?_
  refine lv_iload_n hx hb dX0_colourOf_4 rfl (lv_at hl 1 rfl) ?_
  have hPc := hP.sub (ws' := wR (h 2) (h 3) cy 13 (σ.2.1 1) (σ.1 2)) [2, 3] rfl
  refine cpVi (q0 := 0) (As := [.int x1]) (rest := []) ⟨hx, hb, hr, hml, hown, hts, hlocks⟩ hK hPc rfl rfl (m_X1_at l dC dI (h 2) (h 3) cy 13 (σ.2.1 1) (σ.1 2) x1 _ hF) k_X1_at q180 ⟨rfl, rfl⟩ ⟨Nat.le_of_ble_eq_true rfl, Nat.le_of_ble_eq_true rfl⟩ hl.1 rfl rfl (Nat.le_of_ble_eq_true rfl) dX0_colourOf_5 ⟨Nat.le_of_ble_eq_true rfl, Nat.le_of_ble_eq_true rfl⟩ (fun r5 hF => ?_)
  refine lv_iconst (v := 5) hx hb dX0_colourOf_8 (by decide) ?_
  refine lv_idiv hx hb dX0_colourOf_9 (by decide) ?_
  refine lv_istore_n (lv' := [(3, .int (r5 / 5)), (0, .ref (h 0)), (1, .int x1), (2, .int x2)]) hx hb dX0_colourOf_10 rfl hl (by decide) rfl (fun ls hl => ?_)
  refine lv_aload_n hx hb dX0_colourOf_11 rfl (lv_at hl 1 rfl) ?_
  refine va_get (D := (dC, dI)) (ci := 0) (v := .ref (h 2)) (C := RX0) (T := TX0) (N := 8) hx hb hts in_X0 hown hK.1 hP 0 rfl rfl 3 (by decide) (hts _ q68) (fun _ h9 => h9) rfl dX0_colourOf_12 ?_
  refine lv_iload_n hx hb dX0_colourOf_15 rfl (lv_at hl 2 rfl) ?_
  have hPc := hP.sub (ws' := wR (h 2) (h 3) cy 13 (σ.2.1 1) (σ.1 2)) [2, 3] rfl
  refine cpVi (q0 := 0) (As := [.int x1]) (rest := []) ⟨hx, hb, hr, hml, hown, hts, hlocks⟩ hK hPc rfl rfl (m_X1_at l dC dI (h 2) (h 3) cy 13 (σ.2.1 1) (σ.1 2) x1 _ hF) k_X1_at q180 ⟨rfl, rfl⟩ ⟨Nat.le_of_ble_eq_true rfl, Nat.le_of_ble_eq_true rfl⟩ hl.1 rfl rfl (Nat.le_of_ble_eq_true rfl) dX0_colourOf_16 ⟨Nat.le_of_ble_eq_true rfl, Nat.le_of_ble_eq_true rfl⟩ (fun r16 hF => ?_)
  refine lv_iconst (v := 5) hx hb dX0_colourOf_19 (by decide) ?_
  refine lv_irem hx hb dX0_colourOf_20 (by decide) ?_
  refine lv_istore (lv' := [(4, .int (r16 - r16 / 5 * 5)), (3, .int (r5 / 5)), (0, .ref (h 0)), (1, .int x1), (2, .int x2)]) hx hb dX0_colourOf_21 hl (by decide) rfl (fun ls hl => ?_)
  refine lv_iload_n hx hb dX0_colourOf_23 rfl (lv_at hl 4 rfl) ?_
  refine lv_if_ne (tgt := 34) hx hb dX0_colourOf_24 (by decide) (fun cz => ?_) (fun cz => ?_)
  · have hF := hF.1 cz
    refine lv_iload_n hx hb dX0_colourOf_34 rfl (lv_at hl 1 rfl) ?_
    refine lv_iconst (v := 5) hx hb dX0_colourOf_35 (by decide) ?_
    refine lv_iadd hx hb dX0_colourOf_36 ?_
    refine lv_iload hx hb dX0_colourOf_37 (lv_at hl 0 rfl) ?_
    refine lv_isub hx hb dX0_colourOf_39 ?_
    refine lv_iconst (v := 3) hx hb dX0_colourOf_40 (by decide) ?_
    refine lv_irem hx hb dX0_colourOf_41 (by decide) ?_
    exact W.iret (v := (((r5 / 5) + 5) - (r16 - r16 / 5 * 5)) - (((r5 / 5) + 5) - (r16 - r16 / 5 * 5)) / 3 * 3) hx hb hr (fun t ht hW => ⟨(((r5 / 5) + 5) - (r16 - r16 / 5 * 5)) - (((r5 / 5) + 5) - (r16 - r16 / 5 * 5)) / 3 * 3, rfl, hF, ht⟩) (fun q hq => absurd hq List.not_mem_nil) dX0_colourOf_42
  · have hF := hF.2 cz
    refine lv_iload_n hx hb dX0_colourOf_27 rfl (lv_at hl 1 rfl) ?_
    refine lv_iload hx hb dX0_colourOf_28 (lv_at hl 0 rfl) ?_
    refine lv_iadd hx hb dX0_colourOf_30 ?_
    refine lv_goto (tgt := 40) hx hb dX0_colourOf_31 (by decide) ?_
    refine lv_iconst (v := 3) hx hb dX0_colourOf_40 (by decide) ?_
    refine lv_irem hx hb dX0_colourOf_41 (by decide) ?_
    exact W.iret (v := ((r5 / 5) + (r16 - r16 / 5 * 5)) - ((r5 / 5) + (r16 - r16 / 5 * 5)) / 3 * 3) hx hb hr (fun t ht hW => ⟨((r5 / 5) + (r16 - r16 / 5 * 5)) - ((r5 / 5) + (r16 - r16 / 5 * 5)) / 3 * 3, rfl, hF, ht⟩) (fun q hq => absurd hq List.not_mem_nil) dX0_colourOf_42
theorem dX0_countColour_0 : decode cX0_countColour 0 = .ok (.iconst 0, 1) := by decide +kernel
theorem dX0_countColour_1 : decode cX0_countColour 1 = .ok (.istore 4, 2) := by decide +kernel
theorem dX0_countColour_3 : decode cX0_countColour 3 = .ok (.iconst 0, 1) := by decide +kernel
theorem dX0_countColour_4 : decode cX0_countColour 4 = .ok (.istore 5, 2) := by decide +kernel
theorem dX0_countColour_6 : decode cX0_countColour 6 = .ok (.iload 5, 2) := by decide +kernel
theorem dX0_countColour_8 : decode cX0_countColour 8 = .ok (.aload_n 0, 1) := by decide +kernel
theorem dX0_countColour_9 : decode cX0_countColour 9 = .ok (.getfield 24, 3) := by decide +kernel
theorem dX0_countColour_12 : decode cX0_countColour 12 = .ok (.invokevirtual 60, 3) := by decide +kernel
theorem dX0_countColour_15 : decode cX0_countColour 15 = .ok (.if_icmp .ge 33, 3) := by decide +kernel
theorem dX0_countColour_18 : decode cX0_countColour 18 = .ok (.iload_n 1, 1) := by decide +kernel
theorem dX0_countColour_19 : decode cX0_countColour 19 = .ok (.iload 5, 2) := by decide +kernel
theorem dX0_countColour_21 : decode cX0_countColour 21 = .ok (.ishr, 1) := by decide +kernel
theorem dX0_countColour_22 : decode cX0_countColour 22 = .ok (.iconst 1, 1) := by decide +kernel
theorem dX0_countColour_23 : decode cX0_countColour 23 = .ok (.iand, 1) := by decide +kernel
theorem dX0_countColour_24 : decode cX0_countColour 24 = .ok (.iconst 1, 1) := by decide +kernel
theorem dX0_countColour_25 : decode cX0_countColour 25 = .ok (.if_icmp .ne 17, 3) := by decide +kernel
theorem dX0_countColour_28 : decode cX0_countColour 28 = .ok (.aload_n 0, 1) := by decide +kernel
theorem dX0_countColour_29 : decode cX0_countColour 29 = .ok (.iload 5, 2) := by decide +kernel
theorem dX0_countColour_31 : decode cX0_countColour 31 = .ok (.iload_n 3, 1) := by decide +kernel
theorem dX0_countColour_32 : decode cX0_countColour 32 = .ok (.invokevirtual 102, 3) := by decide +kernel
theorem dX0_countColour_35 : decode cX0_countColour 35 = .ok (.iload_n 2, 1) := by decide +kernel
theorem dX0_countColour_36 : decode cX0_countColour 36 = .ok (.if_icmp .ne 6, 3) := by decide +kernel
theorem dX0_countColour_39 : decode cX0_countColour 39 = .ok (.iinc 4 1, 3) := by decide +kernel
theorem dX0_countColour_42 : decode cX0_countColour 42 = .ok (.iinc 5 1, 3) := by decide +kernel
theorem dX0_countColour_45 : decode cX0_countColour 45 = .ok (.goto (-39), 3) := by decide +kernel
theorem dX0_countColour_48 : decode cX0_countColour 48 = .ok (.iload 4, 2) := by decide +kernel
theorem dX0_countColour_50 : decode cX0_countColour 50 = .ok (.ireturn, 1) := by decide +kernel
def wp_X0_countColour_J42 (rec6 : Int32 → Int32 → Prop) (v5_6 : Int32) (v4_42 : Int32) : Prop := (rec6 (v5_6 + 1) v4_42)
def wp_X0_countColour_B6 (σ : SX) (x1 : Int32) (x2 : Int32) (x3 : Int32) (K6 : Int32 → Prop) (rec6 : Int32 → Int32 → Prop) (v5_6 : Int32) (v4_6 : Int32) : Prop := (wp_X1_size 13 (σ.2.1 1) (σ.1 2)  (fun r12 => ((r12 ≤ v5_6 → (K6 v4_6)) ∧ (¬ r12 ≤ v5_6 → ((¬ ((x1 >>> (v5_6 &&& 31)) &&& 1) = 1 → (wp_X0_countColour_J42 rec6 v5_6 v4_6)) ∧ (((x1 >>> (v5_6 &&& 31)) &&& 1) = 1 → (wp_X0_colourOf σ v5_6 x3 (fun r32 => ((¬ r32 = x2 → (wp_X0_countColour_J42 rec6 v5_6 v4_6)) ∧ (r32 = x2 → (wp_X0_countColour_J42 rec6 v5_6 (v4_6 + 1))))))))))))
def wp_X0_countColour_L6 (σ : SX) (x1 : Int32) (x2 : Int32) (x3 : Int32) (K6 : Int32 → Prop) : Nat → Int32 → Int32 → Prop
  | 0, _, _ => False
  | nn + 1, v5_6, v4_6 => wp_X0_countColour_B6 σ x1 x2 x3 K6 (wp_X0_countColour_L6 σ x1 x2 x3 K6 nn) v5_6 v4_6
def wp_X0_countColour (fu : Nat) (σ : SX) (x1 : Int32) (x2 : Int32) (x3 : Int32) (P : Int32 → Prop) : Prop := (wp_X0_countColour_L6 σ x1 x2 x3 (fun (v4_48 : Int32) => (P v4_48)) fu 0 0)
theorem k_X0_countColour : KV RX0 yX0_countColour cX0_countColour 6 (some .int) 3 := ⟨q313, q314, q2, q315, by decide +kernel⟩
set_option maxHeartbeats 4000000 in
set_option maxRecDepth 100000 in
theorem m_X0_countColour (l : Launch) (dC : Nat → ClassId) (dI : Nat → Nat → Nat) (h : Nat → Nat) (cy : Nat → ClassId) (fu : Nat) (σ : SX) (x1 : Int32) (x2 : Int32) (x3 : Int32) (P : Int32 → Prop) (hF : wp_X0_countColour fu σ x1 x2 x3 P) : Met l yX0_countColour (ws_ yX0_countColour cX0_countColour 6 (some .int)) ({ frames := 2, cells := 0, slots := 0, locals := 45 } : Room) (va_Pc [.ref (h 0), .int x1, .int x2, .int x3] (fun U => va_P (dC, dI) classes (wB h cy σ) U.heap ∧ kwX dC dI cy U)) (vp_Si P) 0 0 (fun _ => False) := by
  refine Met.ofCx (own := RX0) (by decide) rfl (Nat.le_of_ble_eq_true rfl) ?_
  intro p e s m below meth c hC hv ls hl
  obtain ⟨hx, hb, hr, hml, hown, hts, hlocks⟩ := hC
  have hl : lv_has ls 6 [(0, .ref (h 0)), (1, .int x1), (2, .int x2), (3, .int x3)] := hl
  obtain ⟨hP, hK⟩ := hv
  unfold wp_X0_countColour at hF
  refine lv_iconst (v := 0) hx hb dX0_countColour_0 (by decide) ?_
  refine lv_istore (lv' := [(4, .int 0), (0, .ref (h 0)), (1, .int x1), (2, .int x2), (3, .int x3)]) hx hb dX0_countColour_1 hl (by decide) rfl (fun ls hl => ?_)
  refine lv_iconst (v := 0) hx hb dX0_countColour_3 (by decide) ?_
  refine lv_istore (lv' := [(5, .int 0), (4, .int 0), (0, .ref (h 0)), (1, .int x1), (2, .int x2), (3, .int x3)]) hx hb dX0_countColour_4 hl (by decide) rfl (fun ls hl => ?_)
  have hX6 : ∀ (v4_48 : Int32), (fun (v4_48 : Int32) => (P v4_48)) v4_48 → ∀ (ls : Array Slot), lv_has ls 6 [(4, .int v4_48)] → W p l e ({ frames := 2, cells := 0, slots := 0, locals := 45 } : Room) s m ([.ref (h 0), .int x1, .int x2, .int x3] : List Value).toArray below meth c s.heap [] 0 0 (MQ below (vp_Si P) ([.ref (h 0), .int x1, .int x2, .int x3] : List Value).toArray s 0 0 (fun _ => False)) (F0 m 48 ls []) := by
    intro v4_48 hF ls hl
    refine lv_iload hx hb dX0_countColour_48 (lv_at hl 0 rfl) ?_
    exact W.iret (v := v4_48) hx hb hr (fun t ht hW => ⟨v4_48, rfl, hF, ht⟩) (fun q hq => absurd hq List.not_mem_nil) dX0_countColour_50
  have hL6 : ∀ (K6 : Int32 → Prop), (∀ (v4_48 : Int32), K6 v4_48 → ∀ (ls : Array Slot), lv_has ls 6 [(4, .int v4_48)] → W p l e ({ frames := 2, cells := 0, slots := 0, locals := 45 } : Room) s m ([.ref (h 0), .int x1, .int x2, .int x3] : List Value).toArray below meth c s.heap [] 0 0 (MQ below (vp_Si P) ([.ref (h 0), .int x1, .int x2, .int x3] : List Value).toArray s 0 0 (fun _ => False)) (F0 m 48 ls [])) → ∀ (nn : Nat), ∀ (v5_6 : Int32), ∀ (v4_6 : Int32), wp_X0_countColour_L6 σ x1 x2 x3 K6 nn v5_6 v4_6 → ∀ (ls : Array Slot), lv_has ls 6 [(5, .int v5_6), (4, .int v4_6), (0, .ref (h 0)), (1, .int x1), (2, .int x2), (3, .int x3)] → W p l e ({ frames := 2, cells := 0, slots := 0, locals := 45 } : Room) s m ([.ref (h 0), .int x1, .int x2, .int x3] : List Value).toArray below meth c s.heap [] 0 0 (MQ below (vp_Si P) ([.ref (h 0), .int x1, .int x2, .int x3] : List Value).toArray s 0 0 (fun _ => False)) (F0 m 6 ls []) := by
    intro K6 hX6 nn
    induction nn with
    | zero =>
      intro v5_6 v4_6 hF
      exact hF.elim
    | succ nn ih =>
      intro v5_6 v4_6 hF ls hl
      obtain ⟨rec6, hrec⟩ : ∃ z : Int32 → Int32 → Prop, z = wp_X0_countColour_L6 σ x1 x2 x3 K6 nn := ⟨_, rfl⟩
      have hF : wp_X0_countColour_B6 σ x1 x2 x3 K6 rec6 v5_6 v4_6 := by rw [hrec]; exact hF
      rw [← hrec] at ih
      clear hrec
      unfold wp_X0_countColour_B6 at hF
      refine lv_iload hx hb dX0_countColour_6 (lv_at hl 0 rfl) ?_
      refine lv_aload_n hx hb dX0_countColour_8 rfl (lv_at hl 2 rfl) ?_
      refine va_get (D := (dC, dI)) (ci := 0) (v := .ref (h 2)) (C := RX0) (T := TX0) (N := 8) hx hb hts in_X0 hown hK.1 hP 0 rfl rfl 3 (by decide) (hts _ q68) (fun _ h9 => h9) rfl dX0_countColour_9 ?_
      have hPc := hP.sub (ws' := wR (h 2) (h 3) cy 13 (σ.2.1 1) (σ.1 2)) [2, 3] rfl
      refine cpVi (q0 := 0) (As := []) (rest := [.int v5_6]) ⟨hx, hb, hr, hml, hown, hts, hlocks⟩ hK hPc rfl rfl (m_X1_size l dC dI (h 2) (h 3) cy 13 (σ.2.1 1) (σ.1 2)  _ hF) k_X1_size q168 ⟨rfl, rfl⟩ ⟨Nat.le_of_ble_eq_true rfl, Nat.le_of_ble_eq_true rfl⟩ hl.1 rfl rfl (Nat.le_of_ble_eq_true rfl) dX0_countColour_12 ⟨Nat.le_of_ble_eq_true rfl, Nat.le_of_ble_eq_true rfl⟩ (fun r12 hF => ?_)
      refine lv_icmp_ge (tgt := 48) hx hb dX0_countColour_15 (by decide) (fun cz => ?_) (fun cz => ?_)
      · have hF := hF.1 cz
        exact hX6 v4_6 hF _ (lv_sub hl [1] rfl)
      · have hF := hF.2 cz
        refine lv_iload_n hx hb dX0_countColour_18 rfl (lv_at hl 3 rfl) ?_
        refine lv_iload hx hb dX0_countColour_19 (lv_at hl 0 rfl) ?_
        refine lv_ishr hx hb dX0_countColour_21 ?_
        refine lv_iconst (v := 1) hx hb dX0_countColour_22 (by decide) ?_
        refine lv_iand hx hb dX0_countColour_23 ?_
        refine lv_iconst (v := 1) hx hb dX0_countColour_24 (by decide) ?_
        have hJ42 : ∀ (v4_42 : Int32), wp_X0_countColour_J42 rec6 v5_6 v4_42 → ∀ (ls : Array Slot), lv_has ls 6 [(5, .int v5_6), (4, .int v4_42), (0, .ref (h 0)), (1, .int x1), (2, .int x2), (3, .int x3)] → W p l e ({ frames := 2, cells := 0, slots := 0, locals := 45 } : Room) s m ([.ref (h 0), .int x1, .int x2, .int x3] : List Value).toArray below meth c s.heap [] 0 0 (MQ below (vp_Si P) ([.ref (h 0), .int x1, .int x2, .int x3] : List Value).toArray s 0 0 (fun _ => False)) (F0 m 42 ls []) := by
          intro v4_42 hF ls hl
          unfold wp_X0_countColour_J42 at hF
          refine lv_iinc (v := v5_6 + 1) (lv' := [(5, .int (v5_6 + 1)), (4, .int v4_42), (0, .ref (h 0)), (1, .int x1), (2, .int x2), (3, .int x3)]) hx hb dX0_countColour_42 hl (k := 0) rfl (by rfl) (by decide) rfl (fun ls hl => ?_)
          refine lv_goto (tgt := 6) hx hb dX0_countColour_45 (by decide) ?_
          exact ih (v5_6 + 1) v4_42 hF _ (lv_sub hl [0, 1, 2, 3, 4, 5] rfl)
        refine lv_icmp_ne (tgt := 42) hx hb dX0_countColour_25 (by decide) (fun cz => ?_) (fun cz => ?_)
        · have hF := hF.1 cz
          exact hJ42 v4_6 hF _ (lv_sub hl [0, 1, 2, 3, 4, 5] rfl)
        · have hF := hF.2 cz
          refine lv_aload_n hx hb dX0_countColour_28 rfl (lv_at hl 2 rfl) ?_
          refine lv_iload hx hb dX0_countColour_29 (lv_at hl 0 rfl) ?_
          refine lv_iload_n hx hb dX0_countColour_31 rfl (lv_at hl 5 rfl) ?_
          refine cpVi (q0 := 0) (As := [.int v5_6, .int x3]) (rest := []) ⟨hx, hb, hr, hml, hown, hts, hlocks⟩ hK hP rfl rfl (m_X0_colourOf l dC dI h cy σ v5_6 x3 _ hF) k_X0_colourOf q304 ⟨rfl, rfl⟩ ⟨Nat.le_of_ble_eq_true rfl, Nat.le_of_ble_eq_true rfl⟩ hl.1 rfl rfl (Nat.le_of_ble_eq_true rfl) dX0_countColour_32 ⟨Nat.le_of_ble_eq_true rfl, Nat.le_of_ble_eq_true rfl⟩ (fun r32 hF => ?_)
          refine lv_iload_n hx hb dX0_countColour_35 rfl (lv_at hl 4 rfl) ?_
          refine lv_icmp_ne (tgt := 42) hx hb dX0_countColour_36 (by decide) (fun cz => ?_) (fun cz => ?_)
          · have hF := hF.1 cz
            exact hJ42 v4_6 hF _ (lv_sub hl [0, 1, 2, 3, 4, 5] rfl)
          · have hF := hF.2 cz
            refine lv_iinc (v := v4_6 + 1) (lv' := [(4, .int (v4_6 + 1)), (5, .int v5_6), (0, .ref (h 0)), (1, .int x1), (2, .int x2), (3, .int x3)]) hx hb dX0_countColour_39 hl (k := 1) rfl (by rfl) (by decide) rfl (fun ls hl => ?_)
            exact hJ42 (v4_6 + 1) hF _ (lv_sub hl [1, 0, 2, 3, 4, 5] rfl)
  exact hL6 _ hX6 fu 0 0 hF _ (lv_sub hl [0, 1, 2, 3, 4, 5] rfl)
theorem dX0_countJumps_0 : decode cX0_countJumps 0 = .ok (.iconst 0, 1) := by decide +kernel
theorem dX0_countJumps_1 : decode cX0_countJumps 1 = .ok (.istore_n 2, 1) := by decide +kernel
theorem dX0_countJumps_2 : decode cX0_countJumps 2 = .ok (.iconst 0, 1) := by decide +kernel
theorem dX0_countJumps_3 : decode cX0_countJumps 3 = .ok (.istore_n 3, 1) := by decide +kernel
theorem dX0_countJumps_4 : decode cX0_countJumps 4 = .ok (.iload_n 3, 1) := by decide +kernel
theorem dX0_countJumps_5 : decode cX0_countJumps 5 = .ok (.aload_n 0, 1) := by decide +kernel
theorem dX0_countJumps_6 : decode cX0_countJumps 6 = .ok (.getfield 28, 3) := by decide +kernel
theorem dX0_countJumps_9 : decode cX0_countJumps 9 = .ok (.invokevirtual 60, 3) := by decide +kernel
theorem dX0_countJumps_12 : decode cX0_countJumps 12 = .ok (.if_icmp .ge 22, 3) := by decide +kernel
theorem dX0_countJumps_15 : decode cX0_countJumps 15 = .ok (.aload_n 0, 1) := by decide +kernel
theorem dX0_countJumps_16 : decode cX0_countJumps 16 = .ok (.iload_n 1, 1) := by decide +kernel
theorem dX0_countJumps_17 : decode cX0_countJumps 17 = .ok (.iload_n 3, 1) := by decide +kernel
theorem dX0_countJumps_18 : decode cX0_countJumps 18 = .ok (.invokevirtual 92, 3) := by decide +kernel
theorem dX0_countJumps_21 : decode cX0_countJumps 21 = .ok (.iconst (-1), 1) := by decide +kernel
theorem dX0_countJumps_22 : decode cX0_countJumps 22 = .ok (.if_icmp .eq 6, 3) := by decide +kernel
theorem dX0_countJumps_25 : decode cX0_countJumps 25 = .ok (.iinc 2 1, 3) := by decide +kernel
theorem dX0_countJumps_28 : decode cX0_countJumps 28 = .ok (.iinc 3 1, 3) := by decide +kernel
theorem dX0_countJumps_31 : decode cX0_countJumps 31 = .ok (.goto (-27), 3) := by decide +kernel
theorem dX0_countJumps_34 : decode cX0_countJumps 34 = .ok (.iload_n 2, 1) := by decide +kernel
theorem dX0_countJumps_35 : decode cX0_countJumps 35 = .ok (.ireturn, 1) := by decide +kernel
def wp_X0_countJumps_J28 (rec4 : Int32 → Int32 → Prop) (v3_4 : Int32) (v2_28 : Int32) : Prop := (rec4 (v3_4 + 1) v2_28)
def wp_X0_countJumps_B4 (σ : SX) (x1 : Int32) (K4 : Int32 → Prop) (rec4 : Int32 → Int32 → Prop) (v3_4 : Int32) (v2_4 : Int32) : Prop := (wp_X1_size 104 (σ.2.1 2) (σ.1 3)  (fun r9 => ((r9 ≤ v3_4 → (K4 v2_4)) ∧ (¬ r9 ≤ v3_4 → (wp_X0_behind σ x1 v3_4 (fun r18 => ((r18 = (-1) → (wp_X0_countJumps_J28 rec4 v3_4 v2_4)) ∧ (¬ r18 = (-1) → (wp_X0_countJumps_J28 rec4 v3_4 (v2_4 + 1))))))))))
def wp_X0_countJumps_L4 (σ : SX) (x1 : Int32) (K4 : Int32 → Prop) : Nat → Int32 → Int32 → Prop
  | 0, _, _ => False
  | nn + 1, v3_4, v2_4 => wp_X0_countJumps_B4 σ x1 K4 (wp_X0_countJumps_L4 σ x1 K4 nn) v3_4 v2_4
def wp_X0_countJumps (fu : Nat) (σ : SX) (x1 : Int32) (P : Int32 → Prop) : Prop := (wp_X0_countJumps_L4 σ x1 (fun (v2_34 : Int32) => (P v2_34)) fu 0 0)
theorem k_X0_countJumps : KV RX0 yX0_countJumps cX0_countJumps 4 (some .int) 1 := ⟨q211, q212, q2, q213, by decide +kernel⟩
set_option maxHeartbeats 4000000 in
set_option maxRecDepth 100000 in
theorem m_X0_countJumps (l : Launch) (dC : Nat → ClassId) (dI : Nat → Nat → Nat) (h : Nat → Nat) (cy : Nat → ClassId) (fu : Nat) (σ : SX) (x1 : Int32) (P : Int32 → Prop) (hF : wp_X0_countJumps fu σ x1 P) : Met l yX0_countJumps (ws_ yX0_countJumps cX0_countJumps 4 (some .int)) ({ frames := 2, cells := 0, slots := 0, locals := 44 } : Room) (va_Pc [.ref (h 0), .int x1] (fun U => va_P (dC, dI) classes (wB h cy σ) U.heap ∧ kwX dC dI cy U)) (vp_Si P) 0 0 (fun _ => False) := by
  refine Met.ofCx (own := RX0) (by decide) rfl (Nat.le_of_ble_eq_true rfl) ?_
  intro p e s m below meth c hC hv ls hl
  obtain ⟨hx, hb, hr, hml, hown, hts, hlocks⟩ := hC
  have hl : lv_has ls 4 [(0, .ref (h 0)), (1, .int x1)] := hl
  obtain ⟨hP, hK⟩ := hv
  unfold wp_X0_countJumps at hF
  refine lv_iconst (v := 0) hx hb dX0_countJumps_0 (by decide) ?_
  refine lv_istore_n (lv' := [(2, .int 0), (0, .ref (h 0)), (1, .int x1)]) hx hb dX0_countJumps_1 rfl hl (by decide) rfl (fun ls hl => ?_)
  refine lv_iconst (v := 0) hx hb dX0_countJumps_2 (by decide) ?_
  refine lv_istore_n (lv' := [(3, .int 0), (2, .int 0), (0, .ref (h 0)), (1, .int x1)]) hx hb dX0_countJumps_3 rfl hl (by decide) rfl (fun ls hl => ?_)
  have hX4 : ∀ (v2_34 : Int32), (fun (v2_34 : Int32) => (P v2_34)) v2_34 → ∀ (ls : Array Slot), lv_has ls 4 [(2, .int v2_34)] → W p l e ({ frames := 2, cells := 0, slots := 0, locals := 44 } : Room) s m ([.ref (h 0), .int x1] : List Value).toArray below meth c s.heap [] 0 0 (MQ below (vp_Si P) ([.ref (h 0), .int x1] : List Value).toArray s 0 0 (fun _ => False)) (F0 m 34 ls []) := by
    intro v2_34 hF ls hl
    refine lv_iload_n hx hb dX0_countJumps_34 rfl (lv_at hl 0 rfl) ?_
    exact W.iret (v := v2_34) hx hb hr (fun t ht hW => ⟨v2_34, rfl, hF, ht⟩) (fun q hq => absurd hq List.not_mem_nil) dX0_countJumps_35
  have hL4 : ∀ (K4 : Int32 → Prop), (∀ (v2_34 : Int32), K4 v2_34 → ∀ (ls : Array Slot), lv_has ls 4 [(2, .int v2_34)] → W p l e ({ frames := 2, cells := 0, slots := 0, locals := 44 } : Room) s m ([.ref (h 0), .int x1] : List Value).toArray below meth c s.heap [] 0 0 (MQ below (vp_Si P) ([.ref (h 0), .int x1] : List Value).toArray s 0 0 (fun _ => False)) (F0 m 34 ls [])) → ∀ (nn : Nat), ∀ (v3_4 : Int32), ∀ (v2_4 : Int32), wp_X0_countJumps_L4 σ x1 K4 nn v3_4 v2_4 → ∀ (ls : Array Slot), lv_has ls 4 [(3, .int v3_4), (2, .int v2_4), (0, .ref (h 0)), (1, .int x1)] → W p l e ({ frames := 2, cells := 0, slots := 0, locals := 44 } : Room) s m ([.ref (h 0), .int x1] : List Value).toArray below meth c s.heap [] 0 0 (MQ below (vp_Si P) ([.ref (h 0), .int x1] : List Value).toArray s 0 0 (fun _ => False)) (F0 m 4 ls []) := by
    intro K4 hX4 nn
    induction nn with
    | zero =>
      intro v3_4 v2_4 hF
      exact hF.elim
    | succ nn ih =>
      intro v3_4 v2_4 hF ls hl
      obtain ⟨rec4, hrec⟩ : ∃ z : Int32 → Int32 → Prop, z = wp_X0_countJumps_L4 σ x1 K4 nn := ⟨_, rfl⟩
      have hF : wp_X0_countJumps_B4 σ x1 K4 rec4 v3_4 v2_4 := by rw [hrec]; exact hF
      rw [← hrec] at ih
      clear hrec
      unfold wp_X0_countJumps_B4 at hF
      refine lv_iload_n hx hb dX0_countJumps_4 rfl (lv_at hl 0 rfl) ?_
      refine lv_aload_n hx hb dX0_countJumps_5 rfl (lv_at hl 2 rfl) ?_
      refine va_get (D := (dC, dI)) (ci := 0) (v := .ref (h 4)) (C := RX0) (T := TX0) (N := 8) hx hb hts in_X0 hown hK.1 hP 0 rfl rfl 4 (by decide) (hts _ q69) (fun _ h9 => h9) rfl dX0_countJumps_6 ?_
      have hPc := hP.sub (ws' := wR (h 4) (h 5) cy 104 (σ.2.1 2) (σ.1 3)) [4, 5] rfl
      refine cpVi (q0 := 0) (As := []) (rest := [.int v3_4]) ⟨hx, hb, hr, hml, hown, hts, hlocks⟩ hK hPc rfl rfl (m_X1_size l dC dI (h 4) (h 5) cy 104 (σ.2.1 2) (σ.1 3)  _ hF) k_X1_size q168 ⟨rfl, rfl⟩ ⟨Nat.le_of_ble_eq_true rfl, Nat.le_of_ble_eq_true rfl⟩ hl.1 rfl rfl (Nat.le_of_ble_eq_true rfl) dX0_countJumps_9 ⟨Nat.le_of_ble_eq_true rfl, Nat.le_of_ble_eq_true rfl⟩ (fun r9 hF => ?_)
      refine lv_icmp_ge (tgt := 34) hx hb dX0_countJumps_12 (by decide) (fun cz => ?_) (fun cz => ?_)
      · have hF := hF.1 cz
        exact hX4 v2_4 hF _ (lv_sub hl [1] rfl)
      · have hF := hF.2 cz
        refine lv_aload_n hx hb dX0_countJumps_15 rfl (lv_at hl 2 rfl) ?_
        refine lv_iload_n hx hb dX0_countJumps_16 rfl (lv_at hl 3 rfl) ?_
        refine lv_iload_n hx hb dX0_countJumps_17 rfl (lv_at hl 0 rfl) ?_
        refine cpVi (q0 := 0) (As := [.int x1, .int v3_4]) (rest := []) ⟨hx, hb, hr, hml, hown, hts, hlocks⟩ hK hP rfl rfl (m_X0_behind l dC dI h cy σ x1 v3_4 _ hF) k_X0_behind q214 ⟨rfl, rfl⟩ ⟨Nat.le_of_ble_eq_true rfl, Nat.le_of_ble_eq_true rfl⟩ hl.1 rfl rfl (Nat.le_of_ble_eq_true rfl) dX0_countJumps_18 ⟨Nat.le_of_ble_eq_true rfl, Nat.le_of_ble_eq_true rfl⟩ (fun r18 hF => ?_)
        refine lv_iconst (v := (-1)) hx hb dX0_countJumps_21 (by decide) ?_
        have hJ28 : ∀ (v2_28 : Int32), wp_X0_countJumps_J28 rec4 v3_4 v2_28 → ∀ (ls : Array Slot), lv_has ls 4 [(3, .int v3_4), (2, .int v2_28), (0, .ref (h 0)), (1, .int x1)] → W p l e ({ frames := 2, cells := 0, slots := 0, locals := 44 } : Room) s m ([.ref (h 0), .int x1] : List Value).toArray below meth c s.heap [] 0 0 (MQ below (vp_Si P) ([.ref (h 0), .int x1] : List Value).toArray s 0 0 (fun _ => False)) (F0 m 28 ls []) := by
          intro v2_28 hF ls hl
          unfold wp_X0_countJumps_J28 at hF
          refine lv_iinc (v := v3_4 + 1) (lv' := [(3, .int (v3_4 + 1)), (2, .int v2_28), (0, .ref (h 0)), (1, .int x1)]) hx hb dX0_countJumps_28 hl (k := 0) rfl (by rfl) (by decide) rfl (fun ls hl => ?_)
          refine lv_goto (tgt := 4) hx hb dX0_countJumps_31 (by decide) ?_
          exact ih (v3_4 + 1) v2_28 hF _ (lv_sub hl [0, 1, 2, 3] rfl)
        refine lv_icmp_eq (tgt := 28) hx hb dX0_countJumps_22 (by decide) (fun cz => ?_) (fun cz => ?_)
        · have hF := hF.1 cz
          exact hJ28 v2_4 hF _ (lv_sub hl [0, 1, 2, 3] rfl)
        · have hF := hF.2 cz
          refine lv_iinc (v := v2_4 + 1) (lv' := [(2, .int (v2_4 + 1)), (3, .int v3_4), (0, .ref (h 0)), (1, .int x1)]) hx hb dX0_countJumps_25 hl (k := 1) rfl (by rfl) (by decide) rfl (fun ls hl => ?_)
          exact hJ28 (v2_4 + 1) hF _ (lv_sub hl [1, 0, 2, 3] rfl)
  exact hL4 _ hX4 fu 0 0 hF _ (lv_sub hl [0, 1, 2, 3] rfl)
theorem dX0_weightOf_0 : decode cX0_weightOf 0 = .ok (.aload_n 0, 1) := by decide +kernel
theorem dX0_weightOf_1 : decode cX0_weightOf 1 = .ok (.getfield 24, 3) := by decide +kernel
theorem dX0_weightOf_4 : decode cX0_weightOf 4 = .ok (.iload_n 1, 1) := by decide +kernel
theorem dX0_weightOf_5 : decode cX0_weightOf 5 = .ok (.invokevirtual 64, 3) := by decide +kernel
theorem dX0_weightOf_8 : decode cX0_weightOf 8 = .ok (.istore_n 2, 1) := by decide +kernel
theorem dX0_weightOf_9 : decode cX0_weightOf 9 = .ok (.iload_n 2, 1) := by decide +kernel
theorem dX0_weightOf_10 : decode cX0_weightOf 10 = .ok (.ifCond .lt 21, 3) := by decide +kernel
theorem dX0_weightOf_13 : decode cX0_weightOf 13 = .ok (.iload_n 2, 1) := by decide +kernel
theorem dX0_weightOf_14 : decode cX0_weightOf 14 = .ok (.aload_n 0, 1) := by decide +kernel
theorem dX0_weightOf_15 : decode cX0_weightOf 15 = .ok (.getfield 15, 3) := by decide +kernel
theorem dX0_weightOf_18 : decode cX0_weightOf 18 = .ok (.arraylength, 1) := by decide +kernel
theorem dX0_weightOf_19 : decode cX0_weightOf 19 = .ok (.if_icmp .ge 12, 3) := by decide +kernel
theorem dX0_weightOf_22 : decode cX0_weightOf 22 = .ok (.aload_n 0, 1) := by decide +kernel
theorem dX0_weightOf_23 : decode cX0_weightOf 23 = .ok (.getfield 15, 3) := by decide +kernel
theorem dX0_weightOf_26 : decode cX0_weightOf 26 = .ok (.iload_n 2, 1) := by decide +kernel
theorem dX0_weightOf_27 : decode cX0_weightOf 27 = .ok (.iaload, 1) := by decide +kernel
theorem dX0_weightOf_28 : decode cX0_weightOf 28 = .ok (.goto 4, 3) := by decide +kernel
theorem dX0_weightOf_31 : decode cX0_weightOf 31 = .ok (.iconst 0, 1) := by decide +kernel
theorem dX0_weightOf_32 : decode cX0_weightOf 32 = .ok (.ireturn, 1) := by decide +kernel
def wp_X0_weightOf (σ : SX) (x1 : Int32) (P : Int32 → Prop) : Prop := (wp_X1_at 13 (σ.2.1 1) (σ.1 2) x1 (fun r5 => ((r5 < 0 → (P 0)) ∧ (¬ r5 < 0 → ((25 ≤ r5 → (P 0)) ∧ (¬ 25 ≤ r5 → (vp_in r5 25 ∧ (P ((σ.2.1 0) r5.toNatClampNeg)))))))))
theorem k_X0_weightOf : KV RX0 yX0_weightOf cX0_weightOf 3 (some .int) 1 := ⟨q289, q290, q2, q291, by decide +kernel⟩
set_option maxHeartbeats 4000000 in
set_option maxRecDepth 100000 in
theorem m_X0_weightOf (l : Launch) (dC : Nat → ClassId) (dI : Nat → Nat → Nat) (h : Nat → Nat) (cy : Nat → ClassId) (σ : SX) (x1 : Int32) (P : Int32 → Prop) (hF : wp_X0_weightOf σ x1 P) : Met l yX0_weightOf (ws_ yX0_weightOf cX0_weightOf 3 (some .int)) ({ frames := 1, cells := 0, slots := 0, locals := 21 } : Room) (va_Pc [.ref (h 0), .int x1] (fun U => va_P (dC, dI) classes (wB h cy σ) U.heap ∧ kwX dC dI cy U)) (vp_Si P) 0 0 (fun _ => False) := by
  refine Met.ofCx (own := RX0) (by decide) rfl (Nat.le_of_ble_eq_true rfl) ?_
  intro p e s m below meth c hC hv ls hl
  obtain ⟨hx, hb, hr, hml, hown, hts, hlocks⟩ := hC
  have hl : lv_has ls 3 [(0, .ref (h 0)), (1, .int x1)] := hl
  obtain ⟨hP, hK⟩ := hv
  unfold wp_X0_weightOf at hF
  refine lv_aload_n hx hb dX0_weightOf_0 rfl (lv_at hl 0 rfl) ?_
  refine va_get (D := (dC, dI)) (ci := 0) (v := .ref (h 2)) (C := RX0) (T := TX0) (N := 8) hx hb hts in_X0 hown hK.1 hP 0 rfl rfl 3 (by decide) (hts _ q68) (fun _ h9 => h9) rfl dX0_weightOf_1 ?_
  refine lv_iload_n hx hb dX0_weightOf_4 rfl (lv_at hl 1 rfl) ?_
  have hPc := hP.sub (ws' := wR (h 2) (h 3) cy 13 (σ.2.1 1) (σ.1 2)) [2, 3] rfl
  refine cpVi (q0 := 0) (As := [.int x1]) (rest := []) ⟨hx, hb, hr, hml, hown, hts, hlocks⟩ hK hPc rfl rfl (m_X1_at l dC dI (h 2) (h 3) cy 13 (σ.2.1 1) (σ.1 2) x1 _ hF) k_X1_at q180 ⟨rfl, rfl⟩ ⟨Nat.le_of_ble_eq_true rfl, Nat.le_of_ble_eq_true rfl⟩ hl.1 rfl rfl (Nat.le_of_ble_eq_true rfl) dX0_weightOf_5 ⟨Nat.le_of_ble_eq_true rfl, Nat.le_of_ble_eq_true rfl⟩ (fun r5 hF => ?_)
  refine lv_istore_n (lv' := [(2, .int r5), (0, .ref (h 0)), (1, .int x1)]) hx hb dX0_weightOf_8 rfl hl (by decide) rfl (fun ls hl => ?_)
  refine lv_iload_n hx hb dX0_weightOf_9 rfl (lv_at hl 0 rfl) ?_
  refine lv_if_lt (tgt := 31) hx hb dX0_weightOf_10 (by decide) (fun cz => ?_) (fun cz => ?_)
  · have hF := hF.1 cz
    refine lv_iconst (v := 0) hx hb dX0_weightOf_31 (by decide) ?_
    exact W.iret (v := 0) hx hb hr (fun t ht hW => ⟨0, rfl, hF, ht⟩) (fun q hq => absurd hq List.not_mem_nil) dX0_weightOf_32
  · have hF := hF.2 cz
    refine lv_iload_n hx hb dX0_weightOf_13 rfl (lv_at hl 0 rfl) ?_
    refine lv_aload_n hx hb dX0_weightOf_14 rfl (lv_at hl 1 rfl) ?_
    refine va_get (D := (dC, dI)) (ci := 0) (v := .ref (h 1)) (C := RX0) (T := TX0) (N := 8) hx hb hts in_X0 hown hK.1 hP 0 rfl rfl 2 (by decide) (hts _ q67) (fun _ h9 => h9) rfl dX0_weightOf_15 ?_
    refine va_alen hx hb hK.1 hP 1 0 rfl rfl (v := 25) (by rfl) dX0_weightOf_18 ?_
    refine lv_icmp_ge (tgt := 31) hx hb dX0_weightOf_19 (by decide) (fun cz => ?_) (fun cz => ?_)
    · have hF := hF.1 cz
      refine lv_iconst (v := 0) hx hb dX0_weightOf_31 (by decide) ?_
      exact W.iret (v := 0) hx hb hr (fun t ht hW => ⟨0, rfl, hF, ht⟩) (fun q hq => absurd hq List.not_mem_nil) dX0_weightOf_32
    · have hF := hF.2 cz
      refine lv_aload_n hx hb dX0_weightOf_22 rfl (lv_at hl 1 rfl) ?_
      refine va_get (D := (dC, dI)) (ci := 0) (v := .ref (h 1)) (C := RX0) (T := TX0) (N := 8) hx hb hts in_X0 hown hK.1 hP 0 rfl rfl 2 (by decide) (hts _ q67) (fun _ h9 => h9) rfl dX0_weightOf_23 ?_
      refine lv_iload_n hx hb dX0_weightOf_26 rfl (lv_at hl 0 rfl) ?_
      have hI := hF.1
      have hF := hF.2
      refine va_iald hx hb hK.1 hP 1 0 rfl rfl hI dX0_weightOf_27 ?_
      refine lv_goto (tgt := 32) hx hb dX0_weightOf_28 (by decide) ?_
      exact W.iret (v := (σ.2.1 0) r5.toNatClampNeg) hx hb hr (fun t ht hW => ⟨(σ.2.1 0) r5.toNatClampNeg, rfl, hF, ht⟩) (fun q hq => absurd hq List.not_mem_nil) dX0_weightOf_32
theorem dX0_faultLine_0 : decode cX0_faultLine 0 = .ok (.iconst 0, 1) := by decide +kernel
theorem dX0_faultLine_1 : decode cX0_faultLine 1 = .ok (.istore_n 1, 1) := by decide +kernel
theorem dX0_faultLine_2 : decode cX0_faultLine 2 = .ok (.iconst (-1), 1) := by decide +kernel
theorem dX0_faultLine_3 : decode cX0_faultLine 3 = .ok (.istore_n 2, 1) := by decide +kernel
theorem dX0_faultLine_4 : decode cX0_faultLine 4 = .ok (.iconst 0, 1) := by decide +kernel
theorem dX0_faultLine_5 : decode cX0_faultLine 5 = .ok (.istore_n 3, 1) := by decide +kernel
theorem dX0_faultLine_6 : decode cX0_faultLine 6 = .ok (.iload_n 3, 1) := by decide +kernel
theorem dX0_faultLine_7 : decode cX0_faultLine 7 = .ok (.aload_n 0, 1) := by decide +kernel
theorem dX0_faultLine_8 : decode cX0_faultLine 8 = .ok (.getfield 28, 3) := by decide +kernel
theorem dX0_faultLine_11 : decode cX0_faultLine 11 = .ok (.invokevirtual 60, 3) := by decide +kernel
theorem dX0_faultLine_14 : decode cX0_faultLine 14 = .ok (.if_icmp .ge 64, 3) := by decide +kernel
theorem dX0_faultLine_17 : decode cX0_faultLine 17 = .ok (.aload_n 0, 1) := by decide +kernel
theorem dX0_faultLine_18 : decode cX0_faultLine 18 = .ok (.getfield 28, 3) := by decide +kernel
theorem dX0_faultLine_21 : decode cX0_faultLine 21 = .ok (.iload_n 3, 1) := by decide +kernel
theorem dX0_faultLine_22 : decode cX0_faultLine 22 = .ok (.invokevirtual 64, 3) := by decide +kernel
theorem dX0_faultLine_25 : decode cX0_faultLine 25 = .ok (.istore 4, 2) := by decide +kernel
theorem dX0_faultLine_27 : decode cX0_faultLine 27 = .ok (.aload_n 0, 1) := by decide +kernel
theorem dX0_faultLine_28 : decode cX0_faultLine 28 = .ok (.iload 4, 2) := by decide +kernel
theorem dX0_faultLine_30 : decode cX0_faultLine 30 = .ok (.bipush 100, 2) := by decide +kernel
theorem dX0_faultLine_32 : decode cX0_faultLine 32 = .ok (.irem, 1) := by decide +kernel
theorem dX0_faultLine_33 : decode cX0_faultLine 33 = .ok (.invokevirtual 99, 3) := by decide +kernel
theorem dX0_faultLine_36 : decode cX0_faultLine 36 = .ok (.aload_n 0, 1) := by decide +kernel
theorem dX0_faultLine_37 : decode cX0_faultLine 37 = .ok (.iload 4, 2) := by decide +kernel
theorem dX0_faultLine_39 : decode cX0_faultLine 39 = .ok (.bipush 100, 2) := by decide +kernel
theorem dX0_faultLine_41 : decode cX0_faultLine 41 = .ok (.idiv, 1) := by decide +kernel
theorem dX0_faultLine_42 : decode cX0_faultLine 42 = .ok (.invokevirtual 99, 3) := by decide +kernel
theorem dX0_faultLine_45 : decode cX0_faultLine 45 = .ok (.isub, 1) := by decide +kernel
theorem dX0_faultLine_46 : decode cX0_faultLine 46 = .ok (.aload_n 0, 1) := by decide +kernel
theorem dX0_faultLine_47 : decode cX0_faultLine 47 = .ok (.aload_n 0, 1) := by decide +kernel
theorem dX0_faultLine_48 : decode cX0_faultLine 48 = .ok (.getfield 31, 3) := by decide +kernel
theorem dX0_faultLine_51 : decode cX0_faultLine 51 = .ok (.iload_n 3, 1) := by decide +kernel
theorem dX0_faultLine_52 : decode cX0_faultLine 52 = .ok (.invokevirtual 64, 3) := by decide +kernel
theorem dX0_faultLine_55 : decode cX0_faultLine 55 = .ok (.invokevirtual 99, 3) := by decide +kernel
theorem dX0_faultLine_58 : decode cX0_faultLine 58 = .ok (.isub, 1) := by decide +kernel
theorem dX0_faultLine_59 : decode cX0_faultLine 59 = .ok (.istore 5, 2) := by decide +kernel
theorem dX0_faultLine_61 : decode cX0_faultLine 61 = .ok (.iload 5, 2) := by decide +kernel
theorem dX0_faultLine_63 : decode cX0_faultLine 63 = .ok (.iload_n 1, 1) := by decide +kernel
theorem dX0_faultLine_64 : decode cX0_faultLine 64 = .ok (.if_icmp .le 8, 3) := by decide +kernel
theorem dX0_faultLine_67 : decode cX0_faultLine 67 = .ok (.iload 5, 2) := by decide +kernel
theorem dX0_faultLine_69 : decode cX0_faultLine 69 = .ok (.istore_n 1, 1) := by decide +kernel
theorem dX0_faultLine_70 : decode cX0_faultLine 70 = .ok (.iload_n 3, 1) := by decide +kernel
theorem dX0_faultLine_71 : decode cX0_faultLine 71 = .ok (.istore_n 2, 1) := by decide +kernel
theorem dX0_faultLine_72 : decode cX0_faultLine 72 = .ok (.iinc 3 1, 3) := by decide +kernel
theorem dX0_faultLine_75 : decode cX0_faultLine 75 = .ok (.goto (-69), 3) := by decide +kernel
theorem dX0_faultLine_78 : decode cX0_faultLine 78 = .ok (.iload_n 2, 1) := by decide +kernel
theorem dX0_faultLine_79 : decode cX0_faultLine 79 = .ok (.ireturn, 1) := by decide +kernel
def wp_X0_faultLine_J72 (rec6 : Int32 → Int32 → Int32 → Prop) (v3_6 : Int32) (v2_72 : Int32) (v1_72 : Int32) : Prop := (rec6 (v3_6 + 1) v2_72 v1_72)
def wp_X0_faultLine_B6 (σ : SX) (K6 : Int32 → Prop) (rec6 : Int32 → Int32 → Int32 → Prop) (v3_6 : Int32) (v2_6 : Int32) (v1_6 : Int32) : Prop := (wp_X1_size 104 (σ.2.1 2) (σ.1 3)  (fun r11 => ((r11 ≤ v3_6 → (K6 v2_6)) ∧ (¬ r11 ≤ v3_6 → (wp_X1_at 104 (σ.2.1 2) (σ.1 3) v3_6 (fun r22 => (wp_X0_weightOf σ (r22 - r22 / 100 * 100) (fun r33 => (wp_X0_weightOf σ (r22 / 100) (fun r42 => (wp_X1_at 104 (σ.2.1 3) (σ.1 4) v3_6 (fun r52 => (wp_X0_weightOf σ r52 (fun r55 => ((((r33 - r42) - r55) ≤ v1_6 → (wp_X0_faultLine_J72 rec6 v3_6 v2_6 v1_6)) ∧ (¬ ((r33 - r42) - r55) ≤ v1_6 → (wp_X0_faultLine_J72 rec6 v3_6 v3_6 ((r33 - r42) - r55))))))))))))))))))
def wp_X0_faultLine_L6 (σ : SX) (K6 : Int32 → Prop) : Nat → Int32 → Int32 → Int32 → Prop
  | 0, _, _, _ => False
  | nn + 1, v3_6, v2_6, v1_6 => wp_X0_faultLine_B6 σ K6 (wp_X0_faultLine_L6 σ K6 nn) v3_6 v2_6 v1_6
def wp_X0_faultLine (fu : Nat) (σ : SX) (P : Int32 → Prop) : Prop := (wp_X0_faultLine_L6 σ (fun (v2_78 : Int32) => (P v2_78)) fu 0 (-1) 0)
theorem k_X0_faultLine : KV RX0 yX0_faultLine cX0_faultLine 6 (some .int) 0 := ⟨q285, q286, q2, q287, by decide +kernel⟩
set_option maxHeartbeats 4000000 in
set_option maxRecDepth 100000 in
theorem m_X0_faultLine (l : Launch) (dC : Nat → ClassId) (dI : Nat → Nat → Nat) (h : Nat → Nat) (cy : Nat → ClassId) (fu : Nat) (σ : SX) (P : Int32 → Prop) (hF : wp_X0_faultLine fu σ P) : Met l yX0_faultLine (ws_ yX0_faultLine cX0_faultLine 6 (some .int)) ({ frames := 2, cells := 0, slots := 0, locals := 43 } : Room) (va_Pc [.ref (h 0)] (fun U => va_P (dC, dI) classes (wB h cy σ) U.heap ∧ kwX dC dI cy U)) (vp_Si P) 0 0 (fun _ => False) := by
  refine Met.ofCx (own := RX0) (by decide) rfl (Nat.le_of_ble_eq_true rfl) ?_
  intro p e s m below meth c hC hv ls hl
  obtain ⟨hx, hb, hr, hml, hown, hts, hlocks⟩ := hC
  have hl : lv_has ls 6 [(0, .ref (h 0))] := hl
  obtain ⟨hP, hK⟩ := hv
  unfold wp_X0_faultLine at hF
  refine lv_iconst (v := 0) hx hb dX0_faultLine_0 (by decide) ?_
  refine lv_istore_n (lv' := [(1, .int 0), (0, .ref (h 0))]) hx hb dX0_faultLine_1 rfl hl (by decide) rfl (fun ls hl => ?_)
  refine lv_iconst (v := (-1)) hx hb dX0_faultLine_2 (by decide) ?_
  refine lv_istore_n (lv' := [(2, .int (-1)), (1, .int 0), (0, .ref (h 0))]) hx hb dX0_faultLine_3 rfl hl (by decide) rfl (fun ls hl => ?_)
  refine lv_iconst (v := 0) hx hb dX0_faultLine_4 (by decide) ?_
  refine lv_istore_n (lv' := [(3, .int 0), (2, .int (-1)), (1, .int 0), (0, .ref (h 0))]) hx hb dX0_faultLine_5 rfl hl (by decide) rfl (fun ls hl => ?_)
  have hX6 : ∀ (v2_78 : Int32), (fun (v2_78 : Int32) => (P v2_78)) v2_78 → ∀ (ls : Array Slot), lv_has ls 6 [(2, .int v2_78)] → W p l e ({ frames := 2, cells := 0, slots := 0, locals := 43 } : Room) s m ([.ref (h 0)] : List Value).toArray below meth c s.heap [] 0 0 (MQ below (vp_Si P) ([.ref (h 0)] : List Value).toArray s 0 0 (fun _ => False)) (F0 m 78 ls []) := by
    intro v2_78 hF ls hl
    refine lv_iload_n hx hb dX0_faultLine_78 rfl (lv_at hl 0 rfl) ?_
    exact W.iret (v := v2_78) hx hb hr (fun t ht hW => ⟨v2_78, rfl, hF, ht⟩) (fun q hq => absurd hq List.not_mem_nil) dX0_faultLine_79
  have hL6 : ∀ (K6 : Int32 → Prop), (∀ (v2_78 : Int32), K6 v2_78 → ∀ (ls : Array Slot), lv_has ls 6 [(2, .int v2_78)] → W p l e ({ frames := 2, cells := 0, slots := 0, locals := 43 } : Room) s m ([.ref (h 0)] : List Value).toArray below meth c s.heap [] 0 0 (MQ below (vp_Si P) ([.ref (h 0)] : List Value).toArray s 0 0 (fun _ => False)) (F0 m 78 ls [])) → ∀ (nn : Nat), ∀ (v3_6 : Int32), ∀ (v2_6 : Int32), ∀ (v1_6 : Int32), wp_X0_faultLine_L6 σ K6 nn v3_6 v2_6 v1_6 → ∀ (ls : Array Slot), lv_has ls 6 [(3, .int v3_6), (2, .int v2_6), (1, .int v1_6), (0, .ref (h 0))] → W p l e ({ frames := 2, cells := 0, slots := 0, locals := 43 } : Room) s m ([.ref (h 0)] : List Value).toArray below meth c s.heap [] 0 0 (MQ below (vp_Si P) ([.ref (h 0)] : List Value).toArray s 0 0 (fun _ => False)) (F0 m 6 ls []) := by
    intro K6 hX6 nn
    induction nn with
    | zero =>
      intro v3_6 v2_6 v1_6 hF
      exact hF.elim
    | succ nn ih =>
      intro v3_6 v2_6 v1_6 hF ls hl
      obtain ⟨rec6, hrec⟩ : ∃ z : Int32 → Int32 → Int32 → Prop, z = wp_X0_faultLine_L6 σ K6 nn := ⟨_, rfl⟩
      have hF : wp_X0_faultLine_B6 σ K6 rec6 v3_6 v2_6 v1_6 := by rw [hrec]; exact hF
      rw [← hrec] at ih
      clear hrec
      unfold wp_X0_faultLine_B6 at hF
      refine lv_iload_n hx hb dX0_faultLine_6 rfl (lv_at hl 0 rfl) ?_
      refine lv_aload_n hx hb dX0_faultLine_7 rfl (lv_at hl 3 rfl) ?_
      refine va_get (D := (dC, dI)) (ci := 0) (v := .ref (h 4)) (C := RX0) (T := TX0) (N := 8) hx hb hts in_X0 hown hK.1 hP 0 rfl rfl 4 (by decide) (hts _ q69) (fun _ h9 => h9) rfl dX0_faultLine_8 ?_
      have hPc := hP.sub (ws' := wR (h 4) (h 5) cy 104 (σ.2.1 2) (σ.1 3)) [4, 5] rfl
      refine cpVi (q0 := 0) (As := []) (rest := [.int v3_6]) ⟨hx, hb, hr, hml, hown, hts, hlocks⟩ hK hPc rfl rfl (m_X1_size l dC dI (h 4) (h 5) cy 104 (σ.2.1 2) (σ.1 3)  _ hF) k_X1_size q168 ⟨rfl, rfl⟩ ⟨Nat.le_of_ble_eq_true rfl, Nat.le_of_ble_eq_true rfl⟩ hl.1 rfl rfl (Nat.le_of_ble_eq_true rfl) dX0_faultLine_11 ⟨Nat.le_of_ble_eq_true rfl, Nat.le_of_ble_eq_true rfl⟩ (fun r11 hF => ?_)
      refine lv_icmp_ge (tgt := 78) hx hb dX0_faultLine_14 (by decide) (fun cz => ?_) (fun cz => ?_)
      · have hF := hF.1 cz
        exact hX6 v2_6 hF _ (lv_sub hl [1] rfl)
      · have hF := hF.2 cz
        refine lv_aload_n hx hb dX0_faultLine_17 rfl (lv_at hl 3 rfl) ?_
        refine va_get (D := (dC, dI)) (ci := 0) (v := .ref (h 4)) (C := RX0) (T := TX0) (N := 8) hx hb hts in_X0 hown hK.1 hP 0 rfl rfl 4 (by decide) (hts _ q69) (fun _ h9 => h9) rfl dX0_faultLine_18 ?_
        refine lv_iload_n hx hb dX0_faultLine_21 rfl (lv_at hl 0 rfl) ?_
        have hPc := hP.sub (ws' := wR (h 4) (h 5) cy 104 (σ.2.1 2) (σ.1 3)) [4, 5] rfl
        refine cpVi (q0 := 0) (As := [.int v3_6]) (rest := []) ⟨hx, hb, hr, hml, hown, hts, hlocks⟩ hK hPc rfl rfl (m_X1_at l dC dI (h 4) (h 5) cy 104 (σ.2.1 2) (σ.1 3) v3_6 _ hF) k_X1_at q180 ⟨rfl, rfl⟩ ⟨Nat.le_of_ble_eq_true rfl, Nat.le_of_ble_eq_true rfl⟩ hl.1 rfl rfl (Nat.le_of_ble_eq_true rfl) dX0_faultLine_22 ⟨Nat.le_of_ble_eq_true rfl, Nat.le_of_ble_eq_true rfl⟩ (fun r22 hF => ?_)
        refine lv_istore (lv' := [(4, .int r22), (3, .int v3_6), (2, .int v2_6), (1, .int v1_6), (0, .ref (h 0))]) hx hb dX0_faultLine_25 hl (by decide) rfl (fun ls hl => ?_)
        refine lv_aload_n hx hb dX0_faultLine_27 rfl (lv_at hl 4 rfl) ?_
        refine lv_iload hx hb dX0_faultLine_28 (lv_at hl 0 rfl) ?_
        refine lv_bipush (v := 100) hx hb dX0_faultLine_30 (by decide) ?_
        refine lv_irem hx hb dX0_faultLine_32 (by decide) ?_
        refine cpVi (q0 := 0) (As := [.int (r22 - r22 / 100 * 100)]) (rest := []) ⟨hx, hb, hr, hml, hown, hts, hlocks⟩ hK hP rfl rfl (m_X0_weightOf l dC dI h cy σ (r22 - r22 / 100 * 100) _ hF) k_X0_weightOf q288 ⟨rfl, rfl⟩ ⟨Nat.le_of_ble_eq_true rfl, Nat.le_of_ble_eq_true rfl⟩ hl.1 rfl rfl (Nat.le_of_ble_eq_true rfl) dX0_faultLine_33 ⟨Nat.le_of_ble_eq_true rfl, Nat.le_of_ble_eq_true rfl⟩ (fun r33 hF => ?_)
        refine lv_aload_n hx hb dX0_faultLine_36 rfl (lv_at hl 4 rfl) ?_
        refine lv_iload hx hb dX0_faultLine_37 (lv_at hl 0 rfl) ?_
        refine lv_bipush (v := 100) hx hb dX0_faultLine_39 (by decide) ?_
        refine lv_idiv hx hb dX0_faultLine_41 (by decide) ?_
        refine cpVi (q0 := 0) (As := [.int (r22 / 100)]) (rest := [.int r33]) ⟨hx, hb, hr, hml, hown, hts, hlocks⟩ hK hP rfl rfl (m_X0_weightOf l dC dI h cy σ (r22 / 100) _ hF) k_X0_weightOf q288 ⟨rfl, rfl⟩ ⟨Nat.le_of_ble_eq_true rfl, Nat.le_of_ble_eq_true rfl⟩ hl.1 rfl rfl (Nat.le_of_ble_eq_true rfl) dX0_faultLine_42 ⟨Nat.le_of_ble_eq_true rfl, Nat.le_of_ble_eq_true rfl⟩ (fun r42 hF => ?_)
        refine lv_isub hx hb dX0_faultLine_45 ?_
        refine lv_aload_n hx hb dX0_faultLine_46 rfl (lv_at hl 4 rfl) ?_
        refine lv_aload_n hx hb dX0_faultLine_47 rfl (lv_at hl 4 rfl) ?_
        refine va_get (D := (dC, dI)) (ci := 0) (v := .ref (h 6)) (C := RX0) (T := TX0) (N := 8) hx hb hts in_X0 hown hK.1 hP 0 rfl rfl 5 (by decide) (hts _ q70) (fun _ h9 => h9) rfl dX0_faultLine_48 ?_
        refine lv_iload_n hx hb dX0_faultLine_51 rfl (lv_at hl 1 rfl) ?_
        have hPc := hP.sub (ws' := wR (h 6) (h 7) cy 104 (σ.2.1 3) (σ.1 4)) [6, 7] rfl
        refine cpVi (q0 := 0) (As := [.int v3_6]) (rest := [.ref (h 0), .int (r33 - r42)]) ⟨hx, hb, hr, hml, hown, hts, hlocks⟩ hK hPc rfl rfl (m_X1_at l dC dI (h 6) (h 7) cy 104 (σ.2.1 3) (σ.1 4) v3_6 _ hF) k_X1_at q180 ⟨rfl, rfl⟩ ⟨Nat.le_of_ble_eq_true rfl, Nat.le_of_ble_eq_true rfl⟩ hl.1 rfl rfl (Nat.le_of_ble_eq_true rfl) dX0_faultLine_52 ⟨Nat.le_of_ble_eq_true rfl, Nat.le_of_ble_eq_true rfl⟩ (fun r52 hF => ?_)
        refine cpVi (q0 := 0) (As := [.int r52]) (rest := [.int (r33 - r42)]) ⟨hx, hb, hr, hml, hown, hts, hlocks⟩ hK hP rfl rfl (m_X0_weightOf l dC dI h cy σ r52 _ hF) k_X0_weightOf q288 ⟨rfl, rfl⟩ ⟨Nat.le_of_ble_eq_true rfl, Nat.le_of_ble_eq_true rfl⟩ hl.1 rfl rfl (Nat.le_of_ble_eq_true rfl) dX0_faultLine_55 ⟨Nat.le_of_ble_eq_true rfl, Nat.le_of_ble_eq_true rfl⟩ (fun r55 hF => ?_)
        refine lv_isub hx hb dX0_faultLine_58 ?_
        refine lv_istore (lv' := [(5, .int ((r33 - r42) - r55)), (4, .int r22), (3, .int v3_6), (2, .int v2_6), (1, .int v1_6), (0, .ref (h 0))]) hx hb dX0_faultLine_59 hl (by decide) rfl (fun ls hl => ?_)
        refine lv_iload hx hb dX0_faultLine_61 (lv_at hl 0 rfl) ?_
        refine lv_iload_n hx hb dX0_faultLine_63 rfl (lv_at hl 4 rfl) ?_
        have hJ72 : ∀ (v2_72 : Int32), ∀ (v1_72 : Int32), wp_X0_faultLine_J72 rec6 v3_6 v2_72 v1_72 → ∀ (ls : Array Slot), lv_has ls 6 [(3, .int v3_6), (2, .int v2_72), (1, .int v1_72), (0, .ref (h 0))] → W p l e ({ frames := 2, cells := 0, slots := 0, locals := 43 } : Room) s m ([.ref (h 0)] : List Value).toArray below meth c s.heap [] 0 0 (MQ below (vp_Si P) ([.ref (h 0)] : List Value).toArray s 0 0 (fun _ => False)) (F0 m 72 ls []) := by
          intro v2_72 v1_72 hF ls hl
          unfold wp_X0_faultLine_J72 at hF
          refine lv_iinc (v := v3_6 + 1) (lv' := [(3, .int (v3_6 + 1)), (2, .int v2_72), (1, .int v1_72), (0, .ref (h 0))]) hx hb dX0_faultLine_72 hl (k := 0) rfl (by rfl) (by decide) rfl (fun ls hl => ?_)
          refine lv_goto (tgt := 6) hx hb dX0_faultLine_75 (by decide) ?_
          exact ih (v3_6 + 1) v2_72 v1_72 hF _ (lv_sub hl [0, 1, 2, 3] rfl)
        refine lv_icmp_le (tgt := 72) hx hb dX0_faultLine_64 (by decide) (fun cz => ?_) (fun cz => ?_)
        · have hF := hF.1 cz
          exact hJ72 v2_6 v1_6 hF _ (lv_sub hl [2, 3, 4, 5] rfl)
        · have hF := hF.2 cz
          refine lv_iload hx hb dX0_faultLine_67 (lv_at hl 0 rfl) ?_
          refine lv_istore_n (lv' := [(1, .int ((r33 - r42) - r55)), (5, .int ((r33 - r42) - r55)), (4, .int r22), (3, .int v3_6), (2, .int v2_6), (0, .ref (h 0))]) hx hb dX0_faultLine_69 rfl hl (by decide) rfl (fun ls hl => ?_)
          refine lv_iload_n hx hb dX0_faultLine_70 rfl (lv_at hl 3 rfl) ?_
          refine lv_istore_n (lv' := [(2, .int v3_6), (1, .int ((r33 - r42) - r55)), (5, .int ((r33 - r42) - r55)), (4, .int r22), (3, .int v3_6), (0, .ref (h 0))]) hx hb dX0_faultLine_71 rfl hl (by decide) rfl (fun ls hl => ?_)
          exact hJ72 v3_6 ((r33 - r42) - r55) hF _ (lv_sub hl [4, 0, 1, 5] rfl)
  exact hL6 _ hX6 fu 0 (-1) 0 hF _ (lv_sub hl [0, 1, 2, 3] rfl)
theorem dX0_hasPegs_0 : decode cX0_hasPegs 0 = .ok (.iload_n 1, 1) := by decide +kernel
theorem dX0_hasPegs_1 : decode cX0_hasPegs 1 = .ok (.ifCond .lt 20, 3) := by decide +kernel
theorem dX0_hasPegs_4 : decode cX0_hasPegs 4 = .ok (.iload_n 1, 1) := by decide +kernel
theorem dX0_hasPegs_5 : decode cX0_hasPegs 5 = .ok (.iconst 1, 1) := by decide +kernel
theorem dX0_hasPegs_6 : decode cX0_hasPegs 6 = .ok (.aload_n 0, 1) := by decide +kernel
theorem dX0_hasPegs_7 : decode cX0_hasPegs 7 = .ok (.getfield 24, 3) := by decide +kernel
theorem dX0_hasPegs_10 : decode cX0_hasPegs 10 = .ok (.invokevirtual 60, 3) := by decide +kernel
theorem dX0_hasPegs_13 : decode cX0_hasPegs 13 = .ok (.ishl, 1) := by decide +kernel
theorem dX0_hasPegs_14 : decode cX0_hasPegs 14 = .ok (.if_icmp .ge 7, 3) := by decide +kernel
theorem dX0_hasPegs_17 : decode cX0_hasPegs 17 = .ok (.iconst 1, 1) := by decide +kernel
theorem dX0_hasPegs_18 : decode cX0_hasPegs 18 = .ok (.goto 4, 3) := by decide +kernel
theorem dX0_hasPegs_21 : decode cX0_hasPegs 21 = .ok (.iconst 0, 1) := by decide +kernel
theorem dX0_hasPegs_22 : decode cX0_hasPegs 22 = .ok (.ireturn, 1) := by decide +kernel
def wp_X0_hasPegs (σ : SX) (x1 : Int32) (P : Int32 → Prop) : Prop := ((x1 < 0 → (P 0)) ∧ (¬ x1 < 0 → (wp_X1_size 13 (σ.2.1 1) (σ.1 2)  (fun r10 => ((((1 : Int32) <<< (r10 &&& 31)) ≤ x1 → (P 0)) ∧ (¬ ((1 : Int32) <<< (r10 &&& 31)) ≤ x1 → (P 1)))))))
theorem k_X0_hasPegs : KV RX0 yX0_hasPegs cX0_hasPegs 2 (some .boolean) 1 := ⟨q369, q370, q2, q371, by decide +kernel⟩
set_option maxHeartbeats 4000000 in
set_option maxRecDepth 100000 in
theorem m_X0_hasPegs (l : Launch) (dC : Nat → ClassId) (dI : Nat → Nat → Nat) (h : Nat → Nat) (cy : Nat → ClassId) (σ : SX) (x1 : Int32) (P : Int32 → Prop) (hF : wp_X0_hasPegs σ x1 P) : Met l yX0_hasPegs (ws_ yX0_hasPegs cX0_hasPegs 2 (some .boolean)) ({ frames := 1, cells := 0, slots := 0, locals := 20 } : Room) (va_Pc [.ref (h 0), .int x1] (fun U => va_P (dC, dI) classes (wB h cy σ) U.heap ∧ kwX dC dI cy U)) (vp_Si P) 0 0 (fun _ => False) := by
  refine Met.ofCx (own := RX0) (by decide) rfl (Nat.le_of_ble_eq_true rfl) ?_
  intro p e s m below meth c hC hv ls hl
  obtain ⟨hx, hb, hr, hml, hown, hts, hlocks⟩ := hC
  have hl : lv_has ls 2 [(0, .ref (h 0)), (1, .int x1)] := hl
  obtain ⟨hP, hK⟩ := hv
  unfold wp_X0_hasPegs at hF
  refine lv_iload_n hx hb dX0_hasPegs_0 rfl (lv_at hl 1 rfl) ?_
  refine lv_if_lt (tgt := 21) hx hb dX0_hasPegs_1 (by decide) (fun cz => ?_) (fun cz => ?_)
  · have hF := hF.1 cz
    refine lv_iconst (v := 0) hx hb dX0_hasPegs_21 (by decide) ?_
    exact W.zret (v := 0) hx hb hr rfl (fun t ht hW => ⟨0, rfl, hF, ht⟩) (fun q hq => absurd hq List.not_mem_nil) dX0_hasPegs_22
  · have hF := hF.2 cz
    refine lv_iload_n hx hb dX0_hasPegs_4 rfl (lv_at hl 1 rfl) ?_
    refine lv_iconst (v := 1) hx hb dX0_hasPegs_5 (by decide) ?_
    refine lv_aload_n hx hb dX0_hasPegs_6 rfl (lv_at hl 0 rfl) ?_
    refine va_get (D := (dC, dI)) (ci := 0) (v := .ref (h 2)) (C := RX0) (T := TX0) (N := 8) hx hb hts in_X0 hown hK.1 hP 0 rfl rfl 3 (by decide) (hts _ q68) (fun _ h9 => h9) rfl dX0_hasPegs_7 ?_
    have hPc := hP.sub (ws' := wR (h 2) (h 3) cy 13 (σ.2.1 1) (σ.1 2)) [2, 3] rfl
    refine cpVi (q0 := 0) (As := []) (rest := [.int 1, .int x1]) ⟨hx, hb, hr, hml, hown, hts, hlocks⟩ hK hPc rfl rfl (m_X1_size l dC dI (h 2) (h 3) cy 13 (σ.2.1 1) (σ.1 2)  _ hF) k_X1_size q168 ⟨rfl, rfl⟩ ⟨Nat.le_of_ble_eq_true rfl, Nat.le_of_ble_eq_true rfl⟩ hl.1 rfl rfl (Nat.le_of_ble_eq_true rfl) dX0_hasPegs_10 ⟨Nat.le_of_ble_eq_true rfl, Nat.le_of_ble_eq_true rfl⟩ (fun r10 hF => ?_)
    refine lv_ishl hx hb dX0_hasPegs_13 ?_
    refine lv_icmp_ge (tgt := 21) hx hb dX0_hasPegs_14 (by decide) (fun cz => ?_) (fun cz => ?_)
    · have hF := hF.1 cz
      refine lv_iconst (v := 0) hx hb dX0_hasPegs_21 (by decide) ?_
      exact W.zret (v := 0) hx hb hr rfl (fun t ht hW => ⟨0, rfl, hF, ht⟩) (fun q hq => absurd hq List.not_mem_nil) dX0_hasPegs_22
    · have hF := hF.2 cz
      refine lv_iconst (v := 1) hx hb dX0_hasPegs_17 (by decide) ?_
      refine lv_goto (tgt := 22) hx hb dX0_hasPegs_18 (by decide) ?_
      exact W.zret (v := 1) hx hb hr rfl (fun t ht hW => ⟨1, rfl, hF, ht⟩) (fun q hq => absurd hq List.not_mem_nil) dX0_hasPegs_22
theorem dX0_holes_0 : decode cX0_holes 0 = .ok (.aload_n 0, 1) := by decide +kernel
theorem dX0_holes_1 : decode cX0_holes 1 = .ok (.getfield 24, 3) := by decide +kernel
theorem dX0_holes_4 : decode cX0_holes 4 = .ok (.invokevirtual 60, 3) := by decide +kernel
theorem dX0_holes_7 : decode cX0_holes 7 = .ok (.ireturn, 1) := by decide +kernel
def wp_X0_holes (σ : SX) (P : Int32 → Prop) : Prop := (wp_X1_size 13 (σ.2.1 1) (σ.1 2)  (fun r4 => (P r4)))
theorem k_X0_holes : KV RX0 yX0_holes cX0_holes 1 (some .int) 0 := ⟨q351, q352, q2, q353, by decide +kernel⟩
set_option maxHeartbeats 4000000 in
set_option maxRecDepth 100000 in
theorem m_X0_holes (l : Launch) (dC : Nat → ClassId) (dI : Nat → Nat → Nat) (h : Nat → Nat) (cy : Nat → ClassId) (σ : SX) (P : Int32 → Prop) (hF : wp_X0_holes σ P) : Met l yX0_holes (ws_ yX0_holes cX0_holes 1 (some .int)) ({ frames := 1, cells := 0, slots := 0, locals := 20 } : Room) (va_Pc [.ref (h 0)] (fun U => va_P (dC, dI) classes (wB h cy σ) U.heap ∧ kwX dC dI cy U)) (vp_Si P) 0 0 (fun _ => False) := by
  refine Met.ofCx (own := RX0) (by decide) rfl (Nat.le_of_ble_eq_true rfl) ?_
  intro p e s m below meth c hC hv ls hl
  obtain ⟨hx, hb, hr, hml, hown, hts, hlocks⟩ := hC
  have hl : lv_has ls 1 [(0, .ref (h 0))] := hl
  obtain ⟨hP, hK⟩ := hv
  unfold wp_X0_holes at hF
  refine lv_aload_n hx hb dX0_holes_0 rfl (lv_at hl 0 rfl) ?_
  refine va_get (D := (dC, dI)) (ci := 0) (v := .ref (h 2)) (C := RX0) (T := TX0) (N := 8) hx hb hts in_X0 hown hK.1 hP 0 rfl rfl 3 (by decide) (hts _ q68) (fun _ h9 => h9) rfl dX0_holes_1 ?_
  have hPc := hP.sub (ws' := wR (h 2) (h 3) cy 13 (σ.2.1 1) (σ.1 2)) [2, 3] rfl
  refine cpVi (q0 := 0) (As := []) (rest := []) ⟨hx, hb, hr, hml, hown, hts, hlocks⟩ hK hPc rfl rfl (m_X1_size l dC dI (h 2) (h 3) cy 13 (σ.2.1 1) (σ.1 2)  _ hF) k_X1_size q168 ⟨rfl, rfl⟩ ⟨Nat.le_of_ble_eq_true rfl, Nat.le_of_ble_eq_true rfl⟩ hl.1 rfl rfl (Nat.le_of_ble_eq_true rfl) dX0_holes_4 ⟨Nat.le_of_ble_eq_true rfl, Nat.le_of_ble_eq_true rfl⟩ (fun r4 hF => ?_)
  exact W.iret (v := r4) hx hb hr (fun t ht hW => ⟨r4, rfl, hF, ht⟩) (fun q hq => absurd hq List.not_mem_nil) dX0_holes_7
theorem dX0_isFitColouring_0 : decode cX0_isFitColouring 0 = .ok (.iconst 0, 1) := by decide +kernel
theorem dX0_isFitColouring_1 : decode cX0_isFitColouring 1 = .ok (.istore_n 2, 1) := by decide +kernel
theorem dX0_isFitColouring_2 : decode cX0_isFitColouring 2 = .ok (.iload_n 2, 1) := by decide +kernel
theorem dX0_isFitColouring_3 : decode cX0_isFitColouring 3 = .ok (.aload_n 0, 1) := by decide +kernel
theorem dX0_isFitColouring_4 : decode cX0_isFitColouring 4 = .ok (.getfield 28, 3) := by decide +kernel
theorem dX0_isFitColouring_7 : decode cX0_isFitColouring 7 = .ok (.invokevirtual 60, 3) := by decide +kernel
theorem dX0_isFitColouring_10 : decode cX0_isFitColouring 10 = .ok (.if_icmp .ge 80, 3) := by decide +kernel
theorem dX0_isFitColouring_13 : decode cX0_isFitColouring 13 = .ok (.aload_n 0, 1) := by decide +kernel
theorem dX0_isFitColouring_14 : decode cX0_isFitColouring 14 = .ok (.aload_n 0, 1) := by decide +kernel
theorem dX0_isFitColouring_15 : decode cX0_isFitColouring 15 = .ok (.getfield 28, 3) := by decide +kernel
theorem dX0_isFitColouring_18 : decode cX0_isFitColouring 18 = .ok (.iload_n 2, 1) := by decide +kernel
theorem dX0_isFitColouring_19 : decode cX0_isFitColouring 19 = .ok (.invokevirtual 64, 3) := by decide +kernel
theorem dX0_isFitColouring_22 : decode cX0_isFitColouring 22 = .ok (.bipush 100, 2) := by decide +kernel
theorem dX0_isFitColouring_24 : decode cX0_isFitColouring 24 = .ok (.idiv, 1) := by decide +kernel
theorem dX0_isFitColouring_25 : decode cX0_isFitColouring 25 = .ok (.iload_n 1, 1) := by decide +kernel
theorem dX0_isFitColouring_26 : decode cX0_isFitColouring 26 = .ok (.invokevirtual 102, 3) := by decide +kernel
theorem dX0_isFitColouring_29 : decode cX0_isFitColouring 29 = .ok (.istore_n 3, 1) := by decide +kernel
theorem dX0_isFitColouring_30 : decode cX0_isFitColouring 30 = .ok (.aload_n 0, 1) := by decide +kernel
theorem dX0_isFitColouring_31 : decode cX0_isFitColouring 31 = .ok (.aload_n 0, 1) := by decide +kernel
theorem dX0_isFitColouring_32 : decode cX0_isFitColouring 32 = .ok (.getfield 31, 3) := by decide +kernel
theorem dX0_isFitColouring_35 : decode cX0_isFitColouring 35 = .ok (.iload_n 2, 1) := by decide +kernel
theorem dX0_isFitColouring_36 : decode cX0_isFitColouring 36 = .ok (.invokevirtual 64, 3) := by decide +kernel
theorem dX0_isFitColouring_39 : decode cX0_isFitColouring 39 = .ok (.iload_n 1, 1) := by decide +kernel
theorem dX0_isFitColouring_40 : decode cX0_isFitColouring 40 = .ok (.invokevirtual 102, 3) := by decide +kernel
theorem dX0_isFitColouring_43 : decode cX0_isFitColouring 43 = .ok (.istore 4, 2) := by decide +kernel
theorem dX0_isFitColouring_45 : decode cX0_isFitColouring 45 = .ok (.aload_n 0, 1) := by decide +kernel
theorem dX0_isFitColouring_46 : decode cX0_isFitColouring 46 = .ok (.aload_n 0, 1) := by decide +kernel
theorem dX0_isFitColouring_47 : decode cX0_isFitColouring 47 = .ok (.getfield 28, 3) := by decide +kernel
theorem dX0_isFitColouring_50 : decode cX0_isFitColouring 50 = .ok (.iload_n 2, 1) := by decide +kernel
theorem dX0_isFitColouring_51 : decode cX0_isFitColouring 51 = .ok (.invokevirtual 64, 3) := by decide +kernel
theorem dX0_isFitColouring_54 : decode cX0_isFitColouring 54 = .ok (.bipush 100, 2) := by decide +kernel
theorem dX0_isFitColouring_56 : decode cX0_isFitColouring 56 = .ok (.irem, 1) := by decide +kernel
theorem dX0_isFitColouring_57 : decode cX0_isFitColouring 57 = .ok (.iload_n 1, 1) := by decide +kernel
theorem dX0_isFitColouring_58 : decode cX0_isFitColouring 58 = .ok (.invokevirtual 102, 3) := by decide +kernel
theorem dX0_isFitColouring_61 : decode cX0_isFitColouring 61 = .ok (.istore 5, 2) := by decide +kernel
theorem dX0_isFitColouring_63 : decode cX0_isFitColouring 63 = .ok (.iload_n 3, 1) := by decide +kernel
theorem dX0_isFitColouring_64 : decode cX0_isFitColouring 64 = .ok (.iload 4, 2) := by decide +kernel
theorem dX0_isFitColouring_66 : decode cX0_isFitColouring 66 = .ok (.if_icmp .eq 16, 3) := by decide +kernel
theorem dX0_isFitColouring_69 : decode cX0_isFitColouring 69 = .ok (.iload 4, 2) := by decide +kernel
theorem dX0_isFitColouring_71 : decode cX0_isFitColouring 71 = .ok (.iload 5, 2) := by decide +kernel
theorem dX0_isFitColouring_73 : decode cX0_isFitColouring 73 = .ok (.if_icmp .eq 9, 3) := by decide +kernel
theorem dX0_isFitColouring_76 : decode cX0_isFitColouring 76 = .ok (.iload_n 3, 1) := by decide +kernel
theorem dX0_isFitColouring_77 : decode cX0_isFitColouring 77 = .ok (.iload 5, 2) := by decide +kernel
theorem dX0_isFitColouring_79 : decode cX0_isFitColouring 79 = .ok (.if_icmp .ne 5, 3) := by decide +kernel
theorem dX0_isFitColouring_82 : decode cX0_isFitColouring 82 = .ok (.iconst 0, 1) := by decide +kernel
theorem dX0_isFitColouring_83 : decode cX0_isFitColouring 83 = .ok (.ireturn, 1) := by decide +kernel
theorem dX0_isFitColouring_84 : decode cX0_isFitColouring 84 = .ok (.iinc 2 1, 3) := by decide +kernel
theorem dX0_isFitColouring_87 : decode cX0_isFitColouring 87 = .ok (.goto (-85), 3) := by decide +kernel
theorem dX0_isFitColouring_90 : decode cX0_isFitColouring 90 = .ok (.iconst 1, 1) := by decide +kernel
theorem dX0_isFitColouring_91 : decode cX0_isFitColouring 91 = .ok (.ireturn, 1) := by decide +kernel
def wp_X0_isFitColouring_B2 (σ : SX) (x1 : Int32) (P : Int32 → Prop) (K2 : Prop) (rec2 : Int32 → Prop) (v2_2 : Int32) : Prop := (wp_X1_size 104 (σ.2.1 2) (σ.1 3)  (fun r7 => ((r7 ≤ v2_2 → (P 1)) ∧ (¬ r7 ≤ v2_2 → (wp_X1_at 104 (σ.2.1 2) (σ.1 3) v2_2 (fun r19 => (wp_X0_colourOf σ (r19 / 100) x1 (fun r26 => (wp_X1_at 104 (σ.2.1 3) (σ.1 4) v2_2 (fun r36 => (wp_X0_colourOf σ r36 x1 (fun r40 => (wp_X1_at 104 (σ.2.1 2) (σ.1 3) v2_2 (fun r51 => (wp_X0_colourOf σ (r51 - r51 / 100 * 100) x1 (fun r58 => ((r26 = r40 → K2) ∧ (¬ r26 = r40 → ((r40 = r58 → K2) ∧ (¬ r40 = r58 → ((¬ r26 = r58 → (rec2 (v2_2 + 1))) ∧ (r26 = r58 → K2))))))))))))))))))))))
def wp_X0_isFitColouring_L2 (σ : SX) (x1 : Int32) (P : Int32 → Prop) (K2 : Prop) : Nat → Int32 → Prop
  | 0, _ => False
  | nn + 1, v2_2 => wp_X0_isFitColouring_B2 σ x1 P K2 (wp_X0_isFitColouring_L2 σ x1 P K2 nn) v2_2
def wp_X0_isFitColouring (fu : Nat) (σ : SX) (x1 : Int32) (P : Int32 → Prop) : Prop := (wp_X0_isFitColouring_L2 σ x1 P (P 0) fu 0)
theorem k_X0_isFitColouring : KV RX0 yX0_isFitColouring cX0_isFitColouring 6 (some .boolean) 1 := ⟨q301, q302, q2, q303, by decide +kernel⟩
set_option maxHeartbeats 4000000 in
set_option maxRecDepth 100000 in
theorem m_X0_isFitColouring (l : Launch) (dC : Nat → ClassId) (dI : Nat → Nat → Nat) (h : Nat → Nat) (cy : Nat → ClassId) (fu : Nat) (σ : SX) (x1 : Int32) (P : Int32 → Prop) (hF : wp_X0_isFitColouring fu σ x1 P) : Met l yX0_isFitColouring (ws_ yX0_isFitColouring cX0_isFitColouring 6 (some .boolean)) ({ frames := 2, cells := 0, slots := 0, locals := 45 } : Room) (va_Pc [.ref (h 0), .int x1] (fun U => va_P (dC, dI) classes (wB h cy σ) U.heap ∧ kwX dC dI cy U)) (vp_Si P) 0 0 (fun _ => False) := by
  refine Met.ofCx (own := RX0) (by decide) rfl (Nat.le_of_ble_eq_true rfl) ?_
  intro p e s m below meth c hC hv ls hl
  obtain ⟨hx, hb, hr, hml, hown, hts, hlocks⟩ := hC
  have hl : lv_has ls 6 [(0, .ref (h 0)), (1, .int x1)] := hl
  obtain ⟨hP, hK⟩ := hv
  unfold wp_X0_isFitColouring at hF
  refine lv_iconst (v := 0) hx hb dX0_isFitColouring_0 (by decide) ?_
  refine lv_istore_n (lv' := [(2, .int 0), (0, .ref (h 0)), (1, .int x1)]) hx hb dX0_isFitColouring_1 rfl hl (by decide) rfl (fun ls hl => ?_)
  have hX2 : (P 0) → ∀ (ls : Array Slot), lv_has ls 6 [] → W p l e ({ frames := 2, cells := 0, slots := 0, locals := 45 } : Room) s m ([.ref (h 0), .int x1] : List Value).toArray below meth c s.heap [] 0 0 (MQ below (vp_Si P) ([.ref (h 0), .int x1] : List Value).toArray s 0 0 (fun _ => False)) (F0 m 82 ls []) := by
    intro hF ls hl
    refine lv_iconst (v := 0) hx hb dX0_isFitColouring_82 (by decide) ?_
    exact W.zret (v := 0) hx hb hr rfl (fun t ht hW => ⟨0, rfl, hF, ht⟩) (fun q hq => absurd hq List.not_mem_nil) dX0_isFitColouring_83
  have hL2 : ∀ (K2 : Prop), (K2 → ∀ (ls : Array Slot), lv_has ls 6 [] → W p l e ({ frames := 2, cells := 0, slots := 0, locals := 45 } : Room) s m ([.ref (h 0), .int x1] : List Value).toArray below meth c s.heap [] 0 0 (MQ below (vp_Si P) ([.ref (h 0), .int x1] : List Value).toArray s 0 0 (fun _ => False)) (F0 m 82 ls [])) → ∀ (nn : Nat), ∀ (v2_2 : Int32), wp_X0_isFitColouring_L2 σ x1 P K2 nn v2_2 → ∀ (ls : Array Slot), lv_has ls 6 [(2, .int v2_2), (0, .ref (h 0)), (1, .int x1)] → W p l e ({ frames := 2, cells := 0, slots := 0, locals := 45 } : Room) s m ([.ref (h 0), .int x1] : List Value).toArray below meth c s.heap [] 0 0 (MQ below (vp_Si P) ([.ref (h 0), .int x1] : List Value).toArray s 0 0 (fun _ => False)) (F0 m 2 ls []) := by
    intro K2 hX2 nn
    induction nn with
    | zero =>
      intro v2_2 hF
      exact hF.elim
    | succ nn ih =>
      intro v2_2 hF ls hl
      obtain ⟨rec2, hrec⟩ : ∃ z : Int32 → Prop, z = wp_X0_isFitColouring_L2 σ x1 P K2 nn := ⟨_, rfl⟩
      have hF : wp_X0_isFitColouring_B2 σ x1 P K2 rec2 v2_2 := by rw [hrec]; exact hF
      rw [← hrec] at ih
      clear hrec
      unfold wp_X0_isFitColouring_B2 at hF
      refine lv_iload_n hx hb dX0_isFitColouring_2 rfl (lv_at hl 0 rfl) ?_
      refine lv_aload_n hx hb dX0_isFitColouring_3 rfl (lv_at hl 1 rfl) ?_
      refine va_get (D := (dC, dI)) (ci := 0) (v := .ref (h 4)) (C := RX0) (T := TX0) (N := 8) hx hb hts in_X0 hown hK.1 hP 0 rfl rfl 4 (by decide) (hts _ q69) (fun _ h9 => h9) rfl dX0_isFitColouring_4 ?_
      have hPc := hP.sub (ws' := wR (h 4) (h 5) cy 104 (σ.2.1 2) (σ.1 3)) [4, 5] rfl
      refine cpVi (q0 := 0) (As := []) (rest := [.int v2_2]) ⟨hx, hb, hr, hml, hown, hts, hlocks⟩ hK hPc rfl rfl (m_X1_size l dC dI (h 4) (h 5) cy 104 (σ.2.1 2) (σ.1 3)  _ hF) k_X1_size q168 ⟨rfl, rfl⟩ ⟨Nat.le_of_ble_eq_true rfl, Nat.le_of_ble_eq_true rfl⟩ hl.1 rfl rfl (Nat.le_of_ble_eq_true rfl) dX0_isFitColouring_7 ⟨Nat.le_of_ble_eq_true rfl, Nat.le_of_ble_eq_true rfl⟩ (fun r7 hF => ?_)
      refine lv_icmp_ge (tgt := 90) hx hb dX0_isFitColouring_10 (by decide) (fun cz => ?_) (fun cz => ?_)
      · have hF := hF.1 cz
        refine lv_iconst (v := 1) hx hb dX0_isFitColouring_90 (by decide) ?_
        exact W.zret (v := 1) hx hb hr rfl (fun t ht hW => ⟨1, rfl, hF, ht⟩) (fun q hq => absurd hq List.not_mem_nil) dX0_isFitColouring_91
      · have hF := hF.2 cz
        refine lv_aload_n hx hb dX0_isFitColouring_13 rfl (lv_at hl 1 rfl) ?_
        refine lv_aload_n hx hb dX0_isFitColouring_14 rfl (lv_at hl 1 rfl) ?_
        refine va_get (D := (dC, dI)) (ci := 0) (v := .ref (h 4)) (C := RX0) (T := TX0) (N := 8) hx hb hts in_X0 hown hK.1 hP 0 rfl rfl 4 (by decide) (hts _ q69) (fun _ h9 => h9) rfl dX0_isFitColouring_15 ?_
        refine lv_iload_n hx hb dX0_isFitColouring_18 rfl (lv_at hl 0 rfl) ?_
        have hPc := hP.sub (ws' := wR (h 4) (h 5) cy 104 (σ.2.1 2) (σ.1 3)) [4, 5] rfl
        refine cpVi (q0 := 0) (As := [.int v2_2]) (rest := [.ref (h 0)]) ⟨hx, hb, hr, hml, hown, hts, hlocks⟩ hK hPc rfl rfl (m_X1_at l dC dI (h 4) (h 5) cy 104 (σ.2.1 2) (σ.1 3) v2_2 _ hF) k_X1_at q180 ⟨rfl, rfl⟩ ⟨Nat.le_of_ble_eq_true rfl, Nat.le_of_ble_eq_true rfl⟩ hl.1 rfl rfl (Nat.le_of_ble_eq_true rfl) dX0_isFitColouring_19 ⟨Nat.le_of_ble_eq_true rfl, Nat.le_of_ble_eq_true rfl⟩ (fun r19 hF => ?_)
        refine lv_bipush (v := 100) hx hb dX0_isFitColouring_22 (by decide) ?_
        refine lv_idiv hx hb dX0_isFitColouring_24 (by decide) ?_
        refine lv_iload_n hx hb dX0_isFitColouring_25 rfl (lv_at hl 2 rfl) ?_
        refine cpVi (q0 := 0) (As := [.int (r19 / 100), .int x1]) (rest := []) ⟨hx, hb, hr, hml, hown, hts, hlocks⟩ hK hP rfl rfl (m_X0_colourOf l dC dI h cy σ (r19 / 100) x1 _ hF) k_X0_colourOf q304 ⟨rfl, rfl⟩ ⟨Nat.le_of_ble_eq_true rfl, Nat.le_of_ble_eq_true rfl⟩ hl.1 rfl rfl (Nat.le_of_ble_eq_true rfl) dX0_isFitColouring_26 ⟨Nat.le_of_ble_eq_true rfl, Nat.le_of_ble_eq_true rfl⟩ (fun r26 hF => ?_)
        refine lv_istore_n (lv' := [(3, .int r26), (2, .int v2_2), (0, .ref (h 0)), (1, .int x1)]) hx hb dX0_isFitColouring_29 rfl hl (by decide) rfl (fun ls hl => ?_)
        refine lv_aload_n hx hb dX0_isFitColouring_30 rfl (lv_at hl 2 rfl) ?_
        refine lv_aload_n hx hb dX0_isFitColouring_31 rfl (lv_at hl 2 rfl) ?_
        refine va_get (D := (dC, dI)) (ci := 0) (v := .ref (h 6)) (C := RX0) (T := TX0) (N := 8) hx hb hts in_X0 hown hK.1 hP 0 rfl rfl 5 (by decide) (hts _ q70) (fun _ h9 => h9) rfl dX0_isFitColouring_32 ?_
        refine lv_iload_n hx hb dX0_isFitColouring_35 rfl (lv_at hl 1 rfl) ?_
        have hPc := hP.sub (ws' := wR (h 6) (h 7) cy 104 (σ.2.1 3) (σ.1 4)) [6, 7] rfl
        refine cpVi (q0 := 0) (As := [.int v2_2]) (rest := [.ref (h 0)]) ⟨hx, hb, hr, hml, hown, hts, hlocks⟩ hK hPc rfl rfl (m_X1_at l dC dI (h 6) (h 7) cy 104 (σ.2.1 3) (σ.1 4) v2_2 _ hF) k_X1_at q180 ⟨rfl, rfl⟩ ⟨Nat.le_of_ble_eq_true rfl, Nat.le_of_ble_eq_true rfl⟩ hl.1 rfl rfl (Nat.le_of_ble_eq_true rfl) dX0_isFitColouring_36 ⟨Nat.le_of_ble_eq_true rfl, Nat.le_of_ble_eq_true rfl⟩ (fun r36 hF => ?_)
        refine lv_iload_n hx hb dX0_isFitColouring_39 rfl (lv_at hl 3 rfl) ?_
        refine cpVi (q0 := 0) (As := [.int r36, .int x1]) (rest := []) ⟨hx, hb, hr, hml, hown, hts, hlocks⟩ hK hP rfl rfl (m_X0_colourOf l dC dI h cy σ r36 x1 _ hF) k_X0_colourOf q304 ⟨rfl, rfl⟩ ⟨Nat.le_of_ble_eq_true rfl, Nat.le_of_ble_eq_true rfl⟩ hl.1 rfl rfl (Nat.le_of_ble_eq_true rfl) dX0_isFitColouring_40 ⟨Nat.le_of_ble_eq_true rfl, Nat.le_of_ble_eq_true rfl⟩ (fun r40 hF => ?_)
        refine lv_istore (lv' := [(4, .int r40), (3, .int r26), (2, .int v2_2), (0, .ref (h 0)), (1, .int x1)]) hx hb dX0_isFitColouring_43 hl (by decide) rfl (fun ls hl => ?_)
        refine lv_aload_n hx hb dX0_isFitColouring_45 rfl (lv_at hl 3 rfl) ?_
        refine lv_aload_n hx hb dX0_isFitColouring_46 rfl (lv_at hl 3 rfl) ?_
        refine va_get (D := (dC, dI)) (ci := 0) (v := .ref (h 4)) (C := RX0) (T := TX0) (N := 8) hx hb hts in_X0 hown hK.1 hP 0 rfl rfl 4 (by decide) (hts _ q69) (fun _ h9 => h9) rfl dX0_isFitColouring_47 ?_
        refine lv_iload_n hx hb dX0_isFitColouring_50 rfl (lv_at hl 2 rfl) ?_
        have hPc := hP.sub (ws' := wR (h 4) (h 5) cy 104 (σ.2.1 2) (σ.1 3)) [4, 5] rfl
        refine cpVi (q0 := 0) (As := [.int v2_2]) (rest := [.ref (h 0)]) ⟨hx, hb, hr, hml, hown, hts, hlocks⟩ hK hPc rfl rfl (m_X1_at l dC dI (h 4) (h 5) cy 104 (σ.2.1 2) (σ.1 3) v2_2 _ hF) k_X1_at q180 ⟨rfl, rfl⟩ ⟨Nat.le_of_ble_eq_true rfl, Nat.le_of_ble_eq_true rfl⟩ hl.1 rfl rfl (Nat.le_of_ble_eq_true rfl) dX0_isFitColouring_51 ⟨Nat.le_of_ble_eq_true rfl, Nat.le_of_ble_eq_true rfl⟩ (fun r51 hF => ?_)
        refine lv_bipush (v := 100) hx hb dX0_isFitColouring_54 (by decide) ?_
        refine lv_irem hx hb dX0_isFitColouring_56 (by decide) ?_
        refine lv_iload_n hx hb dX0_isFitColouring_57 rfl (lv_at hl 4 rfl) ?_
        refine cpVi (q0 := 0) (As := [.int (r51 - r51 / 100 * 100), .int x1]) (rest := []) ⟨hx, hb, hr, hml, hown, hts, hlocks⟩ hK hP rfl rfl (m_X0_colourOf l dC dI h cy σ (r51 - r51 / 100 * 100) x1 _ hF) k_X0_colourOf q304 ⟨rfl, rfl⟩ ⟨Nat.le_of_ble_eq_true rfl, Nat.le_of_ble_eq_true rfl⟩ hl.1 rfl rfl (Nat.le_of_ble_eq_true rfl) dX0_isFitColouring_58 ⟨Nat.le_of_ble_eq_true rfl, Nat.le_of_ble_eq_true rfl⟩ (fun r58 hF => ?_)
        refine lv_istore (lv' := [(5, .int r58), (4, .int r40), (3, .int r26), (2, .int v2_2), (0, .ref (h 0)), (1, .int x1)]) hx hb dX0_isFitColouring_61 hl (by decide) rfl (fun ls hl => ?_)
        refine lv_iload_n hx hb dX0_isFitColouring_63 rfl (lv_at hl 2 rfl) ?_
        refine lv_iload hx hb dX0_isFitColouring_64 (lv_at hl 1 rfl) ?_
        refine lv_icmp_eq (tgt := 82) hx hb dX0_isFitColouring_66 (by decide) (fun cz => ?_) (fun cz => ?_)
        · have hF := hF.1 cz
          exact hX2 hF _ (lv_sub hl [] rfl)
        · have hF := hF.2 cz
          refine lv_iload hx hb dX0_isFitColouring_69 (lv_at hl 1 rfl) ?_
          refine lv_iload hx hb dX0_isFitColouring_71 (lv_at hl 0 rfl) ?_
          refine lv_icmp_eq (tgt := 82) hx hb dX0_isFitColouring_73 (by decide) (fun cz => ?_) (fun cz => ?_)
          · have hF := hF.1 cz
            exact hX2 hF _ (lv_sub hl [] rfl)
          · have hF := hF.2 cz
            refine lv_iload_n hx hb dX0_isFitColouring_76 rfl (lv_at hl 2 rfl) ?_
            refine lv_iload hx hb dX0_isFitColouring_77 (lv_at hl 0 rfl) ?_
            refine lv_icmp_ne (tgt := 84) hx hb dX0_isFitColouring_79 (by decide) (fun cz => ?_) (fun cz => ?_)
            · have hF := hF.1 cz
              refine lv_iinc (v := v2_2 + 1) (lv' := [(2, .int (v2_2 + 1)), (5, .int r58), (4, .int r40), (3, .int r26), (0, .ref (h 0)), (1, .int x1)]) hx hb dX0_isFitColouring_84 hl (k := 3) rfl (by rfl) (by decide) rfl (fun ls hl => ?_)
              refine lv_goto (tgt := 2) hx hb dX0_isFitColouring_87 (by decide) ?_
              exact ih (v2_2 + 1) hF _ (lv_sub hl [0, 4, 5] rfl)
            · have hF := hF.2 cz
              exact hX2 hF _ (lv_sub hl [] rfl)
  exact hL2 _ hX2 fu 0 hF _ (lv_sub hl [0, 1, 2] rfl)
theorem dX0_turned_0 : decode cX0_turned 0 = .ok (.iload_n 1, 1) := by decide +kernel
theorem dX0_turned_1 : decode cX0_turned 1 = .ok (.iconst 1, 1) := by decide +kernel
theorem dX0_turned_2 : decode cX0_turned 2 = .ok (.iand, 1) := by decide +kernel
theorem dX0_turned_3 : decode cX0_turned 3 = .ok (.ifCond .ne 9, 3) := by decide +kernel
theorem dX0_turned_6 : decode cX0_turned 6 = .ok (.iload_n 0, 1) := by decide +kernel
theorem dX0_turned_7 : decode cX0_turned 7 = .ok (.iconst 5, 1) := by decide +kernel
theorem dX0_turned_8 : decode cX0_turned 8 = .ok (.idiv, 1) := by decide +kernel
theorem dX0_turned_9 : decode cX0_turned 9 = .ok (.goto 8, 3) := by decide +kernel
theorem dX0_turned_12 : decode cX0_turned 12 = .ok (.iconst 4, 1) := by decide +kernel
theorem dX0_turned_13 : decode cX0_turned 13 = .ok (.iload_n 0, 1) := by decide +kernel
theorem dX0_turned_14 : decode cX0_turned 14 = .ok (.iconst 5, 1) := by decide +kernel
theorem dX0_turned_15 : decode cX0_turned 15 = .ok (.idiv, 1) := by decide +kernel
theorem dX0_turned_16 : decode cX0_turned 16 = .ok (.isub, 1) := by decide +kernel
theorem dX0_turned_17 : decode cX0_turned 17 = .ok (.istore_n 2, 1) := by decide +kernel
theorem dX0_turned_18 : decode cX0_turned 18 = .ok (.iload_n 1, 1) := by decide +kernel
theorem dX0_turned_19 : decode cX0_turned 19 = .ok (.iconst 2, 1) := by decide +kernel
theorem dX0_turned_20 : decode cX0_turned 20 = .ok (.iand, 1) := by decide +kernel
theorem dX0_turned_21 : decode cX0_turned 21 = .ok (.ifCond .ne 9, 3) := by decide +kernel
theorem dX0_turned_24 : decode cX0_turned 24 = .ok (.iload_n 0, 1) := by decide +kernel
theorem dX0_turned_25 : decode cX0_turned 25 = .ok (.iconst 5, 1) := by decide +kernel
theorem dX0_turned_26 : decode cX0_turned 26 = .ok (.irem, 1) := by decide +kernel
theorem dX0_turned_27 : decode cX0_turned 27 = .ok (.goto 8, 3) := by decide +kernel
theorem dX0_turned_30 : decode cX0_turned 30 = .ok (.iconst 4, 1) := by decide +kernel
theorem dX0_turned_31 : decode cX0_turned 31 = .ok (.iload_n 0, 1) := by decide +kernel
theorem dX0_turned_32 : decode cX0_turned 32 = .ok (.iconst 5, 1) := by decide +kernel
theorem dX0_turned_33 : decode cX0_turned 33 = .ok (.irem, 1) := by decide +kernel
theorem dX0_turned_34 : decode cX0_turned 34 = .ok (.isub, 1) := by decide +kernel
theorem dX0_turned_35 : decode cX0_turned 35 = .ok (.istore_n 3, 1) := by decide +kernel
theorem dX0_turned_36 : decode cX0_turned 36 = .ok (.iload_n 1, 1) := by decide +kernel
theorem dX0_turned_37 : decode cX0_turned 37 = .ok (.iconst 4, 1) := by decide +kernel
theorem dX0_turned_38 : decode cX0_turned 38 = .ok (.iand, 1) := by decide +kernel
theorem dX0_turned_39 : decode cX0_turned 39 = .ok (.ifCond .ne 11, 3) := by decide +kernel
theorem dX0_turned_42 : decode cX0_turned 42 = .ok (.iload_n 2, 1) := by decide +kernel
theorem dX0_turned_43 : decode cX0_turned 43 = .ok (.iconst 5, 1) := by decide +kernel
theorem dX0_turned_44 : decode cX0_turned 44 = .ok (.imul, 1) := by decide +kernel
theorem dX0_turned_45 : decode cX0_turned 45 = .ok (.iload_n 3, 1) := by decide +kernel
theorem dX0_turned_46 : decode cX0_turned 46 = .ok (.iadd, 1) := by decide +kernel
theorem dX0_turned_47 : decode cX0_turned 47 = .ok (.goto 8, 3) := by decide +kernel
theorem dX0_turned_50 : decode cX0_turned 50 = .ok (.iload_n 3, 1) := by decide +kernel
theorem dX0_turned_51 : decode cX0_turned 51 = .ok (.iconst 5, 1) := by decide +kernel
theorem dX0_turned_52 : decode cX0_turned 52 = .ok (.imul, 1) := by decide +kernel
theorem dX0_turned_53 : decode cX0_turned 53 = .ok (.iload_n 2, 1) := by decide +kernel
theorem dX0_turned_54 : decode cX0_turned 54 = .ok (.iadd, 1) := by decide +kernel
theorem dX0_turned_55 : decode cX0_turned 55 = .ok (.ireturn, 1) := by decide +kernel
def wp_X0_turned_J35 (x1 : Int32) (P : Int32 → Prop) (t0_17 : Int32) (t0_35 : Int32) : Prop := ((¬ (x1 &&& 4) = 0 → (P ((t0_35 * 5) + t0_17))) ∧ ((x1 &&& 4) = 0 → (P ((t0_17 * 5) + t0_35))))
def wp_X0_turned_J17 (x0 : Int32) (x1 : Int32) (P : Int32 → Prop) (t0_17 : Int32) : Prop := ((¬ (x1 &&& 2) = 0 → (wp_X0_turned_J35 x1 P t0_17 (4 - (x0 - x0 / 5 * 5)))) ∧ ((x1 &&& 2) = 0 → (wp_X0_turned_J35 x1 P t0_17 (x0 - x0 / 5 * 5))))
def wp_X0_turned (x0 : Int32) (x1 : Int32) (P : Int32 → Prop) : Prop := ((¬ (x1 &&& 1) = 0 → (wp_X0_turned_J17 x0 x1 P (4 - (x0 / 5)))) ∧ ((x1 &&& 1) = 0 → (wp_X0_turned_J17 x0 x1 P (x0 / 5))))
theorem k_X0_turned : KS yX0_turned cX0_turned 4 (some .int) 2 := ⟨q185, q2, q186, by decide +kernel⟩
set_option maxHeartbeats 4000000 in
set_option maxRecDepth 100000 in
theorem m_X0_turned (l : Launch) (x0 : Int32) (x1 : Int32) (P : Int32 → Prop) (hF : wp_X0_turned x0 x1 P) : Met l yX0_turned (ws_ yX0_turned cX0_turned 4 (some .int)) ({ frames := 0, cells := 0, slots := 0, locals := 0 } : Room) (va_Pc [.int x0, .int x1] (fun _ => True)) (vp_Si P) 0 0 (fun _ => False) := by
  refine Met.ofCx (own := RX0) (by decide) rfl (Nat.le_of_ble_eq_true rfl) ?_
  intro p e s m below meth c hC hv ls hl
  obtain ⟨hx, hb, hr, hml, hown, hts, hlocks⟩ := hC
  have hl : lv_has ls 4 [(0, .int x0), (1, .int x1)] := hl
  unfold wp_X0_turned at hF
  refine lv_iload_n hx hb dX0_turned_0 rfl (lv_at hl 1 rfl) ?_
  refine lv_iconst (v := 1) hx hb dX0_turned_1 (by decide) ?_
  refine lv_iand hx hb dX0_turned_2 ?_
  have hJ17 : ∀ (t0_17 : Int32), wp_X0_turned_J17 x0 x1 P t0_17 → ∀ (ls : Array Slot), lv_has ls 4 [(0, .int x0), (1, .int x1)] → W p l e ({ frames := 0, cells := 0, slots := 0, locals := 0 } : Room) s m ([.int x0, .int x1] : List Value).toArray below meth c s.heap [] 0 0 (MQ below (vp_Si P) ([.int x0, .int x1] : List Value).toArray s 0 0 (fun _ => False)) (F0 m 17 ls [.int t0_17]) := by
    intro t0_17 hF ls hl
    unfold wp_X0_turned_J17 at hF
    refine lv_istore_n (lv' := [(2, .int t0_17), (0, .int x0), (1, .int x1)]) hx hb dX0_turned_17 rfl hl (by decide) rfl (fun ls hl => ?_)
    refine lv_iload_n hx hb dX0_turned_18 rfl (lv_at hl 2 rfl) ?_
    refine lv_iconst (v := 2) hx hb dX0_turned_19 (by decide) ?_
    refine lv_iand hx hb dX0_turned_20 ?_
    have hJ35 : ∀ (t0_35 : Int32), wp_X0_turned_J35 x1 P t0_17 t0_35 → ∀ (ls : Array Slot), lv_has ls 4 [(2, .int t0_17), (1, .int x1)] → W p l e ({ frames := 0, cells := 0, slots := 0, locals := 0 } : Room) s m ([.int x0, .int x1] : List Value).toArray below meth c s.heap [] 0 0 (MQ below (vp_Si P) ([.int x0, .int x1] : List Value).toArray s 0 0 (fun _ => False)) (F0 m 35 ls [.int t0_35]) := by
      intro t0_35 hF ls hl
      unfold wp_X0_turned_J35 at hF
      refine lv_istore_n (lv' := [(3, .int t0_35), (2, .int t0_17), (1, .int x1)]) hx hb dX0_turned_35 rfl hl (by decide) rfl (fun ls hl => ?_)
      refine lv_iload_n hx hb dX0_turned_36 rfl (lv_at hl 2 rfl) ?_
      refine lv_iconst (v := 4) hx hb dX0_turned_37 (by decide) ?_
      refine lv_iand hx hb dX0_turned_38 ?_
      refine lv_if_ne (tgt := 50) hx hb dX0_turned_39 (by decide) (fun cz => ?_) (fun cz => ?_)
      · have hF := hF.1 cz
        refine lv_iload_n hx hb dX0_turned_50 rfl (lv_at hl 0 rfl) ?_
        refine lv_iconst (v := 5) hx hb dX0_turned_51 (by decide) ?_
        refine lv_imul hx hb dX0_turned_52 ?_
        refine lv_iload_n hx hb dX0_turned_53 rfl (lv_at hl 1 rfl) ?_
        refine lv_iadd hx hb dX0_turned_54 ?_
        exact W.iret (v := (t0_35 * 5) + t0_17) hx hb hr (fun t ht hW => ⟨(t0_35 * 5) + t0_17, rfl, hF, ht⟩) (fun q hq => absurd hq List.not_mem_nil) dX0_turned_55
      · have hF := hF.2 cz
        refine lv_iload_n hx hb dX0_turned_42 rfl (lv_at hl 1 rfl) ?_
        refine lv_iconst (v := 5) hx hb dX0_turned_43 (by decide) ?_
        refine lv_imul hx hb dX0_turned_44 ?_
        refine lv_iload_n hx hb dX0_turned_45 rfl (lv_at hl 0 rfl) ?_
        refine lv_iadd hx hb dX0_turned_46 ?_
        refine lv_goto (tgt := 55) hx hb dX0_turned_47 (by decide) ?_
        exact W.iret (v := (t0_17 * 5) + t0_35) hx hb hr (fun t ht hW => ⟨(t0_17 * 5) + t0_35, rfl, hF, ht⟩) (fun q hq => absurd hq List.not_mem_nil) dX0_turned_55
    refine lv_if_ne (tgt := 30) hx hb dX0_turned_21 (by decide) (fun cz => ?_) (fun cz => ?_)
    · have hF := hF.1 cz
      refine lv_iconst (v := 4) hx hb dX0_turned_30 (by decide) ?_
      refine lv_iload_n hx hb dX0_turned_31 rfl (lv_at hl 1 rfl) ?_
      refine lv_iconst (v := 5) hx hb dX0_turned_32 (by decide) ?_
      refine lv_irem hx hb dX0_turned_33 (by decide) ?_
      refine lv_isub hx hb dX0_turned_34 ?_
      exact hJ35 (4 - (x0 - x0 / 5 * 5)) hF _ (lv_sub hl [0, 2] rfl)
    · have hF := hF.2 cz
      refine lv_iload_n hx hb dX0_turned_24 rfl (lv_at hl 1 rfl) ?_
      refine lv_iconst (v := 5) hx hb dX0_turned_25 (by decide) ?_
      refine lv_irem hx hb dX0_turned_26 (by decide) ?_
      refine lv_goto (tgt := 35) hx hb dX0_turned_27 (by decide) ?_
      exact hJ35 (x0 - x0 / 5 * 5) hF _ (lv_sub hl [0, 2] rfl)
  refine lv_if_ne (tgt := 12) hx hb dX0_turned_3 (by decide) (fun cz => ?_) (fun cz => ?_)
  · have hF := hF.1 cz
    refine lv_iconst (v := 4) hx hb dX0_turned_12 (by decide) ?_
    refine lv_iload_n hx hb dX0_turned_13 rfl (lv_at hl 0 rfl) ?_
    refine lv_iconst (v := 5) hx hb dX0_turned_14 (by decide) ?_
    refine lv_idiv hx hb dX0_turned_15 (by decide) ?_
    refine lv_isub hx hb dX0_turned_16 ?_
    exact hJ17 (4 - (x0 / 5)) hF _ (lv_sub hl [0, 1] rfl)
  · have hF := hF.2 cz
    refine lv_iload_n hx hb dX0_turned_6 rfl (lv_at hl 0 rfl) ?_
    refine lv_iconst (v := 5) hx hb dX0_turned_7 (by decide) ?_
    refine lv_idiv hx hb dX0_turned_8 (by decide) ?_
    refine lv_goto (tgt := 17) hx hb dX0_turned_9 (by decide) ?_
    exact hJ17 (x0 / 5) hF _ (lv_sub hl [0, 1] rfl)
theorem dX0_isSymmetry_0 : decode cX0_isSymmetry 0 = .ok (.iconst 0, 1) := by decide +kernel
theorem dX0_isSymmetry_1 : decode cX0_isSymmetry 1 = .ok (.istore_n 2, 1) := by decide +kernel
theorem dX0_isSymmetry_2 : decode cX0_isSymmetry 2 = .ok (.iload_n 2, 1) := by decide +kernel
theorem dX0_isSymmetry_3 : decode cX0_isSymmetry 3 = .ok (.aload_n 0, 1) := by decide +kernel
theorem dX0_isSymmetry_4 : decode cX0_isSymmetry 4 = .ok (.getfield 24, 3) := by decide +kernel
theorem dX0_isSymmetry_7 : decode cX0_isSymmetry 7 = .ok (.invokevirtual 60, 3) := by decide +kernel
theorem dX0_isSymmetry_10 : decode cX0_isSymmetry 10 = .ok (.if_icmp .ge 30, 3) := by decide +kernel
theorem dX0_isSymmetry_13 : decode cX0_isSymmetry 13 = .ok (.aload_n 0, 1) := by decide +kernel
theorem dX0_isSymmetry_14 : decode cX0_isSymmetry 14 = .ok (.aload_n 0, 1) := by decide +kernel
theorem dX0_isSymmetry_15 : decode cX0_isSymmetry 15 = .ok (.getfield 24, 3) := by decide +kernel
theorem dX0_isSymmetry_18 : decode cX0_isSymmetry 18 = .ok (.iload_n 2, 1) := by decide +kernel
theorem dX0_isSymmetry_19 : decode cX0_isSymmetry 19 = .ok (.invokevirtual 64, 3) := by decide +kernel
theorem dX0_isSymmetry_22 : decode cX0_isSymmetry 22 = .ok (.iload_n 1, 1) := by decide +kernel
theorem dX0_isSymmetry_23 : decode cX0_isSymmetry 23 = .ok (.invokestatic 96, 3) := by decide +kernel
theorem dX0_isSymmetry_26 : decode cX0_isSymmetry 26 = .ok (.invokevirtual 53, 3) := by decide +kernel
theorem dX0_isSymmetry_29 : decode cX0_isSymmetry 29 = .ok (.ifCond .ne 5, 3) := by decide +kernel
theorem dX0_isSymmetry_32 : decode cX0_isSymmetry 32 = .ok (.iconst 0, 1) := by decide +kernel
theorem dX0_isSymmetry_33 : decode cX0_isSymmetry 33 = .ok (.ireturn, 1) := by decide +kernel
theorem dX0_isSymmetry_34 : decode cX0_isSymmetry 34 = .ok (.iinc 2 1, 3) := by decide +kernel
theorem dX0_isSymmetry_37 : decode cX0_isSymmetry 37 = .ok (.goto (-35), 3) := by decide +kernel
theorem dX0_isSymmetry_40 : decode cX0_isSymmetry 40 = .ok (.iconst 0, 1) := by decide +kernel
theorem dX0_isSymmetry_41 : decode cX0_isSymmetry 41 = .ok (.istore_n 2, 1) := by decide +kernel
theorem dX0_isSymmetry_42 : decode cX0_isSymmetry 42 = .ok (.iload_n 2, 1) := by decide +kernel
theorem dX0_isSymmetry_43 : decode cX0_isSymmetry 43 = .ok (.aload_n 0, 1) := by decide +kernel
theorem dX0_isSymmetry_44 : decode cX0_isSymmetry 44 = .ok (.getfield 28, 3) := by decide +kernel
theorem dX0_isSymmetry_47 : decode cX0_isSymmetry 47 = .ok (.invokevirtual 60, 3) := by decide +kernel
theorem dX0_isSymmetry_50 : decode cX0_isSymmetry 50 = .ok (.if_icmp .ge 68, 3) := by decide +kernel
theorem dX0_isSymmetry_53 : decode cX0_isSymmetry 53 = .ok (.aload_n 0, 1) := by decide +kernel
theorem dX0_isSymmetry_54 : decode cX0_isSymmetry 54 = .ok (.getfield 24, 3) := by decide +kernel
theorem dX0_isSymmetry_57 : decode cX0_isSymmetry 57 = .ok (.aload_n 0, 1) := by decide +kernel
theorem dX0_isSymmetry_58 : decode cX0_isSymmetry 58 = .ok (.getfield 28, 3) := by decide +kernel
theorem dX0_isSymmetry_61 : decode cX0_isSymmetry 61 = .ok (.iload_n 2, 1) := by decide +kernel
theorem dX0_isSymmetry_62 : decode cX0_isSymmetry 62 = .ok (.invokevirtual 64, 3) := by decide +kernel
theorem dX0_isSymmetry_65 : decode cX0_isSymmetry 65 = .ok (.bipush 100, 2) := by decide +kernel
theorem dX0_isSymmetry_67 : decode cX0_isSymmetry 67 = .ok (.idiv, 1) := by decide +kernel
theorem dX0_isSymmetry_68 : decode cX0_isSymmetry 68 = .ok (.invokevirtual 64, 3) := by decide +kernel
theorem dX0_isSymmetry_71 : decode cX0_isSymmetry 71 = .ok (.istore_n 3, 1) := by decide +kernel
theorem dX0_isSymmetry_72 : decode cX0_isSymmetry 72 = .ok (.aload_n 0, 1) := by decide +kernel
theorem dX0_isSymmetry_73 : decode cX0_isSymmetry 73 = .ok (.getfield 24, 3) := by decide +kernel
theorem dX0_isSymmetry_76 : decode cX0_isSymmetry 76 = .ok (.aload_n 0, 1) := by decide +kernel
theorem dX0_isSymmetry_77 : decode cX0_isSymmetry 77 = .ok (.getfield 28, 3) := by decide +kernel
theorem dX0_isSymmetry_80 : decode cX0_isSymmetry 80 = .ok (.iload_n 2, 1) := by decide +kernel
theorem dX0_isSymmetry_81 : decode cX0_isSymmetry 81 = .ok (.invokevirtual 64, 3) := by decide +kernel
theorem dX0_isSymmetry_84 : decode cX0_isSymmetry 84 = .ok (.bipush 100, 2) := by decide +kernel
theorem dX0_isSymmetry_86 : decode cX0_isSymmetry 86 = .ok (.irem, 1) := by decide +kernel
theorem dX0_isSymmetry_87 : decode cX0_isSymmetry 87 = .ok (.invokevirtual 64, 3) := by decide +kernel
theorem dX0_isSymmetry_90 : decode cX0_isSymmetry 90 = .ok (.istore 4, 2) := by decide +kernel
theorem dX0_isSymmetry_92 : decode cX0_isSymmetry 92 = .ok (.aload_n 0, 1) := by decide +kernel
theorem dX0_isSymmetry_93 : decode cX0_isSymmetry 93 = .ok (.iload_n 3, 1) := by decide +kernel
theorem dX0_isSymmetry_94 : decode cX0_isSymmetry 94 = .ok (.iload_n 1, 1) := by decide +kernel
theorem dX0_isSymmetry_95 : decode cX0_isSymmetry 95 = .ok (.invokestatic 96, 3) := by decide +kernel
theorem dX0_isSymmetry_98 : decode cX0_isSymmetry 98 = .ok (.iload 4, 2) := by decide +kernel
theorem dX0_isSymmetry_100 : decode cX0_isSymmetry 100 = .ok (.iload_n 1, 1) := by decide +kernel
theorem dX0_isSymmetry_101 : decode cX0_isSymmetry 101 = .ok (.invokestatic 96, 3) := by decide +kernel
theorem dX0_isSymmetry_104 : decode cX0_isSymmetry 104 = .ok (.invokevirtual 68, 3) := by decide +kernel
theorem dX0_isSymmetry_107 : decode cX0_isSymmetry 107 = .ok (.ifCond .ne 5, 3) := by decide +kernel
theorem dX0_isSymmetry_110 : decode cX0_isSymmetry 110 = .ok (.iconst 0, 1) := by decide +kernel
theorem dX0_isSymmetry_111 : decode cX0_isSymmetry 111 = .ok (.ireturn, 1) := by decide +kernel
theorem dX0_isSymmetry_112 : decode cX0_isSymmetry 112 = .ok (.iinc 2 1, 3) := by decide +kernel
theorem dX0_isSymmetry_115 : decode cX0_isSymmetry 115 = .ok (.goto (-73), 3) := by decide +kernel
theorem dX0_isSymmetry_118 : decode cX0_isSymmetry 118 = .ok (.iconst 1, 1) := by decide +kernel
theorem dX0_isSymmetry_119 : decode cX0_isSymmetry 119 = .ok (.ireturn, 1) := by decide +kernel
def wp_X0_isSymmetry_B42 (σ : SX) (x1 : Int32) (P : Int32 → Prop) (K42 : Prop) (rec42 : Int32 → Prop) (v2_42 : Int32) : Prop := (wp_X1_size 104 (σ.2.1 2) (σ.1 3)  (fun r47 => ((r47 ≤ v2_42 → K42) ∧ (¬ r47 ≤ v2_42 → (wp_X1_at 104 (σ.2.1 2) (σ.1 3) v2_42 (fun r62 => (wp_X1_at 13 (σ.2.1 1) (σ.1 2) (r62 / 100) (fun r68 => (wp_X1_at 104 (σ.2.1 2) (σ.1 3) v2_42 (fun r81 => (wp_X1_at 13 (σ.2.1 1) (σ.1 2) (r81 - r81 / 100 * 100) (fun r87 => (wp_X0_turned r68 x1 (fun r95 => (wp_X0_turned r87 x1 (fun r101 => (wp_X0_isLine σ r95 r101 (fun r104 => ((¬ r104 = 0 → (rec42 (v2_42 + 1))) ∧ (r104 = 0 → (P 0)))))))))))))))))))))
def wp_X0_isSymmetry_L42 (σ : SX) (x1 : Int32) (P : Int32 → Prop) (K42 : Prop) : Nat → Int32 → Prop
  | 0, _ => False
  | nn + 1, v2_42 => wp_X0_isSymmetry_B42 σ x1 P K42 (wp_X0_isSymmetry_L42 σ x1 P K42 nn) v2_42
def wp_X0_isSymmetry_B2 (σ : SX) (x1 : Int32) (P : Int32 → Prop) (K2 : Prop) (rec2 : Int32 → Prop) (v2_2 : Int32) : Prop := (wp_X1_size 13 (σ.2.1 1) (σ.1 2)  (fun r7 => ((r7 ≤ v2_2 → K2) ∧ (¬ r7 ≤ v2_2 → (wp_X1_at 13 (σ.2.1 1) (σ.1 2) v2_2 (fun r19 => (wp_X0_turned r19 x1 (fun r23 => (wp_X0_isHole σ r23 (fun r26 => ((¬ r26 = 0 → (rec2 (v2_2 + 1))) ∧ (r26 = 0 → (P 0)))))))))))))
def wp_X0_isSymmetry_L2 (σ : SX) (x1 : Int32) (P : Int32 → Prop) (K2 : Prop) : Nat → Int32 → Prop
  | 0, _ => False
  | nn + 1, v2_2 => wp_X0_isSymmetry_B2 σ x1 P K2 (wp_X0_isSymmetry_L2 σ x1 P K2 nn) v2_2
def wp_X0_isSymmetry (fu : Nat) (σ : SX) (x1 : Int32) (P : Int32 → Prop) : Prop := (wp_X0_isSymmetry_L2 σ x1 P (wp_X0_isSymmetry_L42 σ x1 P (P 1) fu 0) fu 0)
theorem k_X0_isSymmetry : KV RX0 yX0_isSymmetry cX0_isSymmetry 5 (some .boolean) 1 := ⟨q177, q178, q2, q179, by decide +kernel⟩
set_option maxHeartbeats 4000000 in
set_option maxRecDepth 100000 in
theorem m_X0_isSymmetry (l : Launch) (dC : Nat → ClassId) (dI : Nat → Nat → Nat) (h : Nat → Nat) (cy : Nat → ClassId) (fu : Nat) (σ : SX) (x1 : Int32) (P : Int32 → Prop) (hF : wp_X0_isSymmetry fu σ x1 P) : Met l yX0_isSymmetry (ws_ yX0_isSymmetry cX0_isSymmetry 5 (some .boolean)) ({ frames := 3, cells := 0, slots := 0, locals := 67 } : Room) (va_Pc [.ref (h 0), .int x1] (fun U => va_P (dC, dI) classes (wB h cy σ) U.heap ∧ kwX dC dI cy U)) (vp_Si P) 0 0 (fun _ => False) := by
  refine Met.ofCx (own := RX0) (by decide) rfl (Nat.le_of_ble_eq_true rfl) ?_
  intro p e s m below meth c hC hv ls hl
  obtain ⟨hx, hb, hr, hml, hown, hts, hlocks⟩ := hC
  have hl : lv_has ls 5 [(0, .ref (h 0)), (1, .int x1)] := hl
  obtain ⟨hP, hK⟩ := hv
  unfold wp_X0_isSymmetry at hF
  refine lv_iconst (v := 0) hx hb dX0_isSymmetry_0 (by decide) ?_
  refine lv_istore_n (lv' := [(2, .int 0), (0, .ref (h 0)), (1, .int x1)]) hx hb dX0_isSymmetry_1 rfl hl (by decide) rfl (fun ls hl => ?_)
  have hX2 : (wp_X0_isSymmetry_L42 σ x1 P (P 1) fu 0) → ∀ (ls : Array Slot), lv_has ls 5 [(0, .ref (h 0)), (1, .int x1)] → W p l e ({ frames := 3, cells := 0, slots := 0, locals := 67 } : Room) s m ([.ref (h 0), .int x1] : List Value).toArray below meth c s.heap [] 0 0 (MQ below (vp_Si P) ([.ref (h 0), .int x1] : List Value).toArray s 0 0 (fun _ => False)) (F0 m 40 ls []) := by
    intro hF ls hl
    refine lv_iconst (v := 0) hx hb dX0_isSymmetry_40 (by decide) ?_
    refine lv_istore_n (lv' := [(2, .int 0), (0, .ref (h 0)), (1, .int x1)]) hx hb dX0_isSymmetry_41 rfl hl (by decide) rfl (fun ls hl => ?_)
    have hX42 : (P 1) → ∀ (ls : Array Slot), lv_has ls 5 [] → W p l e ({ frames := 3, cells := 0, slots := 0, locals := 67 } : Room) s m ([.ref (h 0), .int x1] : List Value).toArray below meth c s.heap [] 0 0 (MQ below (vp_Si P) ([.ref (h 0), .int x1] : List Value).toArray s 0 0 (fun _ => False)) (F0 m 118 ls []) := by
      intro hF ls hl
      refine lv_iconst (v := 1) hx hb dX0_isSymmetry_118 (by decide) ?_
      exact W.zret (v := 1) hx hb hr rfl (fun t ht hW => ⟨1, rfl, hF, ht⟩) (fun q hq => absurd hq List.not_mem_nil) dX0_isSymmetry_119
    have hL42 : ∀ (K42 : Prop), (K42 → ∀ (ls : Array Slot), lv_has ls 5 [] → W p l e ({ frames := 3, cells := 0, slots := 0, locals := 67 } : Room) s m ([.ref (h 0), .int x1] : List Value).toArray below meth c s.heap [] 0 0 (MQ below (vp_Si P) ([.ref (h 0), .int x1] : List Value).toArray s 0 0 (fun _ => False)) (F0 m 118 ls [])) → ∀ (nn : Nat), ∀ (v2_42 : Int32), wp_X0_isSymmetry_L42 σ x1 P K42 nn v2_42 → ∀ (ls : Array Slot), lv_has ls 5 [(2, .int v2_42), (0, .ref (h 0)), (1, .int x1)] → W p l e ({ frames := 3, cells := 0, slots := 0, locals := 67 } : Room) s m ([.ref (h 0), .int x1] : List Value).toArray below meth c s.heap [] 0 0 (MQ below (vp_Si P) ([.ref (h 0), .int x1] : List Value).toArray s 0 0 (fun _ => False)) (F0 m 42 ls []) := by
      intro K42 hX42 nn
      induction nn with
      | zero =>
        intro v2_42 hF
        exact hF.elim
      | succ nn ih =>
        intro v2_42 hF ls hl
        obtain ⟨rec42, hrec⟩ : ∃ z : Int32 → Prop, z = wp_X0_isSymmetry_L42 σ x1 P K42 nn := ⟨_, rfl⟩
        have hF : wp_X0_isSymmetry_B42 σ x1 P K42 rec42 v2_42 := by rw [hrec]; exact hF
        rw [← hrec] at ih
        clear hrec
        unfold wp_X0_isSymmetry_B42 at hF
        refine lv_iload_n hx hb dX0_isSymmetry_42 rfl (lv_at hl 0 rfl) ?_
        refine lv_aload_n hx hb dX0_isSymmetry_43 rfl (lv_at hl 1 rfl) ?_
        refine va_get (D := (dC, dI)) (ci := 0) (v := .ref (h 4)) (C := RX0) (T := TX0) (N := 8) hx hb hts in_X0 hown hK.1 hP 0 rfl rfl 4 (by decide) (hts _ q69) (fun _ h9 => h9) rfl dX0_isSymmetry_44 ?_
        have hPc := hP.sub (ws' := wR (h 4) (h 5) cy 104 (σ.2.1 2) (σ.1 3)) [4, 5] rfl
        refine cpVi (q0 := 0) (As := []) (rest := [.int v2_42]) ⟨hx, hb, hr, hml, hown, hts, hlocks⟩ hK hPc rfl rfl (m_X1_size l dC dI (h 4) (h 5) cy 104 (σ.2.1 2) (σ.1 3)  _ hF) k_X1_size q168 ⟨rfl, rfl⟩ ⟨Nat.le_of_ble_eq_true rfl, Nat.le_of_ble_eq_true rfl⟩ hl.1 rfl rfl (Nat.le_of_ble_eq_true rfl) dX0_isSymmetry_47 ⟨Nat.le_of_ble_eq_true rfl, Nat.le_of_ble_eq_true rfl⟩ (fun r47 hF => ?_)
        refine lv_icmp_ge (tgt := 118) hx hb dX0_isSymmetry_50 (by decide) (fun cz => ?_) (fun cz => ?_)
        · have hF := hF.1 cz
          exact hX42 hF _ (lv_sub hl [] rfl)
        · have hF := hF.2 cz
          refine lv_aload_n hx hb dX0_isSymmetry_53 rfl (lv_at hl 1 rfl) ?_
          refine va_get (D := (dC, dI)) (ci := 0) (v := .ref (h 2)) (C := RX0) (T := TX0) (N := 8) hx hb hts in_X0 hown hK.1 hP 0 rfl rfl 3 (by decide) (hts _ q68) (fun _ h9 => h9) rfl dX0_isSymmetry_54 ?_
          refine lv_aload_n hx hb dX0_isSymmetry_57 rfl (lv_at hl 1 rfl) ?_
          refine va_get (D := (dC, dI)) (ci := 0) (v := .ref (h 4)) (C := RX0) (T := TX0) (N := 8) hx hb hts in_X0 hown hK.1 hP 0 rfl rfl 4 (by decide) (hts _ q69) (fun _ h9 => h9) rfl dX0_isSymmetry_58 ?_
          refine lv_iload_n hx hb dX0_isSymmetry_61 rfl (lv_at hl 0 rfl) ?_
          have hPc := hP.sub (ws' := wR (h 4) (h 5) cy 104 (σ.2.1 2) (σ.1 3)) [4, 5] rfl
          refine cpVi (q0 := 0) (As := [.int v2_42]) (rest := [.ref (h 2)]) ⟨hx, hb, hr, hml, hown, hts, hlocks⟩ hK hPc rfl rfl (m_X1_at l dC dI (h 4) (h 5) cy 104 (σ.2.1 2) (σ.1 3) v2_42 _ hF) k_X1_at q180 ⟨rfl, rfl⟩ ⟨Nat.le_of_ble_eq_true rfl, Nat.le_of_ble_eq_true rfl⟩ hl.1 rfl rfl (Nat.le_of_ble_eq_true rfl) dX0_isSymmetry_62 ⟨Nat.le_of_ble_eq_true rfl, Nat.le_of_ble_eq_true rfl⟩ (fun r62 hF => ?_)
          refine lv_bipush (v := 100) hx hb dX0_isSymmetry_65 (by decide) ?_
          refine lv_idiv hx hb dX0_isSymmetry_67 (by decide) ?_
          have hPc := hP.sub (ws' := wR (h 2) (h 3) cy 13 (σ.2.1 1) (σ.1 2)) [2, 3] rfl
          refine cpVi (q0 := 0) (As := [.int (r62 / 100)]) (rest := []) ⟨hx, hb, hr, hml, hown, hts, hlocks⟩ hK hPc rfl rfl (m_X1_at l dC dI (h 2) (h 3) cy 13 (σ.2.1 1) (σ.1 2) (r62 / 100) _ hF) k_X1_at q180 ⟨rfl, rfl⟩ ⟨Nat.le_of_ble_eq_true rfl, Nat.le_of_ble_eq_true rfl⟩ hl.1 rfl rfl (Nat.le_of_ble_eq_true rfl) dX0_isSymmetry_68 ⟨Nat.le_of_ble_eq_true rfl, Nat.le_of_ble_eq_true rfl⟩ (fun r68 hF => ?_)
          refine lv_istore_n (lv' := [(3, .int r68), (2, .int v2_42), (0, .ref (h 0)), (1, .int x1)]) hx hb dX0_isSymmetry_71 rfl hl (by decide) rfl (fun ls hl => ?_)
          refine lv_aload_n hx hb dX0_isSymmetry_72 rfl (lv_at hl 2 rfl) ?_
          refine va_get (D := (dC, dI)) (ci := 0) (v := .ref (h 2)) (C := RX0) (T := TX0) (N := 8) hx hb hts in_X0 hown hK.1 hP 0 rfl rfl 3 (by decide) (hts _ q68) (fun _ h9 => h9) rfl dX0_isSymmetry_73 ?_
          refine lv_aload_n hx hb dX0_isSymmetry_76 rfl (lv_at hl 2 rfl) ?_
          refine va_get (D := (dC, dI)) (ci := 0) (v := .ref (h 4)) (C := RX0) (T := TX0) (N := 8) hx hb hts in_X0 hown hK.1 hP 0 rfl rfl 4 (by decide) (hts _ q69) (fun _ h9 => h9) rfl dX0_isSymmetry_77 ?_
          refine lv_iload_n hx hb dX0_isSymmetry_80 rfl (lv_at hl 1 rfl) ?_
          have hPc := hP.sub (ws' := wR (h 4) (h 5) cy 104 (σ.2.1 2) (σ.1 3)) [4, 5] rfl
          refine cpVi (q0 := 0) (As := [.int v2_42]) (rest := [.ref (h 2)]) ⟨hx, hb, hr, hml, hown, hts, hlocks⟩ hK hPc rfl rfl (m_X1_at l dC dI (h 4) (h 5) cy 104 (σ.2.1 2) (σ.1 3) v2_42 _ hF) k_X1_at q180 ⟨rfl, rfl⟩ ⟨Nat.le_of_ble_eq_true rfl, Nat.le_of_ble_eq_true rfl⟩ hl.1 rfl rfl (Nat.le_of_ble_eq_true rfl) dX0_isSymmetry_81 ⟨Nat.le_of_ble_eq_true rfl, Nat.le_of_ble_eq_true rfl⟩ (fun r81 hF => ?_)
          refine lv_bipush (v := 100) hx hb dX0_isSymmetry_84 (by decide) ?_
          refine lv_irem hx hb dX0_isSymmetry_86 (by decide) ?_
          have hPc := hP.sub (ws' := wR (h 2) (h 3) cy 13 (σ.2.1 1) (σ.1 2)) [2, 3] rfl
          refine cpVi (q0 := 0) (As := [.int (r81 - r81 / 100 * 100)]) (rest := []) ⟨hx, hb, hr, hml, hown, hts, hlocks⟩ hK hPc rfl rfl (m_X1_at l dC dI (h 2) (h 3) cy 13 (σ.2.1 1) (σ.1 2) (r81 - r81 / 100 * 100) _ hF) k_X1_at q180 ⟨rfl, rfl⟩ ⟨Nat.le_of_ble_eq_true rfl, Nat.le_of_ble_eq_true rfl⟩ hl.1 rfl rfl (Nat.le_of_ble_eq_true rfl) dX0_isSymmetry_87 ⟨Nat.le_of_ble_eq_true rfl, Nat.le_of_ble_eq_true rfl⟩ (fun r87 hF => ?_)
          refine lv_istore (lv' := [(4, .int r87), (3, .int r68), (2, .int v2_42), (0, .ref (h 0)), (1, .int x1)]) hx hb dX0_isSymmetry_90 hl (by decide) rfl (fun ls hl => ?_)
          refine lv_aload_n hx hb dX0_isSymmetry_92 rfl (lv_at hl 3 rfl) ?_
          refine lv_iload_n hx hb dX0_isSymmetry_93 rfl (lv_at hl 1 rfl) ?_
          refine lv_iload_n hx hb dX0_isSymmetry_94 rfl (lv_at hl 4 rfl) ?_
          refine cpSi (As := [.int r68, .int x1]) (rest := [.ref (h 0)]) ⟨hx, hb, hr, hml, hown, hts, hlocks⟩ (m_X0_turned l r68 x1 _ hF) k_X0_turned q184 ⟨rfl, rfl⟩ ⟨Nat.le_of_ble_eq_true rfl, Nat.le_of_ble_eq_true rfl⟩ hl.1 rfl rfl (Nat.le_of_ble_eq_true rfl) dX0_isSymmetry_95 ⟨Nat.le_of_ble_eq_true rfl, Nat.le_of_ble_eq_true rfl⟩ (fun r95 hF => ?_)
          refine lv_iload hx hb dX0_isSymmetry_98 (lv_at hl 0 rfl) ?_
          refine lv_iload_n hx hb dX0_isSymmetry_100 rfl (lv_at hl 4 rfl) ?_
          refine cpSi (As := [.int r87, .int x1]) (rest := [.int r95, .ref (h 0)]) ⟨hx, hb, hr, hml, hown, hts, hlocks⟩ (m_X0_turned l r87 x1 _ hF) k_X0_turned q184 ⟨rfl, rfl⟩ ⟨Nat.le_of_ble_eq_true rfl, Nat.le_of_ble_eq_true rfl⟩ hl.1 rfl rfl (Nat.le_of_ble_eq_true rfl) dX0_isSymmetry_101 ⟨Nat.le_of_ble_eq_true rfl, Nat.le_of_ble_eq_true rfl⟩ (fun r101 hF => ?_)
          refine cpVi (q0 := 0) (As := [.int r95, .int r101]) (rest := []) ⟨hx, hb, hr, hml, hown, hts, hlocks⟩ hK hP rfl rfl (m_X0_isLine l dC dI h cy σ r95 r101 _ hF) k_X0_isLine q191 ⟨rfl, rfl⟩ ⟨Nat.le_of_ble_eq_true rfl, Nat.le_of_ble_eq_true rfl⟩ hl.1 rfl rfl (Nat.le_of_ble_eq_true rfl) dX0_isSymmetry_104 ⟨Nat.le_of_ble_eq_true rfl, Nat.le_of_ble_eq_true rfl⟩ (fun r104 hF => ?_)
          refine lv_if_ne (tgt := 112) hx hb dX0_isSymmetry_107 (by decide) (fun cz => ?_) (fun cz => ?_)
          · have hF := hF.1 cz
            refine lv_iinc (v := v2_42 + 1) (lv' := [(2, .int (v2_42 + 1)), (4, .int r87), (3, .int r68), (0, .ref (h 0)), (1, .int x1)]) hx hb dX0_isSymmetry_112 hl (k := 2) rfl (by rfl) (by decide) rfl (fun ls hl => ?_)
            refine lv_goto (tgt := 42) hx hb dX0_isSymmetry_115 (by decide) ?_
            exact ih (v2_42 + 1) hF _ (lv_sub hl [0, 3, 4] rfl)
          · have hF := hF.2 cz
            refine lv_iconst (v := 0) hx hb dX0_isSymmetry_110 (by decide) ?_
            exact W.zret (v := 0) hx hb hr rfl (fun t ht hW => ⟨0, rfl, hF, ht⟩) (fun q hq => absurd hq List.not_mem_nil) dX0_isSymmetry_111
    exact hL42 _ hX42 fu 0 hF _ (lv_sub hl [0, 1, 2] rfl)
  have hL2 : ∀ (K2 : Prop), (K2 → ∀ (ls : Array Slot), lv_has ls 5 [(0, .ref (h 0)), (1, .int x1)] → W p l e ({ frames := 3, cells := 0, slots := 0, locals := 67 } : Room) s m ([.ref (h 0), .int x1] : List Value).toArray below meth c s.heap [] 0 0 (MQ below (vp_Si P) ([.ref (h 0), .int x1] : List Value).toArray s 0 0 (fun _ => False)) (F0 m 40 ls [])) → ∀ (nn : Nat), ∀ (v2_2 : Int32), wp_X0_isSymmetry_L2 σ x1 P K2 nn v2_2 → ∀ (ls : Array Slot), lv_has ls 5 [(2, .int v2_2), (0, .ref (h 0)), (1, .int x1)] → W p l e ({ frames := 3, cells := 0, slots := 0, locals := 67 } : Room) s m ([.ref (h 0), .int x1] : List Value).toArray below meth c s.heap [] 0 0 (MQ below (vp_Si P) ([.ref (h 0), .int x1] : List Value).toArray s 0 0 (fun _ => False)) (F0 m 2 ls []) := by
    intro K2 hX2 nn
    induction nn with
    | zero =>
      intro v2_2 hF
      exact hF.elim
    | succ nn ih =>
      intro v2_2 hF ls hl
      obtain ⟨rec2, hrec⟩ : ∃ z : Int32 → Prop, z = wp_X0_isSymmetry_L2 σ x1 P K2 nn := ⟨_, rfl⟩
      have hF : wp_X0_isSymmetry_B2 σ x1 P K2 rec2 v2_2 := by rw [hrec]; exact hF
      rw [← hrec] at ih
      clear hrec
      unfold wp_X0_isSymmetry_B2 at hF
      refine lv_iload_n hx hb dX0_isSymmetry_2 rfl (lv_at hl 0 rfl) ?_
      refine lv_aload_n hx hb dX0_isSymmetry_3 rfl (lv_at hl 1 rfl) ?_
      refine va_get (D := (dC, dI)) (ci := 0) (v := .ref (h 2)) (C := RX0) (T := TX0) (N := 8) hx hb hts in_X0 hown hK.1 hP 0 rfl rfl 3 (by decide) (hts _ q68) (fun _ h9 => h9) rfl dX0_isSymmetry_4 ?_
      have hPc := hP.sub (ws' := wR (h 2) (h 3) cy 13 (σ.2.1 1) (σ.1 2)) [2, 3] rfl
      refine cpVi (q0 := 0) (As := []) (rest := [.int v2_2]) ⟨hx, hb, hr, hml, hown, hts, hlocks⟩ hK hPc rfl rfl (m_X1_size l dC dI (h 2) (h 3) cy 13 (σ.2.1 1) (σ.1 2)  _ hF) k_X1_size q168 ⟨rfl, rfl⟩ ⟨Nat.le_of_ble_eq_true rfl, Nat.le_of_ble_eq_true rfl⟩ hl.1 rfl rfl (Nat.le_of_ble_eq_true rfl) dX0_isSymmetry_7 ⟨Nat.le_of_ble_eq_true rfl, Nat.le_of_ble_eq_true rfl⟩ (fun r7 hF => ?_)
      refine lv_icmp_ge (tgt := 40) hx hb dX0_isSymmetry_10 (by decide) (fun cz => ?_) (fun cz => ?_)
      · have hF := hF.1 cz
        exact hX2 hF _ (lv_sub hl [1, 2] rfl)
      · have hF := hF.2 cz
        refine lv_aload_n hx hb dX0_isSymmetry_13 rfl (lv_at hl 1 rfl) ?_
        refine lv_aload_n hx hb dX0_isSymmetry_14 rfl (lv_at hl 1 rfl) ?_
        refine va_get (D := (dC, dI)) (ci := 0) (v := .ref (h 2)) (C := RX0) (T := TX0) (N := 8) hx hb hts in_X0 hown hK.1 hP 0 rfl rfl 3 (by decide) (hts _ q68) (fun _ h9 => h9) rfl dX0_isSymmetry_15 ?_
        refine lv_iload_n hx hb dX0_isSymmetry_18 rfl (lv_at hl 0 rfl) ?_
        have hPc := hP.sub (ws' := wR (h 2) (h 3) cy 13 (σ.2.1 1) (σ.1 2)) [2, 3] rfl
        refine cpVi (q0 := 0) (As := [.int v2_2]) (rest := [.ref (h 0)]) ⟨hx, hb, hr, hml, hown, hts, hlocks⟩ hK hPc rfl rfl (m_X1_at l dC dI (h 2) (h 3) cy 13 (σ.2.1 1) (σ.1 2) v2_2 _ hF) k_X1_at q180 ⟨rfl, rfl⟩ ⟨Nat.le_of_ble_eq_true rfl, Nat.le_of_ble_eq_true rfl⟩ hl.1 rfl rfl (Nat.le_of_ble_eq_true rfl) dX0_isSymmetry_19 ⟨Nat.le_of_ble_eq_true rfl, Nat.le_of_ble_eq_true rfl⟩ (fun r19 hF => ?_)
        refine lv_iload_n hx hb dX0_isSymmetry_22 rfl (lv_at hl 2 rfl) ?_
        refine cpSi (As := [.int r19, .int x1]) (rest := [.ref (h 0)]) ⟨hx, hb, hr, hml, hown, hts, hlocks⟩ (m_X0_turned l r19 x1 _ hF) k_X0_turned q184 ⟨rfl, rfl⟩ ⟨Nat.le_of_ble_eq_true rfl, Nat.le_of_ble_eq_true rfl⟩ hl.1 rfl rfl (Nat.le_of_ble_eq_true rfl) dX0_isSymmetry_23 ⟨Nat.le_of_ble_eq_true rfl, Nat.le_of_ble_eq_true rfl⟩ (fun r23 hF => ?_)
        refine cpVi (q0 := 0) (As := [.int r23]) (rest := []) ⟨hx, hb, hr, hml, hown, hts, hlocks⟩ hK hP rfl rfl (m_X0_isHole l dC dI h cy σ r23 _ hF) k_X0_isHole q187 ⟨rfl, rfl⟩ ⟨Nat.le_of_ble_eq_true rfl, Nat.le_of_ble_eq_true rfl⟩ hl.1 rfl rfl (Nat.le_of_ble_eq_true rfl) dX0_isSymmetry_26 ⟨Nat.le_of_ble_eq_true rfl, Nat.le_of_ble_eq_true rfl⟩ (fun r26 hF => ?_)
        refine lv_if_ne (tgt := 34) hx hb dX0_isSymmetry_29 (by decide) (fun cz => ?_) (fun cz => ?_)
        · have hF := hF.1 cz
          refine lv_iinc (v := v2_2 + 1) (lv' := [(2, .int (v2_2 + 1)), (0, .ref (h 0)), (1, .int x1)]) hx hb dX0_isSymmetry_34 hl (k := 0) rfl (by rfl) (by decide) rfl (fun ls hl => ?_)
          refine lv_goto (tgt := 2) hx hb dX0_isSymmetry_37 (by decide) ?_
          exact ih (v2_2 + 1) hF _ (lv_sub hl [0, 1, 2] rfl)
        · have hF := hF.2 cz
          refine lv_iconst (v := 0) hx hb dX0_isSymmetry_32 (by decide) ?_
          exact W.zret (v := 0) hx hb hr rfl (fun t ht hW => ⟨0, rfl, hF, ht⟩) (fun q hq => absurd hq List.not_mem_nil) dX0_isSymmetry_33
  exact hL2 _ hX2 fu 0 hF _ (lv_sub hl [0, 1, 2] rfl)
theorem dX0_lineCount_0 : decode cX0_lineCount 0 = .ok (.aload_n 0, 1) := by decide +kernel
theorem dX0_lineCount_1 : decode cX0_lineCount 1 = .ok (.getfield 28, 3) := by decide +kernel
theorem dX0_lineCount_4 : decode cX0_lineCount 4 = .ok (.invokevirtual 60, 3) := by decide +kernel
theorem dX0_lineCount_7 : decode cX0_lineCount 7 = .ok (.ireturn, 1) := by decide +kernel
def wp_X0_lineCount (σ : SX) (P : Int32 → Prop) : Prop := (wp_X1_size 104 (σ.2.1 2) (σ.1 3)  (fun r4 => (P r4)))
theorem k_X0_lineCount : KV RX0 yX0_lineCount cX0_lineCount 1 (some .int) 0 := ⟨q165, q166, q2, q167, by decide +kernel⟩
set_option maxHeartbeats 4000000 in
set_option maxRecDepth 100000 in
theorem m_X0_lineCount (l : Launch) (dC : Nat → ClassId) (dI : Nat → Nat → Nat) (h : Nat → Nat) (cy : Nat → ClassId) (σ : SX) (P : Int32 → Prop) (hF : wp_X0_lineCount σ P) : Met l yX0_lineCount (ws_ yX0_lineCount cX0_lineCount 1 (some .int)) ({ frames := 1, cells := 0, slots := 0, locals := 20 } : Room) (va_Pc [.ref (h 0)] (fun U => va_P (dC, dI) classes (wB h cy σ) U.heap ∧ kwX dC dI cy U)) (vp_Si P) 0 0 (fun _ => False) := by
  refine Met.ofCx (own := RX0) (by decide) rfl (Nat.le_of_ble_eq_true rfl) ?_
  intro p e s m below meth c hC hv ls hl
  obtain ⟨hx, hb, hr, hml, hown, hts, hlocks⟩ := hC
  have hl : lv_has ls 1 [(0, .ref (h 0))] := hl
  obtain ⟨hP, hK⟩ := hv
  unfold wp_X0_lineCount at hF
  refine lv_aload_n hx hb dX0_lineCount_0 rfl (lv_at hl 0 rfl) ?_
  refine va_get (D := (dC, dI)) (ci := 0) (v := .ref (h 4)) (C := RX0) (T := TX0) (N := 8) hx hb hts in_X0 hown hK.1 hP 0 rfl rfl 4 (by decide) (hts _ q69) (fun _ h9 => h9) rfl dX0_lineCount_1 ?_
  have hPc := hP.sub (ws' := wR (h 4) (h 5) cy 104 (σ.2.1 2) (σ.1 3)) [4, 5] rfl
  refine cpVi (q0 := 0) (As := []) (rest := []) ⟨hx, hb, hr, hml, hown, hts, hlocks⟩ hK hPc rfl rfl (m_X1_size l dC dI (h 4) (h 5) cy 104 (σ.2.1 2) (σ.1 3)  _ hF) k_X1_size q168 ⟨rfl, rfl⟩ ⟨Nat.le_of_ble_eq_true rfl, Nat.le_of_ble_eq_true rfl⟩ hl.1 rfl rfl (Nat.le_of_ble_eq_true rfl) dX0_lineCount_4 ⟨Nat.le_of_ble_eq_true rfl, Nat.le_of_ble_eq_true rfl⟩ (fun r4 hF => ?_)
  exact W.iret (v := r4) hx hb hr (fun t ht hW => ⟨r4, rfl, hF, ht⟩) (fun q hq => absurd hq List.not_mem_nil) dX0_lineCount_7
theorem dX0_lineOf_0 : decode cX0_lineOf 0 = .ok (.iconst 0, 1) := by decide +kernel
theorem dX0_lineOf_1 : decode cX0_lineOf 1 = .ok (.istore_n 2, 1) := by decide +kernel
theorem dX0_lineOf_2 : decode cX0_lineOf 2 = .ok (.iload_n 2, 1) := by decide +kernel
theorem dX0_lineOf_3 : decode cX0_lineOf 3 = .ok (.aload_n 0, 1) := by decide +kernel
theorem dX0_lineOf_4 : decode cX0_lineOf 4 = .ok (.getfield 28, 3) := by decide +kernel
theorem dX0_lineOf_7 : decode cX0_lineOf 7 = .ok (.invokevirtual 60, 3) := by decide +kernel
theorem dX0_lineOf_10 : decode cX0_lineOf 10 = .ok (.if_icmp .ge 23, 3) := by decide +kernel
theorem dX0_lineOf_13 : decode cX0_lineOf 13 = .ok (.aload_n 0, 1) := by decide +kernel
theorem dX0_lineOf_14 : decode cX0_lineOf 14 = .ok (.getfield 28, 3) := by decide +kernel
theorem dX0_lineOf_17 : decode cX0_lineOf 17 = .ok (.iload_n 2, 1) := by decide +kernel
theorem dX0_lineOf_18 : decode cX0_lineOf 18 = .ok (.invokevirtual 64, 3) := by decide +kernel
theorem dX0_lineOf_21 : decode cX0_lineOf 21 = .ok (.iload_n 1, 1) := by decide +kernel
theorem dX0_lineOf_22 : decode cX0_lineOf 22 = .ok (.if_icmp .ne 5, 3) := by decide +kernel
theorem dX0_lineOf_25 : decode cX0_lineOf 25 = .ok (.iload_n 2, 1) := by decide +kernel
theorem dX0_lineOf_26 : decode cX0_lineOf 26 = .ok (.ireturn, 1) := by decide +kernel
theorem dX0_lineOf_27 : decode cX0_lineOf 27 = .ok (.iinc 2 1, 3) := by decide +kernel
theorem dX0_lineOf_30 : decode cX0_lineOf 30 = .ok (.goto (-28), 3) := by decide +kernel
theorem dX0_lineOf_33 : decode cX0_lineOf 33 = .ok (.iconst (-1), 1) := by decide +kernel
theorem dX0_lineOf_34 : decode cX0_lineOf 34 = .ok (.ireturn, 1) := by decide +kernel
def wp_X0_lineOf_B2 (σ : SX) (x1 : Int32) (P : Int32 → Prop) (K2 : Prop) (rec2 : Int32 → Prop) (v2_2 : Int32) : Prop := (wp_X1_size 104 (σ.2.1 2) (σ.1 3)  (fun r7 => ((r7 ≤ v2_2 → K2) ∧ (¬ r7 ≤ v2_2 → (wp_X1_at 104 (σ.2.1 2) (σ.1 3) v2_2 (fun r18 => ((¬ r18 = x1 → (rec2 (v2_2 + 1))) ∧ (r18 = x1 → (P v2_2)))))))))
def wp_X0_lineOf_L2 (σ : SX) (x1 : Int32) (P : Int32 → Prop) (K2 : Prop) : Nat → Int32 → Prop
  | 0, _ => False
  | nn + 1, v2_2 => wp_X0_lineOf_B2 σ x1 P K2 (wp_X0_lineOf_L2 σ x1 P K2 nn) v2_2
def wp_X0_lineOf (fu : Nat) (σ : SX) (x1 : Int32) (P : Int32 → Prop) : Prop := (wp_X0_lineOf_L2 σ x1 P (P (-1)) fu 0)
theorem k_X0_lineOf : KV RX0 yX0_lineOf cX0_lineOf 3 (some .int) 1 := ⟨q381, q382, q2, q383, by decide +kernel⟩
set_option maxHeartbeats 4000000 in
set_option maxRecDepth 100000 in
theorem m_X0_lineOf (l : Launch) (dC : Nat → ClassId) (dI : Nat → Nat → Nat) (h : Nat → Nat) (cy : Nat → ClassId) (fu : Nat) (σ : SX) (x1 : Int32) (P : Int32 → Prop) (hF : wp_X0_lineOf fu σ x1 P) : Met l yX0_lineOf (ws_ yX0_lineOf cX0_lineOf 3 (some .int)) ({ frames := 1, cells := 0, slots := 0, locals := 21 } : Room) (va_Pc [.ref (h 0), .int x1] (fun U => va_P (dC, dI) classes (wB h cy σ) U.heap ∧ kwX dC dI cy U)) (vp_Si P) 0 0 (fun _ => False) := by
  refine Met.ofCx (own := RX0) (by decide) rfl (Nat.le_of_ble_eq_true rfl) ?_
  intro p e s m below meth c hC hv ls hl
  obtain ⟨hx, hb, hr, hml, hown, hts, hlocks⟩ := hC
  have hl : lv_has ls 3 [(0, .ref (h 0)), (1, .int x1)] := hl
  obtain ⟨hP, hK⟩ := hv
  unfold wp_X0_lineOf at hF
  refine lv_iconst (v := 0) hx hb dX0_lineOf_0 (by decide) ?_
  refine lv_istore_n (lv' := [(2, .int 0), (0, .ref (h 0)), (1, .int x1)]) hx hb dX0_lineOf_1 rfl hl (by decide) rfl (fun ls hl => ?_)
  have hX2 : (P (-1)) → ∀ (ls : Array Slot), lv_has ls 3 [] → W p l e ({ frames := 1, cells := 0, slots := 0, locals := 21 } : Room) s m ([.ref (h 0), .int x1] : List Value).toArray below meth c s.heap [] 0 0 (MQ below (vp_Si P) ([.ref (h 0), .int x1] : List Value).toArray s 0 0 (fun _ => False)) (F0 m 33 ls []) := by
    intro hF ls hl
    refine lv_iconst (v := (-1)) hx hb dX0_lineOf_33 (by decide) ?_
    exact W.iret (v := (-1)) hx hb hr (fun t ht hW => ⟨(-1), rfl, hF, ht⟩) (fun q hq => absurd hq List.not_mem_nil) dX0_lineOf_34
  have hL2 : ∀ (K2 : Prop), (K2 → ∀ (ls : Array Slot), lv_has ls 3 [] → W p l e ({ frames := 1, cells := 0, slots := 0, locals := 21 } : Room) s m ([.ref (h 0), .int x1] : List Value).toArray below meth c s.heap [] 0 0 (MQ below (vp_Si P) ([.ref (h 0), .int x1] : List Value).toArray s 0 0 (fun _ => False)) (F0 m 33 ls [])) → ∀ (nn : Nat), ∀ (v2_2 : Int32), wp_X0_lineOf_L2 σ x1 P K2 nn v2_2 → ∀ (ls : Array Slot), lv_has ls 3 [(2, .int v2_2), (0, .ref (h 0)), (1, .int x1)] → W p l e ({ frames := 1, cells := 0, slots := 0, locals := 21 } : Room) s m ([.ref (h 0), .int x1] : List Value).toArray below meth c s.heap [] 0 0 (MQ below (vp_Si P) ([.ref (h 0), .int x1] : List Value).toArray s 0 0 (fun _ => False)) (F0 m 2 ls []) := by
    intro K2 hX2 nn
    induction nn with
    | zero =>
      intro v2_2 hF
      exact hF.elim
    | succ nn ih =>
      intro v2_2 hF ls hl
      obtain ⟨rec2, hrec⟩ : ∃ z : Int32 → Prop, z = wp_X0_lineOf_L2 σ x1 P K2 nn := ⟨_, rfl⟩
      have hF : wp_X0_lineOf_B2 σ x1 P K2 rec2 v2_2 := by rw [hrec]; exact hF
      rw [← hrec] at ih
      clear hrec
      unfold wp_X0_lineOf_B2 at hF
      refine lv_iload_n hx hb dX0_lineOf_2 rfl (lv_at hl 0 rfl) ?_
      refine lv_aload_n hx hb dX0_lineOf_3 rfl (lv_at hl 1 rfl) ?_
      refine va_get (D := (dC, dI)) (ci := 0) (v := .ref (h 4)) (C := RX0) (T := TX0) (N := 8) hx hb hts in_X0 hown hK.1 hP 0 rfl rfl 4 (by decide) (hts _ q69) (fun _ h9 => h9) rfl dX0_lineOf_4 ?_
      have hPc := hP.sub (ws' := wR (h 4) (h 5) cy 104 (σ.2.1 2) (σ.1 3)) [4, 5] rfl
      refine cpVi (q0 := 0) (As := []) (rest := [.int v2_2]) ⟨hx, hb, hr, hml, hown, hts, hlocks⟩ hK hPc rfl rfl (m_X1_size l dC dI (h 4) (h 5) cy 104 (σ.2.1 2) (σ.1 3)  _ hF) k_X1_size q168 ⟨rfl, rfl⟩ ⟨Nat.le_of_ble_eq_true rfl, Nat.le_of_ble_eq_true rfl⟩ hl.1 rfl rfl (Nat.le_of_ble_eq_true rfl) dX0_lineOf_7 ⟨Nat.le_of_ble_eq_true rfl, Nat.le_of_ble_eq_true rfl⟩ (fun r7 hF => ?_)
      refine lv_icmp_ge (tgt := 33) hx hb dX0_lineOf_10 (by decide) (fun cz => ?_) (fun cz => ?_)
      · have hF := hF.1 cz
        exact hX2 hF _ (lv_sub hl [] rfl)
      · have hF := hF.2 cz
        refine lv_aload_n hx hb dX0_lineOf_13 rfl (lv_at hl 1 rfl) ?_
        refine va_get (D := (dC, dI)) (ci := 0) (v := .ref (h 4)) (C := RX0) (T := TX0) (N := 8) hx hb hts in_X0 hown hK.1 hP 0 rfl rfl 4 (by decide) (hts _ q69) (fun _ h9 => h9) rfl dX0_lineOf_14 ?_
        refine lv_iload_n hx hb dX0_lineOf_17 rfl (lv_at hl 0 rfl) ?_
        have hPc := hP.sub (ws' := wR (h 4) (h 5) cy 104 (σ.2.1 2) (σ.1 3)) [4, 5] rfl
        refine cpVi (q0 := 0) (As := [.int v2_2]) (rest := []) ⟨hx, hb, hr, hml, hown, hts, hlocks⟩ hK hPc rfl rfl (m_X1_at l dC dI (h 4) (h 5) cy 104 (σ.2.1 2) (σ.1 3) v2_2 _ hF) k_X1_at q180 ⟨rfl, rfl⟩ ⟨Nat.le_of_ble_eq_true rfl, Nat.le_of_ble_eq_true rfl⟩ hl.1 rfl rfl (Nat.le_of_ble_eq_true rfl) dX0_lineOf_18 ⟨Nat.le_of_ble_eq_true rfl, Nat.le_of_ble_eq_true rfl⟩ (fun r18 hF => ?_)
        refine lv_iload_n hx hb dX0_lineOf_21 rfl (lv_at hl 2 rfl) ?_
        refine lv_icmp_ne (tgt := 27) hx hb dX0_lineOf_22 (by decide) (fun cz => ?_) (fun cz => ?_)
        · have hF := hF.1 cz
          refine lv_iinc (v := v2_2 + 1) (lv' := [(2, .int (v2_2 + 1)), (0, .ref (h 0)), (1, .int x1)]) hx hb dX0_lineOf_27 hl (k := 0) rfl (by rfl) (by decide) rfl (fun ls hl => ?_)
          refine lv_goto (tgt := 2) hx hb dX0_lineOf_30 (by decide) ?_
          exact ih (v2_2 + 1) hF _ (lv_sub hl [0, 1, 2] rfl)
        · have hF := hF.2 cz
          refine lv_iload_n hx hb dX0_lineOf_25 rfl (lv_at hl 0 rfl) ?_
          exact W.iret (v := v2_2) hx hb hr (fun t ht hW => ⟨v2_2, rfl, hF, ht⟩) (fun q hq => absurd hq List.not_mem_nil) dX0_lineOf_26
  exact hL2 _ hX2 fu 0 hF _ (lv_sub hl [0, 1, 2] rfl)
theorem dX0_open_0 : decode cX0_open 0 = .ok (.iload_n 1, 1) := by decide +kernel
theorem dX0_open_1 : decode cX0_open 1 = .ok (.ifCond .lt 35, 3) := by decide +kernel
theorem dX0_open_4 : decode cX0_open 4 = .ok (.iload_n 1, 1) := by decide +kernel
theorem dX0_open_5 : decode cX0_open 5 = .ok (.aload_n 0, 1) := by decide +kernel
theorem dX0_open_6 : decode cX0_open 6 = .ok (.getfield 15, 3) := by decide +kernel
theorem dX0_open_9 : decode cX0_open 9 = .ok (.arraylength, 1) := by decide +kernel
theorem dX0_open_10 : decode cX0_open 10 = .ok (.if_icmp .ge 26, 3) := by decide +kernel
theorem dX0_open_13 : decode cX0_open 13 = .ok (.aload_n 0, 1) := by decide +kernel
theorem dX0_open_14 : decode cX0_open 14 = .ok (.getfield 15, 3) := by decide +kernel
theorem dX0_open_17 : decode cX0_open 17 = .ok (.iload_n 1, 1) := by decide +kernel
theorem dX0_open_18 : decode cX0_open 18 = .ok (.iconst 0, 1) := by decide +kernel
theorem dX0_open_19 : decode cX0_open 19 = .ok (.iastore, 1) := by decide +kernel
theorem dX0_open_20 : decode cX0_open 20 = .ok (.aload_n 0, 1) := by decide +kernel
theorem dX0_open_21 : decode cX0_open 21 = .ok (.dup, 1) := by decide +kernel
theorem dX0_open_22 : decode cX0_open 22 = .ok (.getfield 43, 3) := by decide +kernel
theorem dX0_open_25 : decode cX0_open 25 = .ok (.iconst 1, 1) := by decide +kernel
theorem dX0_open_26 : decode cX0_open 26 = .ok (.iload_n 1, 1) := by decide +kernel
theorem dX0_open_27 : decode cX0_open 27 = .ok (.ishl, 1) := by decide +kernel
theorem dX0_open_28 : decode cX0_open 28 = .ok (.ior, 1) := by decide +kernel
theorem dX0_open_29 : decode cX0_open 29 = .ok (.putfield 43, 3) := by decide +kernel
theorem dX0_open_32 : decode cX0_open 32 = .ok (.aload_n 0, 1) := by decide +kernel
theorem dX0_open_33 : decode cX0_open 33 = .ok (.invokevirtual 47, 3) := by decide +kernel
theorem dX0_open_36 : decode cX0_open 36 = .ok (.return_, 1) := by decide +kernel
def wp_X0_open (fu : Nat) (σ : SX) (x1 : Int32) (P : SX → Prop) : Prop := ((x1 < 0 → (P σ)) ∧ (¬ x1 < 0 → ((25 ≤ x1 → (P σ)) ∧ (¬ 25 ≤ x1 → (vp_in x1 25 ∧ (wp_X0_layHoles fu (sI (sA σ 0 (upd (σ.2.1 0) x1.toNatClampNeg 0)) 1 ((σ.1 1) ||| ((1 : Int32) <<< (x1 &&& 31))))  (fun s33 => (P s33))))))))
theorem k_X0_open : KV RX0 yX0_open cX0_open 2 none 1 := ⟨q546, q547, q2, q548, by decide +kernel⟩
set_option maxHeartbeats 4000000 in
set_option maxRecDepth 100000 in
theorem m_X0_open (l : Launch) (dC : Nat → ClassId) (dI : Nat → Nat → Nat) (h : Nat → Nat) (cy : Nat → ClassId) (sz : Nat) (fu : Nat) (σ : SX) (x1 : Int32) (P : SX → Prop) (hF : wp_X0_open fu σ x1 P) : Met l yX0_open (ws_ yX0_open cX0_open 2 none) ({ frames := 5, cells := 0, slots := 0, locals := 110 } : Room) (va_Pc [.ref (h 0), .int x1] (fun U => U.heap.size = sz ∧ va_P (dC, dI) classes (wB h cy σ) U.heap ∧ kwX dC dI cy U ∧ va_D (fun _ => True) (wB h cy σ))) (va_Qv (fun u => P u) (fun (u : SX) t => va_P (dC, dI) classes (wB h cy u) t.heap ∧ kwX dC dI cy t ∧ va_D (va_A (wB h cy σ) sz) (wB h cy u)) (va_A (wB h cy σ) sz)) 0 0 (va_A (wB h cy σ) sz) := by
  refine Met.ofCx (own := RX0) (by decide) rfl (Nat.le_of_ble_eq_true rfl) ?_
  intro p e s m below meth c hC hv ls hl
  obtain ⟨hx, hb, hr, hml, hown, hts, hlocks⟩ := hC
  have hl : lv_has ls 2 [(0, .ref (h 0)), (1, .int x1)] := hl
  obtain ⟨hsz, hP, hK, hD0⟩ := hv
  subst hsz
  have hD := hD0.self (sz := s.heap.size)
  generalize hAe : va_A (wB h cy σ) s.heap.size = A at hD ⊢
  have hA : ∀ q : Nat, s.heap.size ≤ q → A q := fun q h => by rw [← hAe]; exact Or.inr h
  have hS : va_S A s.heap s.heap [] := va_S.rf
  clear hAe
  unfold wp_X0_open at hF
  refine lv_iload_n hx hb dX0_open_0 rfl (lv_at hl 1 rfl) ?_
  refine lv_if_lt (tgt := 36) hx hb dX0_open_1 (by decide) (fun cz => ?_) (fun cz => ?_)
  · have hF := hF.1 cz
    exact W.vret hx hb hr (fun t ht hW => ⟨⟨σ, rfl, hF, by rw [ht]; exact hP, hK.warm hW, hD⟩, hS.F ht⟩) hS.2.2 dX0_open_36
  · have hF := hF.2 cz
    refine lv_iload_n hx hb dX0_open_4 rfl (lv_at hl 1 rfl) ?_
    refine lv_aload_n hx hb dX0_open_5 rfl (lv_at hl 0 rfl) ?_
    refine va_get (D := (dC, dI)) (ci := 0) (v := .ref (h 1)) (C := RX0) (T := TX0) (N := 8) hx hb hts in_X0 hown hK.1 hP 0 rfl rfl 2 (by decide) (hts _ q67) (fun _ h9 => h9) rfl dX0_open_6 ?_
    refine va_alen hx hb hK.1 hP 1 0 rfl rfl (v := 25) (by rfl) dX0_open_9 ?_
    refine lv_icmp_ge (tgt := 36) hx hb dX0_open_10 (by decide) (fun cz => ?_) (fun cz => ?_)
    · have hF := hF.1 cz
      exact W.vret hx hb hr (fun t ht hW => ⟨⟨σ, rfl, hF, by rw [ht]; exact hP, hK.warm hW, hD⟩, hS.F ht⟩) hS.2.2 dX0_open_36
    · have hF := hF.2 cz
      refine lv_aload_n hx hb dX0_open_13 rfl (lv_at hl 0 rfl) ?_
      refine va_get (D := (dC, dI)) (ci := 0) (v := .ref (h 1)) (C := RX0) (T := TX0) (N := 8) hx hb hts in_X0 hown hK.1 hP 0 rfl rfl 2 (by decide) (hts _ q67) (fun _ h9 => h9) rfl dX0_open_14 ?_
      refine lv_iload_n hx hb dX0_open_17 rfl (lv_at hl 1 rfl) ?_
      refine lv_iconst (v := 0) hx hb dX0_open_18 (by decide) ?_
      have hI := hF.1
      have hF := hF.2
      refine va_iast hx hb hK.1 hP hD hS 1 0 rfl rfl hI dX0_open_19 (fun H locs hP hD hS => ?_)
      have hP : va_P (dC, dI) classes (wB h cy (sA σ 0 (upd (σ.2.1 0) x1.toNatClampNeg 0))) H := hP
      have hD : va_D A (wB h cy (sA σ 0 (upd (σ.2.1 0) x1.toNatClampNeg 0))) := hD
      refine lv_aload_n hx hb dX0_open_20 rfl (lv_at hl 0 rfl) ?_
      refine lv_dup hx hb dX0_open_21 rfl ?_
      refine va_get (D := (dC, dI)) (ci := 0) (v := .int (σ.1 1)) (C := RX0) (T := TX0) (N := 8) hx hb hts in_X0 hown hK.1 hP 0 rfl rfl 1 (by decide) (hts _ q66) (fun _ h9 => h9) rfl dX0_open_22 ?_
      refine lv_iconst (v := 1) hx hb dX0_open_25 (by decide) ?_
      refine lv_iload_n hx hb dX0_open_26 rfl (lv_at hl 1 rfl) ?_
      refine lv_ishl hx hb dX0_open_27 ?_
      refine lv_ior hx hb dX0_open_28 ?_
      refine va_put (D := (dC, dI)) (ci := 0) (v := .int ((σ.1 1) ||| ((1 : Int32) <<< (x1 &&& 31)))) (ty := .int) (C := RX0) (T := TX0) (N := 8) hx hb hts in_X0 tyX0 tyX0_ok nmX0 hown hK.1 hP hD hS 0 rfl rfl 1 (by decide) (hts _ q66) (fun _ h9 => h9) rfl (by decide +kernel) rfl rfl (Nat.le_of_ble_eq_true rfl) dX0_open_29 (fun H locs hP hD hS => ?_)
      have hP : va_P (dC, dI) classes (wB h cy (sI (sA σ 0 (upd (σ.2.1 0) x1.toNatClampNeg 0)) 1 ((σ.1 1) ||| ((1 : Int32) <<< (x1 &&& 31))))) H := hP
      have hD : va_D A (wB h cy (sI (sA σ 0 (upd (σ.2.1 0) x1.toNatClampNeg 0)) 1 ((σ.1 1) ||| ((1 : Int32) <<< (x1 &&& 31))))) := hD
      refine lv_aload_n hx hb dX0_open_32 rfl (lv_at hl 0 rfl) ?_
      have hFc := va_free (wc := wB h cy (sI (sA σ 0 (upd (σ.2.1 0) x1.toNatClampNeg 0)) 1 ((σ.1 1) ||| ((1 : Int32) <<< (x1 &&& 31))))) hD hS hA [0, 1, 2, 3, 4, 5, 6, 7, 8, 9, 10, 11] rfl
      refine cwVv (q0 := 0) (As := []) (rest := []) ⟨hx, hb, hr, hml, hown, hts, hlocks⟩ hK hP hD rfl rfl hS hFc (m_X0_layHoles l dC dI h cy _ fu (sI (sA σ 0 (upd (σ.2.1 0) x1.toNatClampNeg 0)) 1 ((σ.1 1) ||| ((1 : Int32) <<< (x1 &&& 31))))  _ hF) k_X0_layHoles q549 ⟨rfl, rfl⟩ ⟨Nat.le_of_ble_eq_true rfl, Nat.le_of_ble_eq_true rfl⟩ hl.1 rfl rfl (Nat.le_of_ble_eq_true rfl) dX0_open_33 ⟨Nat.le_of_ble_eq_true rfl, Nat.le_of_ble_eq_true rfl⟩ (fun u H1 locs hF hP1 hD1 hk1 hS => ?_)
      obtain ⟨s33, rfl⟩ : ∃ z, z = u := ⟨_, rfl⟩
      have hP := hP1
      have hD := hD1.weaken (fun _ q _ h => hFc q.1 h)
      generalize H1 = H at hP hS ⊢
      have hP : va_P (dC, dI) classes (wB h cy s33) H := hP
      have hD : va_D A (wB h cy s33) := hD
      exact W.vret hx hb hr (fun t ht hW => ⟨⟨s33, rfl, hF, by rw [ht]; exact hP, hK.warm hW, hD⟩, hS.F ht⟩) hS.2.2 dX0_open_36
theorem dX0_turnedPegs_0 : decode cX0_turnedPegs 0 = .ok (.iconst 0, 1) := by decide +kernel
theorem dX0_turnedPegs_1 : decode cX0_turnedPegs 1 = .ok (.istore_n 3, 1) := by decide +kernel
theorem dX0_turnedPegs_2 : decode cX0_turnedPegs 2 = .ok (.iconst 0, 1) := by decide +kernel
theorem dX0_turnedPegs_3 : decode cX0_turnedPegs 3 = .ok (.istore 4, 2) := by decide +kernel
theorem dX0_turnedPegs_5 : decode cX0_turnedPegs 5 = .ok (.iload 4, 2) := by decide +kernel
theorem dX0_turnedPegs_7 : decode cX0_turnedPegs 7 = .ok (.aload_n 0, 1) := by decide +kernel
theorem dX0_turnedPegs_8 : decode cX0_turnedPegs 8 = .ok (.getfield 24, 3) := by decide +kernel
theorem dX0_turnedPegs_11 : decode cX0_turnedPegs 11 = .ok (.invokevirtual 60, 3) := by decide +kernel
theorem dX0_turnedPegs_14 : decode cX0_turnedPegs 14 = .ok (.if_icmp .ge 41, 3) := by decide +kernel
theorem dX0_turnedPegs_17 : decode cX0_turnedPegs 17 = .ok (.iload_n 1, 1) := by decide +kernel
theorem dX0_turnedPegs_18 : decode cX0_turnedPegs 18 = .ok (.iload 4, 2) := by decide +kernel
theorem dX0_turnedPegs_20 : decode cX0_turnedPegs 20 = .ok (.ishr, 1) := by decide +kernel
theorem dX0_turnedPegs_21 : decode cX0_turnedPegs 21 = .ok (.iconst 1, 1) := by decide +kernel
theorem dX0_turnedPegs_22 : decode cX0_turnedPegs 22 = .ok (.iand, 1) := by decide +kernel
theorem dX0_turnedPegs_23 : decode cX0_turnedPegs 23 = .ok (.iconst 1, 1) := by decide +kernel
theorem dX0_turnedPegs_24 : decode cX0_turnedPegs 24 = .ok (.if_icmp .ne 25, 3) := by decide +kernel
theorem dX0_turnedPegs_27 : decode cX0_turnedPegs 27 = .ok (.iload_n 3, 1) := by decide +kernel
theorem dX0_turnedPegs_28 : decode cX0_turnedPegs 28 = .ok (.iconst 1, 1) := by decide +kernel
theorem dX0_turnedPegs_29 : decode cX0_turnedPegs 29 = .ok (.aload_n 0, 1) := by decide +kernel
theorem dX0_turnedPegs_30 : decode cX0_turnedPegs 30 = .ok (.aload_n 0, 1) := by decide +kernel
theorem dX0_turnedPegs_31 : decode cX0_turnedPegs 31 = .ok (.getfield 24, 3) := by decide +kernel
theorem dX0_turnedPegs_34 : decode cX0_turnedPegs 34 = .ok (.iload 4, 2) := by decide +kernel
theorem dX0_turnedPegs_36 : decode cX0_turnedPegs 36 = .ok (.invokevirtual 64, 3) := by decide +kernel
theorem dX0_turnedPegs_39 : decode cX0_turnedPegs 39 = .ok (.iload_n 2, 1) := by decide +kernel
theorem dX0_turnedPegs_40 : decode cX0_turnedPegs 40 = .ok (.invokestatic 96, 3) := by decide +kernel
theorem dX0_turnedPegs_43 : decode cX0_turnedPegs 43 = .ok (.invokevirtual 76, 3) := by decide +kernel
theorem dX0_turnedPegs_46 : decode cX0_turnedPegs 46 = .ok (.ishl, 1) := by decide +kernel
theorem dX0_turnedPegs_47 : decode cX0_turnedPegs 47 = .ok (.ior, 1) := by decide +kernel
theorem dX0_turnedPegs_48 : decode cX0_turnedPegs 48 = .ok (.istore_n 3, 1) := by decide +kernel
theorem dX0_turnedPegs_49 : decode cX0_turnedPegs 49 = .ok (.iinc 4 1, 3) := by decide +kernel
theorem dX0_turnedPegs_52 : decode cX0_turnedPegs 52 = .ok (.goto (-47), 3) := by decide +kernel
theorem dX0_turnedPegs_55 : decode cX0_turnedPegs 55 = .ok (.iload_n 3, 1) := by decide +kernel
theorem dX0_turnedPegs_56 : decode cX0_turnedPegs 56 = .ok (.ireturn, 1) := by decide +kernel
def wp_X0_turnedPegs_J49 (rec5 : Int32 → Int32 → Prop) (v4_5 : Int32) (v3_49 : Int32) : Prop := (rec5 (v4_5 + 1) v3_49)
def wp_X0_turnedPegs_B5 (σ : SX) (x1 : Int32) (x2 : Int32) (K5 : Int32 → Prop) (rec5 : Int32 → Int32 → Prop) (v4_5 : Int32) (v3_5 : Int32) : Prop := (wp_X1_size 13 (σ.2.1 1) (σ.1 2)  (fun r11 => ((r11 ≤ v4_5 → (K5 v3_5)) ∧ (¬ r11 ≤ v4_5 → ((¬ ((x1 >>> (v4_5 &&& 31)) &&& 1) = 1 → (wp_X0_turnedPegs_J49 rec5 v4_5 v3_5)) ∧ (((x1 >>> (v4_5 &&& 31)) &&& 1) = 1 → (wp_X1_at 13 (σ.2.1 1) (σ.1 2) v4_5 (fun r36 => (wp_X0_turned r36 x2 (fun r40 => (wp_X0_numberOf σ r40 (fun r43 => (wp_X0_turnedPegs_J49 rec5 v4_5 (v3_5 ||| ((1 : Int32) <<< (r43 &&& 31))))))))))))))))
def wp_X0_turnedPegs_L5 (σ : SX) (x1 : Int32) (x2 : Int32) (K5 : Int32 → Prop) : Nat → Int32 → Int32 → Prop
  | 0, _, _ => False
  | nn + 1, v4_5, v3_5 => wp_X0_turnedPegs_B5 σ x1 x2 K5 (wp_X0_turnedPegs_L5 σ x1 x2 K5 nn) v4_5 v3_5
def wp_X0_turnedPegs (fu : Nat) (σ : SX) (x1 : Int32) (x2 : Int32) (P : Int32 → Prop) : Prop := (wp_X0_turnedPegs_L5 σ x1 x2 (fun (v3_55 : Int32) => (P v3_55)) fu 0 0)
theorem k_X0_turnedPegs : KV RX0 yX0_turnedPegs cX0_turnedPegs 5 (some .int) 2 := ⟨q711, q712, q2, q713, by decide +kernel⟩
set_option maxHeartbeats 4000000 in
set_option maxRecDepth 100000 in
theorem m_X0_turnedPegs (l : Launch) (dC : Nat → ClassId) (dI : Nat → Nat → Nat) (h : Nat → Nat) (cy : Nat → ClassId) (fu : Nat) (σ : SX) (x1 : Int32) (x2 : Int32) (P : Int32 → Prop) (hF : wp_X0_turnedPegs fu σ x1 x2 P) : Met l yX0_turnedPegs (ws_ yX0_turnedPegs cX0_turnedPegs 5 (some .int)) ({ frames := 2, cells := 0, slots := 0, locals := 42 } : Room) (va_Pc [.ref (h 0), .int x1, .int x2] (fun U => va_P (dC, dI) classes (wB h cy σ) U.heap ∧ kwX dC dI cy U)) (vp_Si P) 0 0 (fun _ => False) := by
  refine Met.ofCx (own := RX0) (by decide) rfl (Nat.le_of_ble_eq_true rfl) ?_
  intro p e s m below meth c hC hv ls hl
  obtain ⟨hx, hb, hr, hml, hown, hts, hlocks⟩ := hC
  have hl : lv_has ls 5 [(0, .ref (h 0)), (1, .int x1), (2, .int x2)] := hl
  obtain ⟨hP, hK⟩ := hv
  unfold wp_X0_turnedPegs at hF
  refine lv_iconst (v := 0) hx hb dX0_turnedPegs_0 (by decide) ?_
  refine lv_istore_n (lv' := [(3, .int 0), (0, .ref (h 0)), (1, .int x1), (2, .int x2)]) hx hb dX0_turnedPegs_1 rfl hl (by decide) rfl (fun ls hl => ?_)
  refine lv_iconst (v := 0) hx hb dX0_turnedPegs_2 (by decide) ?_
  refine lv_istore (lv' := [(4, .int 0), (3, .int 0), (0, .ref (h 0)), (1, .int x1), (2, .int x2)]) hx hb dX0_turnedPegs_3 hl (by decide) rfl (fun ls hl => ?_)
  have hX5 : ∀ (v3_55 : Int32), (fun (v3_55 : Int32) => (P v3_55)) v3_55 → ∀ (ls : Array Slot), lv_has ls 5 [(3, .int v3_55)] → W p l e ({ frames := 2, cells := 0, slots := 0, locals := 42 } : Room) s m ([.ref (h 0), .int x1, .int x2] : List Value).toArray below meth c s.heap [] 0 0 (MQ below (vp_Si P) ([.ref (h 0), .int x1, .int x2] : List Value).toArray s 0 0 (fun _ => False)) (F0 m 55 ls []) := by
    intro v3_55 hF ls hl
    refine lv_iload_n hx hb dX0_turnedPegs_55 rfl (lv_at hl 0 rfl) ?_
    exact W.iret (v := v3_55) hx hb hr (fun t ht hW => ⟨v3_55, rfl, hF, ht⟩) (fun q hq => absurd hq List.not_mem_nil) dX0_turnedPegs_56
  have hL5 : ∀ (K5 : Int32 → Prop), (∀ (v3_55 : Int32), K5 v3_55 → ∀ (ls : Array Slot), lv_has ls 5 [(3, .int v3_55)] → W p l e ({ frames := 2, cells := 0, slots := 0, locals := 42 } : Room) s m ([.ref (h 0), .int x1, .int x2] : List Value).toArray below meth c s.heap [] 0 0 (MQ below (vp_Si P) ([.ref (h 0), .int x1, .int x2] : List Value).toArray s 0 0 (fun _ => False)) (F0 m 55 ls [])) → ∀ (nn : Nat), ∀ (v4_5 : Int32), ∀ (v3_5 : Int32), wp_X0_turnedPegs_L5 σ x1 x2 K5 nn v4_5 v3_5 → ∀ (ls : Array Slot), lv_has ls 5 [(4, .int v4_5), (3, .int v3_5), (0, .ref (h 0)), (1, .int x1), (2, .int x2)] → W p l e ({ frames := 2, cells := 0, slots := 0, locals := 42 } : Room) s m ([.ref (h 0), .int x1, .int x2] : List Value).toArray below meth c s.heap [] 0 0 (MQ below (vp_Si P) ([.ref (h 0), .int x1, .int x2] : List Value).toArray s 0 0 (fun _ => False)) (F0 m 5 ls []) := by
    intro K5 hX5 nn
    induction nn with
    | zero =>
      intro v4_5 v3_5 hF
      exact hF.elim
    | succ nn ih =>
      intro v4_5 v3_5 hF ls hl
      obtain ⟨rec5, hrec⟩ : ∃ z : Int32 → Int32 → Prop, z = wp_X0_turnedPegs_L5 σ x1 x2 K5 nn := ⟨_, rfl⟩
      have hF : wp_X0_turnedPegs_B5 σ x1 x2 K5 rec5 v4_5 v3_5 := by rw [hrec]; exact hF
      rw [← hrec] at ih
      clear hrec
      unfold wp_X0_turnedPegs_B5 at hF
      refine lv_iload hx hb dX0_turnedPegs_5 (lv_at hl 0 rfl) ?_
      refine lv_aload_n hx hb dX0_turnedPegs_7 rfl (lv_at hl 2 rfl) ?_
      refine va_get (D := (dC, dI)) (ci := 0) (v := .ref (h 2)) (C := RX0) (T := TX0) (N := 8) hx hb hts in_X0 hown hK.1 hP 0 rfl rfl 3 (by decide) (hts _ q68) (fun _ h9 => h9) rfl dX0_turnedPegs_8 ?_
      have hPc := hP.sub (ws' := wR (h 2) (h 3) cy 13 (σ.2.1 1) (σ.1 2)) [2, 3] rfl
      refine cpVi (q0 := 0) (As := []) (rest := [.int v4_5]) ⟨hx, hb, hr, hml, hown, hts, hlocks⟩ hK hPc rfl rfl (m_X1_size l dC dI (h 2) (h 3) cy 13 (σ.2.1 1) (σ.1 2)  _ hF) k_X1_size q168 ⟨rfl, rfl⟩ ⟨Nat.le_of_ble_eq_true rfl, Nat.le_of_ble_eq_true rfl⟩ hl.1 rfl rfl (Nat.le_of_ble_eq_true rfl) dX0_turnedPegs_11 ⟨Nat.le_of_ble_eq_true rfl, Nat.le_of_ble_eq_true rfl⟩ (fun r11 hF => ?_)
      refine lv_icmp_ge (tgt := 55) hx hb dX0_turnedPegs_14 (by decide) (fun cz => ?_) (fun cz => ?_)
      · have hF := hF.1 cz
        exact hX5 v3_5 hF _ (lv_sub hl [1] rfl)
      · have hF := hF.2 cz
        refine lv_iload_n hx hb dX0_turnedPegs_17 rfl (lv_at hl 3 rfl) ?_
        refine lv_iload hx hb dX0_turnedPegs_18 (lv_at hl 0 rfl) ?_
        refine lv_ishr hx hb dX0_turnedPegs_20 ?_
        refine lv_iconst (v := 1) hx hb dX0_turnedPegs_21 (by decide) ?_
        refine lv_iand hx hb dX0_turnedPegs_22 ?_
        refine lv_iconst (v := 1) hx hb dX0_turnedPegs_23 (by decide) ?_
        have hJ49 : ∀ (v3_49 : Int32), wp_X0_turnedPegs_J49 rec5 v4_5 v3_49 → ∀ (ls : Array Slot), lv_has ls 5 [(4, .int v4_5), (3, .int v3_49), (0, .ref (h 0)), (1, .int x1), (2, .int x2)] → W p l e ({ frames := 2, cells := 0, slots := 0, locals := 42 } : Room) s m ([.ref (h 0), .int x1, .int x2] : List Value).toArray below meth c s.heap [] 0 0 (MQ below (vp_Si P) ([.ref (h 0), .int x1, .int x2] : List Value).toArray s 0 0 (fun _ => False)) (F0 m 49 ls []) := by
          intro v3_49 hF ls hl
          unfold wp_X0_turnedPegs_J49 at hF
          refine lv_iinc (v := v4_5 + 1) (lv' := [(4, .int (v4_5 + 1)), (3, .int v3_49), (0, .ref (h 0)), (1, .int x1), (2, .int x2)]) hx hb dX0_turnedPegs_49 hl (k := 0) rfl (by rfl) (by decide) rfl (fun ls hl => ?_)
          refine lv_goto (tgt := 5) hx hb dX0_turnedPegs_52 (by decide) ?_
          exact ih (v4_5 + 1) v3_49 hF _ (lv_sub hl [0, 1, 2, 3, 4] rfl)
        refine lv_icmp_ne (tgt := 49) hx hb dX0_turnedPegs_24 (by decide) (fun cz => ?_) (fun cz => ?_)
        · have hF := hF.1 cz
          exact hJ49 v3_5 hF _ (lv_sub hl [0, 1, 2, 3, 4] rfl)
        · have hF := hF.2 cz
          refine lv_iload_n hx hb dX0_turnedPegs_27 rfl (lv_at hl 1 rfl) ?_
          refine lv_iconst (v := 1) hx hb dX0_turnedPegs_28 (by decide) ?_
          refine lv_aload_n hx hb dX0_turnedPegs_29 rfl (lv_at hl 2 rfl) ?_
          refine lv_aload_n hx hb dX0_turnedPegs_30 rfl (lv_at hl 2 rfl) ?_
          refine va_get (D := (dC, dI)) (ci := 0) (v := .ref (h 2)) (C := RX0) (T := TX0) (N := 8) hx hb hts in_X0 hown hK.1 hP 0 rfl rfl 3 (by decide) (hts _ q68) (fun _ h9 => h9) rfl dX0_turnedPegs_31 ?_
          refine lv_iload hx hb dX0_turnedPegs_34 (lv_at hl 0 rfl) ?_
          have hPc := hP.sub (ws' := wR (h 2) (h 3) cy 13 (σ.2.1 1) (σ.1 2)) [2, 3] rfl
          refine cpVi (q0 := 0) (As := [.int v4_5]) (rest := [.ref (h 0), .int 1, .int v3_5]) ⟨hx, hb, hr, hml, hown, hts, hlocks⟩ hK hPc rfl rfl (m_X1_at l dC dI (h 2) (h 3) cy 13 (σ.2.1 1) (σ.1 2) v4_5 _ hF) k_X1_at q180 ⟨rfl, rfl⟩ ⟨Nat.le_of_ble_eq_true rfl, Nat.le_of_ble_eq_true rfl⟩ hl.1 rfl rfl (Nat.le_of_ble_eq_true rfl) dX0_turnedPegs_36 ⟨Nat.le_of_ble_eq_true rfl, Nat.le_of_ble_eq_true rfl⟩ (fun r36 hF => ?_)
          refine lv_iload_n hx hb dX0_turnedPegs_39 rfl (lv_at hl 4 rfl) ?_
          refine cpSi (As := [.int r36, .int x2]) (rest := [.ref (h 0), .int 1, .int v3_5]) ⟨hx, hb, hr, hml, hown, hts, hlocks⟩ (m_X0_turned l r36 x2 _ hF) k_X0_turned q184 ⟨rfl, rfl⟩ ⟨Nat.le_of_ble_eq_true rfl, Nat.le_of_ble_eq_true rfl⟩ hl.1 rfl rfl (Nat.le_of_ble_eq_true rfl) dX0_turnedPegs_40 ⟨Nat.le_of_ble_eq_true rfl, Nat.le_of_ble_eq_true rfl⟩ (fun r40 hF => ?_)
          refine cpVi (q0 := 0) (As := [.int r40]) (rest := [.int 1, .int v3_5]) ⟨hx, hb, hr, hml, hown, hts, hlocks⟩ hK hP rfl rfl (m_X0_numberOf l dC dI h cy σ r40 _ hF) k_X0_numberOf q482 ⟨rfl, rfl⟩ ⟨Nat.le_of_ble_eq_true rfl, Nat.le_of_ble_eq_true rfl⟩ hl.1 rfl rfl (Nat.le_of_ble_eq_true rfl) dX0_turnedPegs_43 ⟨Nat.le_of_ble_eq_true rfl, Nat.le_of_ble_eq_true rfl⟩ (fun r43 hF => ?_)
          refine lv_ishl hx hb dX0_turnedPegs_46 ?_
          refine lv_ior hx hb dX0_turnedPegs_47 ?_
          refine lv_istore_n (lv' := [(3, .int (v3_5 ||| ((1 : Int32) <<< (r43 &&& 31)))), (4, .int v4_5), (0, .ref (h 0)), (1, .int x1), (2, .int x2)]) hx hb dX0_turnedPegs_48 rfl hl (by decide) rfl (fun ls hl => ?_)
          exact hJ49 (v3_5 ||| ((1 : Int32) <<< (r43 &&& 31))) hF _ (lv_sub hl [1, 0, 2, 3, 4] rfl)
  exact hL5 _ hX5 fu 0 0 hF _ (lv_sub hl [0, 1, 2, 3, 4] rfl)
theorem dX0_weightOfPegs_0 : decode cX0_weightOfPegs 0 = .ok (.iconst 0, 1) := by decide +kernel
theorem dX0_weightOfPegs_1 : decode cX0_weightOfPegs 1 = .ok (.istore_n 2, 1) := by decide +kernel
theorem dX0_weightOfPegs_2 : decode cX0_weightOfPegs 2 = .ok (.iconst 0, 1) := by decide +kernel
theorem dX0_weightOfPegs_3 : decode cX0_weightOfPegs 3 = .ok (.istore_n 3, 1) := by decide +kernel
theorem dX0_weightOfPegs_4 : decode cX0_weightOfPegs 4 = .ok (.iload_n 3, 1) := by decide +kernel
theorem dX0_weightOfPegs_5 : decode cX0_weightOfPegs 5 = .ok (.aload_n 0, 1) := by decide +kernel
theorem dX0_weightOfPegs_6 : decode cX0_weightOfPegs 6 = .ok (.getfield 24, 3) := by decide +kernel
theorem dX0_weightOfPegs_9 : decode cX0_weightOfPegs 9 = .ok (.invokevirtual 60, 3) := by decide +kernel
theorem dX0_weightOfPegs_12 : decode cX0_weightOfPegs 12 = .ok (.if_icmp .ge 26, 3) := by decide +kernel
theorem dX0_weightOfPegs_15 : decode cX0_weightOfPegs 15 = .ok (.iload_n 1, 1) := by decide +kernel
theorem dX0_weightOfPegs_16 : decode cX0_weightOfPegs 16 = .ok (.iload_n 3, 1) := by decide +kernel
theorem dX0_weightOfPegs_17 : decode cX0_weightOfPegs 17 = .ok (.ishr, 1) := by decide +kernel
theorem dX0_weightOfPegs_18 : decode cX0_weightOfPegs 18 = .ok (.iconst 1, 1) := by decide +kernel
theorem dX0_weightOfPegs_19 : decode cX0_weightOfPegs 19 = .ok (.iand, 1) := by decide +kernel
theorem dX0_weightOfPegs_20 : decode cX0_weightOfPegs 20 = .ok (.iconst 1, 1) := by decide +kernel
theorem dX0_weightOfPegs_21 : decode cX0_weightOfPegs 21 = .ok (.if_icmp .ne 11, 3) := by decide +kernel
theorem dX0_weightOfPegs_24 : decode cX0_weightOfPegs 24 = .ok (.iload_n 2, 1) := by decide +kernel
theorem dX0_weightOfPegs_25 : decode cX0_weightOfPegs 25 = .ok (.aload_n 0, 1) := by decide +kernel
theorem dX0_weightOfPegs_26 : decode cX0_weightOfPegs 26 = .ok (.iload_n 3, 1) := by decide +kernel
theorem dX0_weightOfPegs_27 : decode cX0_weightOfPegs 27 = .ok (.invokevirtual 99, 3) := by decide +kernel
theorem dX0_weightOfPegs_30 : decode cX0_weightOfPegs 30 = .ok (.iadd, 1) := by decide +kernel
theorem dX0_weightOfPegs_31 : decode cX0_weightOfPegs 31 = .ok (.istore_n 2, 1) := by decide +kernel
theorem dX0_weightOfPegs_32 : decode cX0_weightOfPegs 32 = .ok (.iinc 3 1, 3) := by decide +kernel
theorem dX0_weightOfPegs_35 : decode cX0_weightOfPegs 35 = .ok (.goto (-31), 3) := by decide +kernel
theorem dX0_weightOfPegs_38 : decode cX0_weightOfPegs 38 = .ok (.iload_n 2, 1) := by decide +kernel
theorem dX0_weightOfPegs_39 : decode cX0_weightOfPegs 39 = .ok (.ireturn, 1) := by decide +kernel
def wp_X0_weightOfPegs_J32 (rec4 : Int32 → Int32 → Prop) (v3_4 : Int32) (v2_32 : Int32) : Prop := (rec4 (v3_4 + 1) v2_32)
def wp_X0_weightOfPegs_B4 (σ : SX) (x1 : Int32) (K4 : Int32 → Prop) (rec4 : Int32 → Int32 → Prop) (v3_4 : Int32) (v2_4 : Int32) : Prop := (wp_X1_size 13 (σ.2.1 1) (σ.1 2)  (fun r9 => ((r9 ≤ v3_4 → (K4 v2_4)) ∧ (¬ r9 ≤ v3_4 → ((¬ ((x1 >>> (v3_4 &&& 31)) &&& 1) = 1 → (wp_X0_weightOfPegs_J32 rec4 v3_4 v2_4)) ∧ (((x1 >>> (v3_4 &&& 31)) &&& 1) = 1 → (wp_X0_weightOf σ v3_4 (fun r27 => (wp_X0_weightOfPegs_J32 rec4 v3_4 (v2_4 + r27))))))))))
def wp_X0_weightOfPegs_L4 (σ : SX) (x1 : Int32) (K4 : Int32 → Prop) : Nat → Int32 → Int32 → Prop
  | 0, _, _ => False
  | nn + 1, v3_4, v2_4 => wp_X0_weightOfPegs_B4 σ x1 K4 (wp_X0_weightOfPegs_L4 σ x1 K4 nn) v3_4 v2_4
def wp_X0_weightOfPegs (fu : Nat) (σ : SX) (x1 : Int32) (P : Int32 → Prop) : Prop := (wp_X0_weightOfPegs_L4 σ x1 (fun (v2_38 : Int32) => (P v2_38)) fu 0 0)
theorem k_X0_weightOfPegs : KV RX0 yX0_weightOfPegs cX0_weightOfPegs 4 (some .int) 1 := ⟨q297, q298, q2, q299, by decide +kernel⟩
set_option maxHeartbeats 4000000 in
set_option maxRecDepth 100000 in
theorem m_X0_weightOfPegs (l : Launch) (dC : Nat → ClassId) (dI : Nat → Nat → Nat) (h : Nat → Nat) (cy : Nat → ClassId) (fu : Nat) (σ : SX) (x1 : Int32) (P : Int32 → Prop) (hF : wp_X0_weightOfPegs fu σ x1 P) : Met l yX0_weightOfPegs (ws_ yX0_weightOfPegs cX0_weightOfPegs 4 (some .int)) ({ frames := 2, cells := 0, slots := 0, locals := 43 } : Room) (va_Pc [.ref (h 0), .int x1] (fun U => va_P (dC, dI) classes (wB h cy σ) U.heap ∧ kwX dC dI cy U)) (vp_Si P) 0 0 (fun _ => False) := by
  refine Met.ofCx (own := RX0) (by decide) rfl (Nat.le_of_ble_eq_true rfl) ?_
  intro p e s m below meth c hC hv ls hl
  obtain ⟨hx, hb, hr, hml, hown, hts, hlocks⟩ := hC
  have hl : lv_has ls 4 [(0, .ref (h 0)), (1, .int x1)] := hl
  obtain ⟨hP, hK⟩ := hv
  unfold wp_X0_weightOfPegs at hF
  refine lv_iconst (v := 0) hx hb dX0_weightOfPegs_0 (by decide) ?_
  refine lv_istore_n (lv' := [(2, .int 0), (0, .ref (h 0)), (1, .int x1)]) hx hb dX0_weightOfPegs_1 rfl hl (by decide) rfl (fun ls hl => ?_)
  refine lv_iconst (v := 0) hx hb dX0_weightOfPegs_2 (by decide) ?_
  refine lv_istore_n (lv' := [(3, .int 0), (2, .int 0), (0, .ref (h 0)), (1, .int x1)]) hx hb dX0_weightOfPegs_3 rfl hl (by decide) rfl (fun ls hl => ?_)
  have hX4 : ∀ (v2_38 : Int32), (fun (v2_38 : Int32) => (P v2_38)) v2_38 → ∀ (ls : Array Slot), lv_has ls 4 [(2, .int v2_38)] → W p l e ({ frames := 2, cells := 0, slots := 0, locals := 43 } : Room) s m ([.ref (h 0), .int x1] : List Value).toArray below meth c s.heap [] 0 0 (MQ below (vp_Si P) ([.ref (h 0), .int x1] : List Value).toArray s 0 0 (fun _ => False)) (F0 m 38 ls []) := by
    intro v2_38 hF ls hl
    refine lv_iload_n hx hb dX0_weightOfPegs_38 rfl (lv_at hl 0 rfl) ?_
    exact W.iret (v := v2_38) hx hb hr (fun t ht hW => ⟨v2_38, rfl, hF, ht⟩) (fun q hq => absurd hq List.not_mem_nil) dX0_weightOfPegs_39
  have hL4 : ∀ (K4 : Int32 → Prop), (∀ (v2_38 : Int32), K4 v2_38 → ∀ (ls : Array Slot), lv_has ls 4 [(2, .int v2_38)] → W p l e ({ frames := 2, cells := 0, slots := 0, locals := 43 } : Room) s m ([.ref (h 0), .int x1] : List Value).toArray below meth c s.heap [] 0 0 (MQ below (vp_Si P) ([.ref (h 0), .int x1] : List Value).toArray s 0 0 (fun _ => False)) (F0 m 38 ls [])) → ∀ (nn : Nat), ∀ (v3_4 : Int32), ∀ (v2_4 : Int32), wp_X0_weightOfPegs_L4 σ x1 K4 nn v3_4 v2_4 → ∀ (ls : Array Slot), lv_has ls 4 [(3, .int v3_4), (2, .int v2_4), (0, .ref (h 0)), (1, .int x1)] → W p l e ({ frames := 2, cells := 0, slots := 0, locals := 43 } : Room) s m ([.ref (h 0), .int x1] : List Value).toArray below meth c s.heap [] 0 0 (MQ below (vp_Si P) ([.ref (h 0), .int x1] : List Value).toArray s 0 0 (fun _ => False)) (F0 m 4 ls []) := by
    intro K4 hX4 nn
    induction nn with
    | zero =>
      intro v3_4 v2_4 hF
      exact hF.elim
    | succ nn ih =>
      intro v3_4 v2_4 hF ls hl
      obtain ⟨rec4, hrec⟩ : ∃ z : Int32 → Int32 → Prop, z = wp_X0_weightOfPegs_L4 σ x1 K4 nn := ⟨_, rfl⟩
      have hF : wp_X0_weightOfPegs_B4 σ x1 K4 rec4 v3_4 v2_4 := by rw [hrec]; exact hF
      rw [← hrec] at ih
      clear hrec
      unfold wp_X0_weightOfPegs_B4 at hF
      refine lv_iload_n hx hb dX0_weightOfPegs_4 rfl (lv_at hl 0 rfl) ?_
      refine lv_aload_n hx hb dX0_weightOfPegs_5 rfl (lv_at hl 2 rfl) ?_
      refine va_get (D := (dC, dI)) (ci := 0) (v := .ref (h 2)) (C := RX0) (T := TX0) (N := 8) hx hb hts in_X0 hown hK.1 hP 0 rfl rfl 3 (by decide) (hts _ q68) (fun _ h9 => h9) rfl dX0_weightOfPegs_6 ?_
      have hPc := hP.sub (ws' := wR (h 2) (h 3) cy 13 (σ.2.1 1) (σ.1 2)) [2, 3] rfl
      refine cpVi (q0 := 0) (As := []) (rest := [.int v3_4]) ⟨hx, hb, hr, hml, hown, hts, hlocks⟩ hK hPc rfl rfl (m_X1_size l dC dI (h 2) (h 3) cy 13 (σ.2.1 1) (σ.1 2)  _ hF) k_X1_size q168 ⟨rfl, rfl⟩ ⟨Nat.le_of_ble_eq_true rfl, Nat.le_of_ble_eq_true rfl⟩ hl.1 rfl rfl (Nat.le_of_ble_eq_true rfl) dX0_weightOfPegs_9 ⟨Nat.le_of_ble_eq_true rfl, Nat.le_of_ble_eq_true rfl⟩ (fun r9 hF => ?_)
      refine lv_icmp_ge (tgt := 38) hx hb dX0_weightOfPegs_12 (by decide) (fun cz => ?_) (fun cz => ?_)
      · have hF := hF.1 cz
        exact hX4 v2_4 hF _ (lv_sub hl [1] rfl)
      · have hF := hF.2 cz
        refine lv_iload_n hx hb dX0_weightOfPegs_15 rfl (lv_at hl 3 rfl) ?_
        refine lv_iload_n hx hb dX0_weightOfPegs_16 rfl (lv_at hl 0 rfl) ?_
        refine lv_ishr hx hb dX0_weightOfPegs_17 ?_
        refine lv_iconst (v := 1) hx hb dX0_weightOfPegs_18 (by decide) ?_
        refine lv_iand hx hb dX0_weightOfPegs_19 ?_
        refine lv_iconst (v := 1) hx hb dX0_weightOfPegs_20 (by decide) ?_
        have hJ32 : ∀ (v2_32 : Int32), wp_X0_weightOfPegs_J32 rec4 v3_4 v2_32 → ∀ (ls : Array Slot), lv_has ls 4 [(3, .int v3_4), (2, .int v2_32), (0, .ref (h 0)), (1, .int x1)] → W p l e ({ frames := 2, cells := 0, slots := 0, locals := 43 } : Room) s m ([.ref (h 0), .int x1] : List Value).toArray below meth c s.heap [] 0 0 (MQ below (vp_Si P) ([.ref (h 0), .int x1] : List Value).toArray s 0 0 (fun _ => False)) (F0 m 32 ls []) := by
          intro v2_32 hF ls hl
          unfold wp_X0_weightOfPegs_J32 at hF
          refine lv_iinc (v := v3_4 + 1) (lv' := [(3, .int (v3_4 + 1)), (2, .int v2_32), (0, .ref (h 0)), (1, .int x1)]) hx hb dX0_weightOfPegs_32 hl (k := 0) rfl (by rfl) (by decide) rfl (fun ls hl => ?_)
          refine lv_goto (tgt := 4) hx hb dX0_weightOfPegs_35 (by decide) ?_
          exact ih (v3_4 + 1) v2_32 hF _ (lv_sub hl [0, 1, 2, 3] rfl)
        refine lv_icmp_ne (tgt := 32) hx hb dX0_weightOfPegs_21 (by decide) (fun cz => ?_) (fun cz => ?_)
        · have hF := hF.1 cz
          exact hJ32 v2_4 hF _ (lv_sub hl [0, 1, 2, 3] rfl)
        · have hF := hF.2 cz
          refine lv_iload_n hx hb dX0_weightOfPegs_24 rfl (lv_at hl 1 rfl) ?_
          refine lv_aload_n hx hb dX0_weightOfPegs_25 rfl (lv_at hl 2 rfl) ?_
          refine lv_iload_n hx hb dX0_weightOfPegs_26 rfl (lv_at hl 0 rfl) ?_
          refine cpVi (q0 := 0) (As := [.int v3_4]) (rest := [.int v2_4]) ⟨hx, hb, hr, hml, hown, hts, hlocks⟩ hK hP rfl rfl (m_X0_weightOf l dC dI h cy σ v3_4 _ hF) k_X0_weightOf q288 ⟨rfl, rfl⟩ ⟨Nat.le_of_ble_eq_true rfl, Nat.le_of_ble_eq_true rfl⟩ hl.1 rfl rfl (Nat.le_of_ble_eq_true rfl) dX0_weightOfPegs_27 ⟨Nat.le_of_ble_eq_true rfl, Nat.le_of_ble_eq_true rfl⟩ (fun r27 hF => ?_)
          refine lv_iadd hx hb dX0_weightOfPegs_30 ?_
          refine lv_istore_n (lv' := [(2, .int (v2_4 + r27)), (3, .int v3_4), (0, .ref (h 0)), (1, .int x1)]) hx hb dX0_weightOfPegs_31 rfl hl (by decide) rfl (fun ls hl => ?_)
          exact hJ32 (v2_4 + r27) hF _ (lv_sub hl [1, 0, 2, 3] rfl)
  exact hL4 _ hX4 fu 0 0 hF _ (lv_sub hl [0, 1, 2, 3] rfl)
