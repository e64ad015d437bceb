theorem dX4_behind_0 : decode cX4_behind 0 = .ok (.iload_n 1, 1) := by decide +kernel
theorem dX4_behind_1 : decode cX4_behind 1 = .ok (.iconst 1, 1) := by decide +kernel
theorem dX4_behind_2 : decode cX4_behind 2 = .ok (.aload_n 0, 1) := by decide +kernel
theorem dX4_behind_3 : decode cX4_behind 3 = .ok (.getfield 19, 3) := by decide +kernel
theorem dX4_behind_6 : decode cX4_behind 6 = .ok (.iload_n 2, 1) := by decide +kernel
theorem dX4_behind_7 : decode cX4_behind 7 = .ok (.iaload, 1) := by decide +kernel
theorem dX4_behind_8 : decode cX4_behind 8 = .ok (.ishl, 1) := by decide +kernel
theorem dX4_behind_9 : decode cX4_behind 9 = .ok (.ixor, 1) := by decide +kernel
theorem dX4_behind_10 : decode cX4_behind 10 = .ok (.iconst 1, 1) := by decide +kernel
theorem dX4_behind_11 : decode cX4_behind 11 = .ok (.aload_n 0, 1) := by decide +kernel
theorem dX4_behind_12 : decode cX4_behind 12 = .ok (.getfield 22, 3) := by decide +kernel
theorem dX4_behind_15 : decode cX4_behind 15 = .ok (.iload_n 2, 1) := by decide +kernel
theorem dX4_behind_16 : decode cX4_behind 16 = .ok (.iaload, 1) := by decide +kernel
theorem dX4_behind_17 : decode cX4_behind 17 = .ok (.ishl, 1) := by decide +kernel
theorem dX4_behind_18 : decode cX4_behind 18 = .ok (.ixor, 1) := by decide +kernel
theorem dX4_behind_19 : decode cX4_behind 19 = .ok (.iconst 1, 1) := by decide +kernel
theorem dX4_behind_20 : decode cX4_behind 20 = .ok (.aload_n 0, 1) := by decide +kernel
theorem dX4_behind_21 : decode cX4_behind 21 = .ok (.getfield 25, 3) := by decide +kernel
theorem dX4_behind_24 : decode cX4_behind 24 = .ok (.iload_n 2, 1) := by decide +kernel
theorem dX4_behind_25 : decode cX4_behind 25 = .ok (.iaload, 1) := by decide +kernel
theorem dX4_behind_26 : decode cX4_behind 26 = .ok (.ishl, 1) := by decide +kernel
theorem dX4_behind_27 : decode cX4_behind 27 = .ok (.ixor, 1) := by decide +kernel
theorem dX4_behind_28 : decode cX4_behind 28 = .ok (.ireturn, 1) := by decide +kernel
def wp_X4_behind (σ : SX) (x1 : Int32) (x2 : Int32) (P : Int32 → Prop) : Prop := (vp_in x2 104 ∧ (vp_in x2 104 ∧ (vp_in x2 104 ∧ (P (((x1 ^^^ ((1 : Int32) <<< (((σ.2.1 3) x2.toNatClampNeg) &&& 31))) ^^^ ((1 : Int32) <<< (((σ.2.1 4) x2.toNatClampNeg) &&& 31))) ^^^ ((1 : Int32) <<< (((σ.2.1 5) x2.toNatClampNeg) &&& 31)))))))
theorem k_X4_behind : KV RX4 yX4_behind cX4_behind 3 (some .int) 2 := ⟨q1232, qs38, q5, q1233, by decide +kernel⟩
set_option maxHeartbeats 4000000 in
set_option maxRecDepth 100000 in
theorem m_X4_behind (l : Launch) (dC : Nat → ClassId) (dI : Nat → Nat → Nat) (h : Nat → Nat) (cy : Nat → ClassId) (σ : SX) (x1 : Int32) (x2 : Int32) (P : Int32 → Prop) (hF : wp_X4_behind σ x1 x2 P) : Met l yX4_behind (ws_ yX4_behind cX4_behind 3 (some .int)) ({ frames := 0, cells := 0, slots := 0, locals := 0 } : Room) (va_Pc [.ref (h 0), .int x1, .int x2] (fun U => va_P (dC, dI) classes (wC h cy σ) U.heap ∧ kwX dC dI cy U)) (vp_Si P) 0 0 (fun _ => False) := by
  refine Met.ofCx (own := RX4) (by decide) rfl (Nat.le_of_ble_eq_true rfl) ?_
  intro p e s m below meth c hC hv ls hl
  obtain ⟨hx, hb, hr, hml, hown, hts, hlocks⟩ := hC
  have hl : lv_has ls 3 [(0, .ref (h 0)), (1, .int x1), (2, .int x2)] := hl
  obtain ⟨hP, hK⟩ := hv
  unfold wp_X4_behind at hF
  refine lv_iload_n hx hb dX4_behind_0 rfl (lv_at hl 1 rfl) ?_
  refine lv_iconst (v := 1) hx hb dX4_behind_1 (by decide) ?_
  refine lv_aload_n hx hb dX4_behind_2 rfl (lv_at hl 0 rfl) ?_
  refine va_get (D := (dC, dI)) (ci := 4) (v := .ref (h 4)) (C := RX4) (T := TX4) (N := 19) hx hb hts in_X4 hown hK.1 hP 0 rfl rfl 3 (by decide) (hts _ q953) (fun _ h9 => h9) rfl dX4_behind_3 ?_
  refine lv_iload_n hx hb dX4_behind_6 rfl (lv_at hl 2 rfl) ?_
  have hI := hF.1
  have hF := hF.2
  refine va_iald hx hb hK.1 hP 4 0 rfl rfl hI dX4_behind_7 ?_
  refine lv_ishl hx hb dX4_behind_8 ?_
  refine lv_ixor hx hb dX4_behind_9 ?_
  refine lv_iconst (v := 1) hx hb dX4_behind_10 (by decide) ?_
  refine lv_aload_n hx hb dX4_behind_11 rfl (lv_at hl 0 rfl) ?_
  refine va_get (D := (dC, dI)) (ci := 4) (v := .ref (h 5)) (C := RX4) (T := TX4) (N := 19) hx hb hts in_X4 hown hK.1 hP 0 rfl rfl 4 (by decide) (hts _ q954) (fun _ h9 => h9) rfl dX4_behind_12 ?_
  refine lv_iload_n hx hb dX4_behind_15 rfl (lv_at hl 2 rfl) ?_
  have hI := hF.1
  have hF := hF.2
  refine va_iald hx hb hK.1 hP 5 0 rfl rfl hI dX4_behind_16 ?_
  refine lv_ishl hx hb dX4_behind_17 ?_
  refine lv_ixor hx hb dX4_behind_18 ?_
  refine lv_iconst (v := 1) hx hb dX4_behind_19 (by decide) ?_
  refine lv_aload_n hx hb dX4_behind_20 rfl (lv_at hl 0 rfl) ?_
  refine va_get (D := (dC, dI)) (ci := 4) (v := .ref (h 6)) (C := RX4) (T := TX4) (N := 19) hx hb hts in_X4 hown hK.1 hP 0 rfl rfl 5 (by decide) (hts _ q955) (fun _ h9 => h9) rfl dX4_behind_21 ?_
  refine lv_iload_n hx hb dX4_behind_24 rfl (lv_at hl 2 rfl) ?_
  have hI := hF.1
  have hF := hF.2
  refine va_iald hx hb hK.1 hP 6 0 rfl rfl hI dX4_behind_25 ?_
  refine lv_ishl hx hb dX4_behind_26 ?_
  refine lv_ixor hx hb dX4_behind_27 ?_
  exact W.iret (v := ((x1 ^^^ ((1 : Int32) <<< (((σ.2.1 3) x2.toNatClampNeg) &&& 31))) ^^^ ((1 : Int32) <<< (((σ.2.1 4) x2.toNatClampNeg) &&& 31))) ^^^ ((1 : Int32) <<< (((σ.2.1 5) x2.toNatClampNeg) &&& 31))) hx hb hr (fun t ht hW => ⟨((x1 ^^^ ((1 : Int32) <<< (((σ.2.1 3) x2.toNatClampNeg) &&& 31))) ^^^ ((1 : Int32) <<< (((σ.2.1 4) x2.toNatClampNeg) &&& 31))) ^^^ ((1 : Int32) <<< (((σ.2.1 5) x2.toNatClampNeg) &&& 31)), rfl, hF, ht⟩) (fun q hq => absurd hq List.not_mem_nil) dX4_behind_28
theorem dX4_has_0 : decode cX4_has 0 = .ok (.iload_n 0, 1) := by decide +kernel
theorem dX4_has_1 : decode cX4_has 1 = .ok (.iload_n 1, 1) := by decide +kernel
theorem dX4_has_2 : decode cX4_has 2 = .ok (.ishr, 1) := by decide +kernel
theorem dX4_has_3 : decode cX4_has 3 = .ok (.iconst 1, 1) := by decide +kernel
theorem dX4_has_4 : decode cX4_has 4 = .ok (.iand, 1) := by decide +kernel
theorem dX4_has_5 : decode cX4_has 5 = .ok (.iconst 1, 1) := by decide +kernel
theorem dX4_has_6 : decode cX4_has 6 = .ok (.if_icmp .ne 7, 3) := by decide +kernel
theorem dX4_has_9 : decode cX4_has 9 = .ok (.iconst 1, 1) := by decide +kernel
theorem dX4_has_10 : decode cX4_has 10 = .ok (.goto 4, 3) := by decide +kernel
theorem dX4_has_13 : decode cX4_has 13 = .ok (.iconst 0, 1) := by decide +kernel
theorem dX4_has_14 : decode cX4_has 14 = .ok (.ireturn, 1) := by decide +kernel
def wp_X4_has (x0 : Int32) (x1 : Int32) (P : Int32 → Prop) : Prop := ((¬ ((x0 >>> (x1 &&& 31)) &&& 1) = 1 → (P 0)) ∧ (((x0 >>> (x1 &&& 31)) &&& 1) = 1 → (P 1)))
theorem k_X4_has : KS yX4_has cX4_has 2 (some .boolean) 2 := ⟨q1195, q5, q1196, by decide +kernel⟩
set_option maxHeartbeats 4000000 in
set_option maxRecDepth 100000 in
theorem m_X4_has (l : Launch) (x0 : Int32) (x1 : Int32) (P : Int32 → Prop) (hF : wp_X4_has x0 x1 P) : Met l yX4_has (ws_ yX4_has cX4_has 2 (some .boolean)) ({ frames := 0, cells := 0, slots := 0, locals := 0 } : Room) (va_Pc [.int x0, .int x1] (fun _ => True)) (vp_Si P) 0 0 (fun _ => False) := by
  refine Met.ofCx (own := RX4) (by decide) rfl (Nat.le_of_ble_eq_true rfl) ?_
  intro p e s m below meth c hC hv ls hl
  obtain ⟨hx, hb, hr, hml, hown, hts, hlocks⟩ := hC
  have hl : lv_has ls 2 [(0, .int x0), (1, .int x1)] := hl
  unfold wp_X4_has at hF
  refine lv_iload_n hx hb dX4_has_0 rfl (lv_at hl 0 rfl) ?_
  refine lv_iload_n hx hb dX4_has_1 rfl (lv_at hl 1 rfl) ?_
  refine lv_ishr hx hb dX4_has_2 ?_
  refine lv_iconst (v := 1) hx hb dX4_has_3 (by decide) ?_
  refine lv_iand hx hb dX4_has_4 ?_
  refine lv_iconst (v := 1) hx hb dX4_has_5 (by decide) ?_
  refine lv_icmp_ne (tgt := 13) hx hb dX4_has_6 (by decide) (fun cz => ?_) (fun cz => ?_)
  · have hF := hF.1 cz
    refine lv_iconst (v := 0) hx hb dX4_has_13 (by decide) ?_
    exact W.zret (v := 0) hx hb hr rfl (fun t ht hW => ⟨0, rfl, hF, ht⟩) (fun q hq => absurd hq List.not_mem_nil) dX4_has_14
  · have hF := hF.2 cz
    refine lv_iconst (v := 1) hx hb dX4_has_9 (by decide) ?_
    refine lv_goto (tgt := 14) hx hb dX4_has_10 (by decide) ?_
    exact W.zret (v := 1) hx hb hr rfl (fun t ht hW => ⟨1, rfl, hF, ht⟩) (fun q hq => absurd hq List.not_mem_nil) dX4_has_14
theorem dX4_can_0 : decode cX4_can 0 = .ok (.iload_n 1, 1) := by decide +kernel
theorem dX4_can_1 : decode cX4_can 1 = .ok (.aload_n 0, 1) := by decide +kernel
theorem dX4_can_2 : decode cX4_can 2 = .ok (.getfield 19, 3) := by decide +kernel
theorem dX4_can_5 : decode cX4_can 5 = .ok (.iload_n 2, 1) := by decide +kernel
theorem dX4_can_6 : decode cX4_can 6 = .ok (.iaload, 1) := by decide +kernel
theorem dX4_can_7 : decode cX4_can 7 = .ok (.invokestatic 150, 3) := by decide +kernel
theorem dX4_can_10 : decode cX4_can 10 = .ok (.ifCond .eq 33, 3) := by decide +kernel
theorem dX4_can_13 : decode cX4_can 13 = .ok (.iload_n 1, 1) := by decide +kernel
theorem dX4_can_14 : decode cX4_can 14 = .ok (.aload_n 0, 1) := by decide +kernel
theorem dX4_can_15 : decode cX4_can 15 = .ok (.getfield 22, 3) := by decide +kernel
theorem dX4_can_18 : decode cX4_can 18 = .ok (.iload_n 2, 1) := by decide +kernel
theorem dX4_can_19 : decode cX4_can 19 = .ok (.iaload, 1) := by decide +kernel
theorem dX4_can_20 : decode cX4_can 20 = .ok (.invokestatic 150, 3) := by decide +kernel
theorem dX4_can_23 : decode cX4_can 23 = .ok (.ifCond .eq 20, 3) := by decide +kernel
theorem dX4_can_26 : decode cX4_can 26 = .ok (.iload_n 1, 1) := by decide +kernel
theorem dX4_can_27 : decode cX4_can 27 = .ok (.aload_n 0, 1) := by decide +kernel
theorem dX4_can_28 : decode cX4_can 28 = .ok (.getfield 25, 3) := by decide +kernel
theorem dX4_can_31 : decode cX4_can 31 = .ok (.iload_n 2, 1) := by decide +kernel
theorem dX4_can_32 : decode cX4_can 32 = .ok (.iaload, 1) := by decide +kernel
theorem dX4_can_33 : decode cX4_can 33 = .ok (.invokestatic 150, 3) := by decide +kernel
theorem dX4_can_36 : decode cX4_can 36 = .ok (.ifCond .ne 7, 3) := by decide +kernel
theorem dX4_can_39 : decode cX4_can 39 = .ok (.iconst 1, 1) := by decide +kernel
theorem dX4_can_40 : decode cX4_can 40 = .ok (.goto 4, 3) := by decide +kernel
theorem dX4_can_43 : decode cX4_can 43 = .ok (.iconst 0, 1) := by decide +kernel
theorem dX4_can_44 : decode cX4_can 44 = .ok (.ireturn, 1) := by decide +kernel
def wp_X4_can (σ : SX) (x1 : Int32) (x2 : Int32) (P : Int32 → Prop) : Prop := (vp_in x2 104 ∧ (wp_X4_has x1 ((σ.2.1 3) x2.toNatClampNeg) (fun r7 => ((r7 = 0 → (P 0)) ∧ (¬ r7 = 0 → (vp_in x2 104 ∧ (wp_X4_has x1 ((σ.2.1 4) x2.toNatClampNeg) (fun r20 => ((r20 = 0 → (P 0)) ∧ (¬ r20 = 0 → (vp_in x2 104 ∧ (wp_X4_has x1 ((σ.2.1 5) x2.toNatClampNeg) (fun r33 => ((¬ r33 = 0 → (P 0)) ∧ (r33 = 0 → (P 1))))))))))))))))
theorem k_X4_can : KV RX4 yX4_can cX4_can 3 (some .boolean) 2 := ⟨q1216, qs35, q5, q1217, by decide +kernel⟩
set_option maxHeartbeats 4000000 in
set_option maxRecDepth 100000 in
theorem m_X4_can (l : Launch) (dC : Nat → ClassId) (dI : Nat → Nat → Nat) (h : Nat → Nat) (cy : Nat → ClassId) (σ : SX) (x1 : Int32) (x2 : Int32) (P : Int32 → Prop) (hF : wp_X4_can σ x1 x2 P) : Met l yX4_can (ws_ yX4_can cX4_can 3 (some .boolean)) ({ frames := 1, cells := 0, slots := 0, locals := 21 } : Room) (va_Pc [.ref (h 0), .int x1, .int x2] (fun U => va_P (dC, dI) classes (wC h cy σ) U.heap ∧ kwX dC dI cy U)) (vp_Si P) 0 0 (fun _ => False) := by
  refine Met.ofCx (own := RX4) (by decide) rfl (Nat.le_of_ble_eq_true rfl) ?_
  intro p e s m below meth c hC hv ls hl
  obtain ⟨hx, hb, hr, hml, hown, hts, hlocks⟩ := hC
  have hl : lv_has ls 3 [(0, .ref (h 0)), (1, .int x1), (2, .int x2)] := hl
  obtain ⟨hP, hK⟩ := hv
  unfold wp_X4_can at hF
  refine lv_iload_n hx hb dX4_can_0 rfl (lv_at hl 1 rfl) ?_
  refine lv_aload_n hx hb dX4_can_1 rfl (lv_at hl 0 rfl) ?_
  refine va_get (D := (dC, dI)) (ci := 4) (v := .ref (h 4)) (C := RX4) (T := TX4) (N := 19) hx hb hts in_X4 hown hK.1 hP 0 rfl rfl 3 (by decide) (hts _ q953) (fun _ h9 => h9) rfl dX4_can_2 ?_
  refine lv_iload_n hx hb dX4_can_5 rfl (lv_at hl 2 rfl) ?_
  have hI := hF.1
  have hF := hF.2
  refine va_iald hx hb hK.1 hP 4 0 rfl rfl hI dX4_can_6 ?_
  refine cpSi (As := [.int x1, .int ((σ.2.1 3) x2.toNatClampNeg)]) (rest := []) ⟨hx, hb, hr, hml, hown, hts, hlocks⟩ (m_X4_has l x1 ((σ.2.1 3) x2.toNatClampNeg) _ hF) k_X4_has q1194 ⟨rfl, rfl⟩ ⟨Nat.le_of_ble_eq_true rfl, Nat.le_of_ble_eq_true rfl⟩ hl.1 rfl rfl (Nat.le_of_ble_eq_true rfl) dX4_can_7 ⟨Nat.le_of_ble_eq_true rfl, Nat.le_of_ble_eq_true rfl⟩ (fun r7 hF => ?_)
  refine lv_if_eq (tgt := 43) hx hb dX4_can_10 (by decide) (fun cz => ?_) (fun cz => ?_)
  · have hF := hF.1 cz
    refine lv_iconst (v := 0) hx hb dX4_can_43 (by decide) ?_
    exact W.zret (v := 0) hx hb hr rfl (fun t ht hW => ⟨0, rfl, hF, ht⟩) (fun q hq => absurd hq List.not_mem_nil) dX4_can_44
  · have hF := hF.2 cz
    refine lv_iload_n hx hb dX4_can_13 rfl (lv_at hl 1 rfl) ?_
    refine lv_aload_n hx hb dX4_can_14 rfl (lv_at hl 0 rfl) ?_
    refine va_get (D := (dC, dI)) (ci := 4) (v := .ref (h 5)) (C := RX4) (T := TX4) (N := 19) hx hb hts in_X4 hown hK.1 hP 0 rfl rfl 4 (by decide) (hts _ q954) (fun _ h9 => h9) rfl dX4_can_15 ?_
    refine lv_iload_n hx hb dX4_can_18 rfl (lv_at hl 2 rfl) ?_
    have hI := hF.1
    have hF := hF.2
    refine va_iald hx hb hK.1 hP 5 0 rfl rfl hI dX4_can_19 ?_
    refine cpSi (As := [.int x1, .int ((σ.2.1 4) x2.toNatClampNeg)]) (rest := []) ⟨hx, hb, hr, hml, hown, hts, hlocks⟩ (m_X4_has l x1 ((σ.2.1 4) x2.toNatClampNeg) _ hF) k_X4_has q1194 ⟨rfl, rfl⟩ ⟨Nat.le_of_ble_eq_true rfl, Nat.le_of_ble_eq_true rfl⟩ hl.1 rfl rfl (Nat.le_of_ble_eq_true rfl) dX4_can_20 ⟨Nat.le_of_ble_eq_true rfl, Nat.le_of_ble_eq_true rfl⟩ (fun r20 hF => ?_)
    refine lv_if_eq (tgt := 43) hx hb dX4_can_23 (by decide) (fun cz => ?_) (fun cz => ?_)
    · have hF := hF.1 cz
      refine lv_iconst (v := 0) hx hb dX4_can_43 (by decide) ?_
      exact W.zret (v := 0) hx hb hr rfl (fun t ht hW => ⟨0, rfl, hF, ht⟩) (fun q hq => absurd hq List.not_mem_nil) dX4_can_44
    · have hF := hF.2 cz
      refine lv_iload_n hx hb dX4_can_26 rfl (lv_at hl 1 rfl) ?_
      refine lv_aload_n hx hb dX4_can_27 rfl (lv_at hl 0 rfl) ?_
      refine va_get (D := (dC, dI)) (ci := 4) (v := .ref (h 6)) (C := RX4) (T := TX4) (N := 19) hx hb hts in_X4 hown hK.1 hP 0 rfl rfl 5 (by decide) (hts _ q955) (fun _ h9 => h9) rfl dX4_can_28 ?_
      refine lv_iload_n hx hb dX4_can_31 rfl (lv_at hl 2 rfl) ?_
      have hI := hF.1
      have hF := hF.2
      refine va_iald hx hb hK.1 hP 6 0 rfl rfl hI dX4_can_32 ?_
      refine cpSi (As := [.int x1, .int ((σ.2.1 5) x2.toNatClampNeg)]) (rest := []) ⟨hx, hb, hr, hml, hown, hts, hlocks⟩ (m_X4_has l x1 ((σ.2.1 5) x2.toNatClampNeg) _ hF) k_X4_has q1194 ⟨rfl, rfl⟩ ⟨Nat.le_of_ble_eq_true rfl, Nat.le_of_ble_eq_true rfl⟩ hl.1 rfl rfl (Nat.le_of_ble_eq_true rfl) dX4_can_33 ⟨Nat.le_of_ble_eq_true rfl, Nat.le_of_ble_eq_true rfl⟩ (fun r33 hF => ?_)
      refine lv_if_ne (tgt := 43) hx hb dX4_can_36 (by decide) (fun cz => ?_) (fun cz => ?_)
      · have hF := hF.1 cz
        refine lv_iconst (v := 0) hx hb dX4_can_43 (by decide) ?_
        exact W.zret (v := 0) hx hb hr rfl (fun t ht hW => ⟨0, rfl, hF, ht⟩) (fun q hq => absurd hq List.not_mem_nil) dX4_can_44
      · have hF := hF.2 cz
        refine lv_iconst (v := 1) hx hb dX4_can_39 (by decide) ?_
        refine lv_goto (tgt := 44) hx hb dX4_can_40 (by decide) ?_
        exact W.zret (v := 1) hx hb hr rfl (fun t ht hW => ⟨1, rfl, hF, ht⟩) (fun q hq => absurd hq List.not_mem_nil) dX4_can_44
theorem dX4_counts_0 : decode cX4_counts 0 = .ok (.iconst 0, 1) := by decide +kernel
theorem dX4_counts_1 : decode cX4_counts 1 = .ok (.istore_n 1, 1) := by decide +kernel
theorem dX4_counts_2 : decode cX4_counts 2 = .ok (.iload_n 1, 1) := by decide +kernel
theorem dX4_counts_3 : decode cX4_counts 3 = .ok (.aload_n 0, 1) := by decide +kernel
theorem dX4_counts_4 : decode cX4_counts 4 = .ok (.getfield 64, 3) := by decide +kernel
theorem dX4_counts_7 : decode cX4_counts 7 = .ok (.if_icmp .gt 102, 3) := by decide +kernel
theorem dX4_counts_10 : decode cX4_counts 10 = .ok (.iconst 0, 1) := by decide +kernel
theorem dX4_counts_11 : decode cX4_counts 11 = .ok (.istore_n 2, 1) := by decide +kernel
theorem dX4_counts_12 : decode cX4_counts 12 = .ok (.iload_n 2, 1) := by decide +kernel
theorem dX4_counts_13 : decode cX4_counts 13 = .ok (.iconst 1, 1) := by decide +kernel
theorem dX4_counts_14 : decode cX4_counts 14 = .ok (.aload_n 0, 1) := by decide +kernel
theorem dX4_counts_15 : decode cX4_counts 15 = .ok (.getfield 64, 3) := by decide +kernel
theorem dX4_counts_18 : decode cX4_counts 18 = .ok (.ishl, 1) := by decide +kernel
theorem dX4_counts_19 : decode cX4_counts 19 = .ok (.if_icmp .ge 84, 3) := by decide +kernel
theorem dX4_counts_22 : decode cX4_counts 22 = .ok (.iload_n 2, 1) := by decide +kernel
theorem dX4_counts_23 : decode cX4_counts 23 = .ok (.invokestatic 179, 3) := by decide +kernel
theorem dX4_counts_26 : decode cX4_counts 26 = .ok (.iload_n 1, 1) := by decide +kernel
theorem dX4_counts_27 : decode cX4_counts 27 = .ok (.if_icmp .eq 6, 3) := by decide +kernel
theorem dX4_counts_30 : decode cX4_counts 30 = .ok (.goto 67, 3) := by decide +kernel
theorem dX4_counts_33 : decode cX4_counts 33 = .ok (.aload_n 0, 1) := by decide +kernel
theorem dX4_counts_34 : decode cX4_counts 34 = .ok (.getfield 41, 3) := by decide +kernel
theorem dX4_counts_37 : decode cX4_counts 37 = .ok (.iload_n 2, 1) := by decide +kernel
theorem dX4_counts_38 : decode cX4_counts 38 = .ok (.iload_n 2, 1) := by decide +kernel
theorem dX4_counts_39 : decode cX4_counts 39 = .ok (.aload_n 0, 1) := by decide +kernel
theorem dX4_counts_40 : decode cX4_counts 40 = .ok (.getfield 114, 3) := by decide +kernel
theorem dX4_counts_43 : decode cX4_counts 43 = .ok (.if_icmp .ne 7, 3) := by decide +kernel
theorem dX4_counts_46 : decode cX4_counts 46 = .ok (.lconst 1, 1) := by decide +kernel
theorem dX4_counts_47 : decode cX4_counts 47 = .ok (.goto 4, 3) := by decide +kernel
theorem dX4_counts_50 : decode cX4_counts 50 = .ok (.lconst 0, 1) := by decide +kernel
theorem dX4_counts_51 : decode cX4_counts 51 = .ok (.lastore, 1) := by decide +kernel
theorem dX4_counts_52 : decode cX4_counts 52 = .ok (.iconst 0, 1) := by decide +kernel
theorem dX4_counts_53 : decode cX4_counts 53 = .ok (.istore_n 3, 1) := by decide +kernel
theorem dX4_counts_54 : decode cX4_counts 54 = .ok (.iload_n 3, 1) := by decide +kernel
theorem dX4_counts_55 : decode cX4_counts 55 = .ok (.aload_n 0, 1) := by decide +kernel
theorem dX4_counts_56 : decode cX4_counts 56 = .ok (.getfield 71, 3) := by decide +kernel
theorem dX4_counts_59 : decode cX4_counts 59 = .ok (.if_icmp .ge 38, 3) := by decide +kernel
theorem dX4_counts_62 : decode cX4_counts 62 = .ok (.aload_n 0, 1) := by decide +kernel
theorem dX4_counts_63 : decode cX4_counts 63 = .ok (.iload_n 2, 1) := by decide +kernel
theorem dX4_counts_64 : decode cX4_counts 64 = .ok (.iload_n 3, 1) := by decide +kernel
theorem dX4_counts_65 : decode cX4_counts 65 = .ok (.invokevirtual 159, 3) := by decide +kernel
theorem dX4_counts_68 : decode cX4_counts 68 = .ok (.ifCond .eq 23, 3) := by decide +kernel
theorem dX4_counts_71 : decode cX4_counts 71 = .ok (.aload_n 0, 1) := by decide +kernel
theorem dX4_counts_72 : decode cX4_counts 72 = .ok (.getfield 41, 3) := by decide +kernel
theorem dX4_counts_75 : decode cX4_counts 75 = .ok (.iload_n 2, 1) := by decide +kernel
theorem dX4_counts_76 : decode cX4_counts 76 = .ok (.dup2, 1) := by decide +kernel
theorem dX4_counts_77 : decode cX4_counts 77 = .ok (.laload, 1) := by decide +kernel
theorem dX4_counts_78 : decode cX4_counts 78 = .ok (.aload_n 0, 1) := by decide +kernel
theorem dX4_counts_79 : decode cX4_counts 79 = .ok (.getfield 41, 3) := by decide +kernel
theorem dX4_counts_82 : decode cX4_counts 82 = .ok (.aload_n 0, 1) := by decide +kernel
theorem dX4_counts_83 : decode cX4_counts 83 = .ok (.iload_n 2, 1) := by decide +kernel
theorem dX4_counts_84 : decode cX4_counts 84 = .ok (.iload_n 3, 1) := by decide +kernel
theorem dX4_counts_85 : decode cX4_counts 85 = .ok (.invokevirtual 166, 3) := by decide +kernel
theorem dX4_counts_88 : decode cX4_counts 88 = .ok (.laload, 1) := by decide +kernel
theorem dX4_counts_89 : decode cX4_counts 89 = .ok (.ladd, 1) := by decide +kernel
theorem dX4_counts_90 : decode cX4_counts 90 = .ok (.lastore, 1) := by decide +kernel
theorem dX4_counts_91 : decode cX4_counts 91 = .ok (.iinc 3 1, 3) := by decide +kernel
theorem dX4_counts_94 : decode cX4_counts 94 = .ok (.goto (-40), 3) := by decide +kernel
theorem dX4_counts_97 : decode cX4_counts 97 = .ok (.iinc 2 1, 3) := by decide +kernel
theorem dX4_counts_100 : decode cX4_counts 100 = .ok (.goto (-88), 3) := by decide +kernel
theorem dX4_counts_103 : decode cX4_counts 103 = .ok (.iinc 1 1, 3) := by decide +kernel
theorem dX4_counts_106 : decode cX4_counts 106 = .ok (.goto (-104), 3) := by decide +kernel
theorem dX4_counts_109 : decode cX4_counts 109 = .ok (.return_, 1) := by decide +kernel
def wp_X4_counts_J97 (rec12 : Int32 → SX → Prop) (v2_12 : Int32) (s_97 : SX) : Prop := (rec12 (v2_12 + 1) s_97)
def wp_X4_counts_J91 (rec54 : Int32 → SX → Prop) (v3_54 : Int32) (s_91 : SX) : Prop := (rec54 (v3_54 + 1) s_91)
def wp_X4_counts_B54 (v2_12 : Int32) (K54 : SX → Prop) (rec54 : Int32 → SX → Prop) (v3_54 : Int32) (s_54 : SX) : Prop := (((s_54.1 1) ≤ v3_54 → (K54 s_54)) ∧ (¬ (s_54.1 1) ≤ v3_54 → (wp_X4_can s_54 v2_12 v3_54 (fun r65 => ((r65 = 0 → (wp_X4_counts_J91 rec54 v3_54 s_54)) ∧ (¬ r65 = 0 → (vp_in v2_12 8192 ∧ (wp_X4_behind s_54 v2_12 v3_54 (fun r85 => (vp_in r85 8192 ∧ (vp_in v2_12 8192 ∧ (wp_X4_counts_J91 rec54 v3_54 (sJ s_54 (vp_updL s_54.2.2 v2_12.toNatClampNeg ((s_54.2.2 v2_12.toNatClampNeg) + (s_54.2.2 r85.toNatClampNeg))))))))))))))))
def wp_X4_counts_L54 (v2_12 : Int32) (K54 : SX → Prop) : Nat → Int32 → SX → Prop
  | 0, _, _ => False
  | nn + 1, v3_54, s_54 => wp_X4_counts_B54 v2_12 K54 (wp_X4_counts_L54 v2_12 K54 nn) v3_54 s_54
def wp_X4_counts_J51 (fu : Nat) (rec12 : Int32 → SX → Prop) (v2_12 : Int32) (s_12 : SX) (t2_51 : Int64) : Prop := (vp_in v2_12 8192 ∧ (wp_X4_counts_L54 v2_12 (fun (s_97 : SX) => (wp_X4_counts_J97 rec12 v2_12 s_97)) fu 0 (sJ s_12 (vp_updL s_12.2.2 v2_12.toNatClampNeg t2_51))))
def wp_X4_counts_B12 (fu : Nat) (v1_2 : Int32) (K12 : SX → Prop) (rec12 : Int32 → SX → Prop) (v2_12 : Int32) (s_12 : SX) : Prop := ((((1 : Int32) <<< ((s_12.1 0) &&& 31)) ≤ v2_12 → (K12 s_12)) ∧ (¬ ((1 : Int32) <<< ((s_12.1 0) &&& 31)) ≤ v2_12 → (wp_J6_bitCount_0f7a4 v2_12 (fun r23 => ((r23 = v1_2 → ((¬ v2_12 = (s_12.1 3) → (wp_X4_counts_J51 fu rec12 v2_12 s_12 0)) ∧ (v2_12 = (s_12.1 3) → (wp_X4_counts_J51 fu rec12 v2_12 s_12 1)))) ∧ (¬ r23 = v1_2 → (wp_X4_counts_J97 rec12 v2_12 s_12)))))))
def wp_X4_counts_L12 (fu : Nat) (v1_2 : Int32) (K12 : SX → Prop) : Nat → Int32 → SX → Prop
  | 0, _, _ => False
  | nn + 1, v2_12, s_12 => wp_X4_counts_B12 fu v1_2 K12 (wp_X4_counts_L12 fu v1_2 K12 nn) v2_12 s_12
def wp_X4_counts_B2 (fu : Nat) (K2 : SX → Prop) (rec2 : Int32 → SX → Prop) (v1_2 : Int32) (s_2 : SX) : Prop := (((s_2.1 0) < v1_2 → (K2 s_2)) ∧ (¬ (s_2.1 0) < v1_2 → (wp_X4_counts_L12 fu v1_2 (fun (s_103 : SX) => (rec2 (v1_2 + 1) s_103)) fu 0 s_2)))
def wp_X4_counts_L2 (fu : Nat) (K2 : SX → Prop) : Nat → Int32 → SX → Prop
  | 0, _, _ => False
  | nn + 1, v1_2, s_2 => wp_X4_counts_B2 fu K2 (wp_X4_counts_L2 fu K2 nn) v1_2 s_2
def wp_X4_counts (fu : Nat) (σ : SX) (P : SX → Prop) : Prop := (wp_X4_counts_L2 fu (fun (s_109 : SX) => (P s_109)) fu 0 σ)
theorem k_X4_counts : KV RX4 yX4_counts cX4_counts 4 none 0 := ⟨q1416, qs46, q5, q1417, by decide +kernel⟩
set_option maxHeartbeats 4000000 in
set_option maxRecDepth 100000 in
theorem m_X4_counts (l : Launch) (dC : Nat → ClassId) (dI : Nat → Nat → Nat) (h : Nat → Nat) (cy : Nat → ClassId) (sz : Nat) (fu : Nat) (σ : SX) (P : SX → Prop) (hF : wp_X4_counts fu σ P) : Met l yX4_counts (ws_ yX4_counts cX4_counts 4 none) ({ frames := 2, cells := 0, slots := 0, locals := 43 } : Room) (va_Pc [.ref (h 0)] (fun U => U.heap.size = sz ∧ va_P (dC, dI) classes (wC h cy σ) U.heap ∧ kwX dC dI cy U ∧ va_D (fun _ => True) (wC h cy σ))) (va_Qv (fun u => P u) (fun (u : SX) t => va_P (dC, dI) classes (wC h cy u) t.heap ∧ kwX dC dI cy t ∧ va_D (va_A (wC h cy σ) sz) (wC h cy u)) (va_A (wC h cy σ) sz)) 0 0 (va_A (wC h cy σ) sz) := by
  refine Met.ofCx (own := RX4) (by decide) rfl (Nat.le_of_ble_eq_true rfl) ?_
  intro p e s m below meth c hC hv ls hl
  obtain ⟨hx, hb, hr, hml, hown, hts, hlocks⟩ := hC
  have hl : lv_has ls 4 [(0, .ref (h 0))] := hl
  obtain ⟨hsz, hP, hK, hD0⟩ := hv
  subst hsz
  have hD := hD0.self (sz := s.heap.size)
  generalize hAe : va_A (wC h cy σ) s.heap.size = A at hD ⊢
  have hA : ∀ q : Nat, s.heap.size ≤ q → A q := fun q h => by rw [← hAe]; exact Or.inr h
  have hS : va_S A s.heap s.heap [] := va_S.rf
  clear hAe
  unfold wp_X4_counts at hF
  refine lv_iconst (v := 0) hx hb dX4_counts_0 (by decide) ?_
  refine lv_istore_n (lv' := [(1, .int 0), (0, .ref (h 0))]) hx hb dX4_counts_1 rfl hl (by decide) rfl (fun ls hl => ?_)
  have hX2 : ∀ (s_109 : SX), (fun (s_109 : SX) => (P s_109)) s_109 → ∀ (H : Heap) (locs : List Loc), va_P (dC, dI) classes (wC h cy s_109) H → va_D A (wC h cy s_109) → va_S A s.heap H locs → ∀ (ls : Array Slot), lv_has ls 4 [] → W p l e ({ frames := 2, cells := 0, slots := 0, locals := 43 } : Room) s m ([.ref (h 0)] : List Value).toArray below meth c H locs 0 0 (MQ below (va_Qv (fun u => P u) (fun (u : SX) t => va_P (dC, dI) classes (wC h cy u) t.heap ∧ kwX dC dI cy t ∧ va_D A (wC h cy u)) A) ([.ref (h 0)] : List Value).toArray s 0 0 A) (F0 m 109 ls []) := by
    intro s_109 hF H locs hP hD hS ls hl
    exact W.vret hx hb hr (fun t ht hW => ⟨⟨s_109, rfl, hF, by rw [ht]; exact hP, hK.warm hW, hD⟩, hS.F ht⟩) hS.2.2 dX4_counts_109
  have hL2 : ∀ (K2 : SX → Prop), (∀ (s_109 : SX), K2 s_109 → ∀ (H : Heap) (locs : List Loc), va_P (dC, dI) classes (wC h cy s_109) H → va_D A (wC h cy s_109) → va_S A s.heap H locs → ∀ (ls : Array Slot), lv_has ls 4 [] → W p l e ({ frames := 2, cells := 0, slots := 0, locals := 43 } : Room) s m ([.ref (h 0)] : List Value).toArray below meth c H locs 0 0 (MQ below (va_Qv (fun u => P u) (fun (u : SX) t => va_P (dC, dI) classes (wC h cy u) t.heap ∧ kwX dC dI cy t ∧ va_D A (wC h cy u)) A) ([.ref (h 0)] : List Value).toArray s 0 0 A) (F0 m 109 ls [])) → ∀ (nn : Nat), ∀ (v1_2 : Int32), ∀ (s_2 : SX), wp_X4_counts_L2 fu K2 nn v1_2 s_2 → ∀ (H : Heap) (locs : List Loc), va_P (dC, dI) classes (wC h cy s_2) H → va_D A (wC h cy s_2) → va_S A s.heap H locs → ∀ (ls : Array Slot), lv_has ls 4 [(1, .int v1_2), (0, .ref (h 0))] → W p l e ({ frames := 2, cells := 0, slots := 0, locals := 43 } : Room) s m ([.ref (h 0)] : List Value).toArray below meth c H locs 0 0 (MQ below (va_Qv (fun u => P u) (fun (u : SX) t => va_P (dC, dI) classes (wC h cy u) t.heap ∧ kwX dC dI cy t ∧ va_D A (wC h cy u)) A) ([.ref (h 0)] : List Value).toArray s 0 0 A) (F0 m 2 ls []) := by
    intro K2 hX2 nn
    induction nn with
    | zero =>
      intro v1_2 s_2 hF
      exact hF.elim
    | succ nn ih =>
      intro v1_2 s_2 hF H locs hP hD hS ls hl
      obtain ⟨rec2, hrec⟩ : ∃ z : Int32 → SX → Prop, z = wp_X4_counts_L2 fu K2 nn := ⟨_, rfl⟩
      have hF : wp_X4_counts_B2 fu K2 rec2 v1_2 s_2 := by rw [hrec]; exact hF
      rw [← hrec] at ih
      clear hrec
      unfold wp_X4_counts_B2 at hF
      refine lv_iload_n hx hb dX4_counts_2 rfl (lv_at hl 0 rfl) ?_
      refine lv_aload_n hx hb dX4_counts_3 rfl (lv_at hl 1 rfl) ?_
      refine va_get (D := (dC, dI)) (ci := 4) (v := .int (s_2.1 0)) (C := RX4) (T := TX4) (N := 19) hx hb hts in_X4 hown hK.1 hP 0 rfl rfl 13 (by decide) (hts _ q963) (fun _ h9 => h9) rfl dX4_counts_4 ?_
      refine lv_icmp_gt (tgt := 109) hx hb dX4_counts_7 (by decide) (fun cz => ?_) (fun cz => ?_)
      · have hF := hF.1 cz
        exact hX2 s_2 hF _ _ hP hD hS _ (lv_sub hl [] rfl)
      · have hF := hF.2 cz
        refine lv_iconst (v := 0) hx hb dX4_counts_10 (by decide) ?_
        refine lv_istore_n (lv' := [(2, .int 0), (1, .int v1_2), (0, .ref (h 0))]) hx hb dX4_counts_11 rfl hl (by decide) rfl (fun ls hl => ?_)
        have hX12 : ∀ (s_103 : SX), (fun (s_103 : SX) => (rec2 (v1_2 + 1) s_103)) s_103 → ∀ (H : Heap) (locs : List Loc), va_P (dC, dI) classes (wC h cy s_103) H → va_D A (wC h cy s_103) → va_S A s.heap H locs → ∀ (ls : Array Slot), lv_has ls 4 [(1, .int v1_2), (0, .ref (h 0))] → W p l e ({ frames := 2, cells := 0, slots := 0, locals := 43 } : Room) s m ([.ref (h 0)] : List Value).toArray below meth c H locs 0 0 (MQ below (va_Qv (fun u => P u) (fun (u : SX) t => va_P (dC, dI) classes (wC h cy u) t.heap ∧ kwX dC dI cy t ∧ va_D A (wC h cy u)) A) ([.ref (h 0)] : List Value).toArray s 0 0 A) (F0 m 103 ls []) := by
          intro s_103 hF H locs hP hD hS ls hl
          refine lv_iinc (v := v1_2 + 1) (lv' := [(1, .int (v1_2 + 1)), (0, .ref (h 0))]) hx hb dX4_counts_103 hl (k := 0) rfl (by rfl) (by decide) rfl (fun ls hl => ?_)
          refine lv_goto (tgt := 2) hx hb dX4_counts_106 (by decide) ?_
          exact ih (v1_2 + 1) s_103 hF _ _ hP hD hS _ (lv_sub hl [0, 1] rfl)
        have hL12 : ∀ (K12 : SX → Prop), (∀ (s_103 : SX), K12 s_103 → ∀ (H : Heap) (locs : List Loc), va_P (dC, dI) classes (wC h cy s_103) H → va_D A (wC h cy s_103) → va_S A s.heap H locs → ∀ (ls : Array Slot), lv_has ls 4 [(1, .int v1_2), (0, .ref (h 0))] → W p l e ({ frames := 2, cells := 0, slots := 0, locals := 43 } : Room) s m ([.ref (h 0)] : List Value).toArray below meth c H locs 0 0 (MQ below (va_Qv (fun u => P u) (fun (u : SX) t => va_P (dC, dI) classes (wC h cy u) t.heap ∧ kwX dC dI cy t ∧ va_D A (wC h cy u)) A) ([.ref (h 0)] : List Value).toArray s 0 0 A) (F0 m 103 ls [])) → ∀ (nn : Nat), ∀ (v2_12 : Int32), ∀ (s_12 : SX), wp_X4_counts_L12 fu v1_2 K12 nn v2_12 s_12 → ∀ (H : Heap) (locs : List Loc), va_P (dC, dI) classes (wC h cy s_12) H → va_D A (wC h cy s_12) → va_S A s.heap H locs → ∀ (ls : Array Slot), lv_has ls 4 [(2, .int v2_12), (1, .int v1_2), (0, .ref (h 0))] → W p l e ({ frames := 2, cells := 0, slots := 0, locals := 43 } : Room) s m ([.ref (h 0)] : List Value).toArray below meth c H locs 0 0 (MQ below (va_Qv (fun u => P u) (fun (u : SX) t => va_P (dC, dI) classes (wC h cy u) t.heap ∧ kwX dC dI cy t ∧ va_D A (wC h cy u)) A) ([.ref (h 0)] : List Value).toArray s 0 0 A) (F0 m 12 ls []) := by
          intro K12 hX12 nn
          induction nn with
          | zero =>
            intro v2_12 s_12 hF
            exact hF.elim
          | succ nn ih =>
            intro v2_12 s_12 hF H locs hP hD hS ls hl
            obtain ⟨rec12, hrec⟩ : ∃ z : Int32 → SX → Prop, z = wp_X4_counts_L12 fu v1_2 K12 nn := ⟨_, rfl⟩
            have hF : wp_X4_counts_B12 fu v1_2 K12 rec12 v2_12 s_12 := by rw [hrec]; exact hF
            rw [← hrec] at ih
            clear hrec
            unfold wp_X4_counts_B12 at hF
            refine lv_iload_n hx hb dX4_counts_12 rfl (lv_at hl 0 rfl) ?_
            refine lv_iconst (v := 1) hx hb dX4_counts_13 (by decide) ?_
            refine lv_aload_n hx hb dX4_counts_14 rfl (lv_at hl 2 rfl) ?_
            refine va_get (D := (dC, dI)) (ci := 4) (v := .int (s_12.1 0)) (C := RX4) (T := TX4) (N := 19) hx hb hts in_X4 hown hK.1 hP 0 rfl rfl 13 (by decide) (hts _ q963) (fun _ h9 => h9) rfl dX4_counts_15 ?_
            refine lv_ishl hx hb dX4_counts_18 ?_
            refine lv_icmp_ge (tgt := 103) hx hb dX4_counts_19 (by decide) (fun cz => ?_) (fun cz => ?_)
            · have hF := hF.1 cz
              exact hX12 s_12 hF _ _ hP hD hS _ (lv_sub hl [1, 2] rfl)
            · have hF := hF.2 cz
              refine lv_iload_n hx hb dX4_counts_22 rfl (lv_at hl 0 rfl) ?_
              refine cpSi (As := [.int v2_12]) (rest := []) ⟨hx, hb, hr, hml, hown, hts, hlocks⟩ (m_J6_bitCount_0f7a4 l v2_12 _ hF) k_J6_bitCount_0f7a4 q1319 ⟨rfl, rfl⟩ ⟨Nat.le_of_ble_eq_true rfl, Nat.le_of_ble_eq_true rfl⟩ hl.1 rfl rfl (Nat.le_of_ble_eq_true rfl) dX4_counts_23 ⟨Nat.le_of_ble_eq_true rfl, Nat.le_of_ble_eq_true rfl⟩ (fun r23 hF => ?_)
              refine lv_iload_n hx hb dX4_counts_26 rfl (lv_at hl 1 rfl) ?_
              have hJ97 : ∀ (s_97 : SX), wp_X4_counts_J97 rec12 v2_12 s_97 → ∀ (H : Heap) (locs : List Loc), va_P (dC, dI) classes (wC h cy s_97) H → va_D A (wC h cy s_97) → va_S A s.heap H locs → ∀ (ls : Array Slot), lv_has ls 4 [(2, .int v2_12), (1, .int v1_2), (0, .ref (h 0))] → W p l e ({ frames := 2, cells := 0, slots := 0, locals := 43 } : Room) s m ([.ref (h 0)] : List Value).toArray below meth c H locs 0 0 (MQ below (va_Qv (fun u => P u) (fun (u : SX) t => va_P (dC, dI) classes (wC h cy u) t.heap ∧ kwX dC dI cy t ∧ va_D A (wC h cy u)) A) ([.ref (h 0)] : List Value).toArray s 0 0 A) (F0 m 97 ls []) := by
                intro s_97 hF H locs hP hD hS ls hl
                unfold wp_X4_counts_J97 at hF
                refine lv_iinc (v := v2_12 + 1) (lv' := [(2, .int (v2_12 + 1)), (1, .int v1_2), (0, .ref (h 0))]) hx hb dX4_counts_97 hl (k := 0) rfl (by rfl) (by decide) rfl (fun ls hl => ?_)
                refine lv_goto (tgt := 12) hx hb dX4_counts_100 (by decide) ?_
                exact ih (v2_12 + 1) s_97 hF _ _ hP hD hS _ (lv_sub hl [0, 1, 2] rfl)
              refine lv_icmp_eq (tgt := 33) hx hb dX4_counts_27 (by decide) (fun cz => ?_) (fun cz => ?_)
              · have hF := hF.1 cz
                refine lv_aload_n hx hb dX4_counts_33 rfl (lv_at hl 2 rfl) ?_
                refine va_get (D := (dC, dI)) (ci := 4) (v := .ref (h 7)) (C := RX4) (T := TX4) (N := 19) hx hb hts in_X4 hown hK.1 hP 0 rfl rfl 9 (by decide) (hts _ q959) (fun _ h9 => h9) rfl dX4_counts_34 ?_
                refine lv_iload_n hx hb dX4_counts_37 rfl (lv_at hl 0 rfl) ?_
                refine lv_iload_n hx hb dX4_counts_38 rfl (lv_at hl 0 rfl) ?_
                refine lv_aload_n hx hb dX4_counts_39 rfl (lv_at hl 2 rfl) ?_
                refine va_get (D := (dC, dI)) (ci := 4) (v := .int (s_12.1 3)) (C := RX4) (T := TX4) (N := 19) hx hb hts in_X4 hown hK.1 hP 0 rfl rfl 16 (by decide) (hts _ q966) (fun _ h9 => h9) rfl dX4_counts_40 ?_
                have hJ51 : ∀ (t2_51 : Int64), wp_X4_counts_J51 fu rec12 v2_12 s_12 t2_51 → ∀ (H : Heap) (locs : List Loc), va_P (dC, dI) classes (wC h cy s_12) H → va_D A (wC h cy s_12) → va_S A s.heap H locs → ∀ (ls : Array Slot), lv_has ls 4 [(2, .int v2_12), (1, .int v1_2), (0, .ref (h 0))] → W p l e ({ frames := 2, cells := 0, slots := 0, locals := 43 } : Room) s m ([.ref (h 0)] : List Value).toArray below meth c H locs 0 0 (MQ below (va_Qv (fun u => P u) (fun (u : SX) t => va_P (dC, dI) classes (wC h cy u) t.heap ∧ kwX dC dI cy t ∧ va_D A (wC h cy u)) A) ([.ref (h 0)] : List Value).toArray s 0 0 A) (F0 m 51 ls [.long t2_51, .int v2_12, .ref (h 7)]) := by
                  intro t2_51 hF H locs hP hD hS ls hl
                  unfold wp_X4_counts_J51 at hF
                  have hI := hF.1
                  have hF := hF.2
                  refine va_last hx hb hK.1 hP hD hS 7 1 rfl rfl hI dX4_counts_51 (fun H locs hP hD hS => ?_)
                  have hP : va_P (dC, dI) classes (wC h cy (sJ s_12 (vp_updL s_12.2.2 v2_12.toNatClampNeg t2_51))) H := hP
                  have hD : va_D A (wC h cy (sJ s_12 (vp_updL s_12.2.2 v2_12.toNatClampNeg t2_51))) := hD
                  refine lv_iconst (v := 0) hx hb dX4_counts_52 (by decide) ?_
                  refine lv_istore_n (lv' := [(3, .int 0), (2, .int v2_12), (1, .int v1_2), (0, .ref (h 0))]) hx hb dX4_counts_53 rfl hl (by decide) rfl (fun ls hl => ?_)
                  have hX54 : ∀ (s_97 : SX), (fun (s_97 : SX) => (wp_X4_counts_J97 rec12 v2_12 s_97)) s_97 → ∀ (H : Heap) (locs : List Loc), va_P (dC, dI) classes (wC h cy s_97) H → va_D A (wC h cy s_97) → va_S A s.heap H locs → ∀ (ls : Array Slot), lv_has ls 4 [(2, .int v2_12), (1, .int v1_2), (0, .ref (h 0))] → W p l e ({ frames := 2, cells := 0, slots := 0, locals := 43 } : Room) s m ([.ref (h 0)] : List Value).toArray below meth c H locs 0 0 (MQ below (va_Qv (fun u => P u) (fun (u : SX) t => va_P (dC, dI) classes (wC h cy u) t.heap ∧ kwX dC dI cy t ∧ va_D A (wC h cy u)) A) ([.ref (h 0)] : List Value).toArray s 0 0 A) (F0 m 97 ls []) := by
                    intro s_97 hF H locs hP hD hS ls hl
                    exact hJ97 s_97 hF _ _ hP hD hS _ (lv_sub hl [0, 1, 2] rfl)
                  have hL54 : ∀ (K54 : SX → Prop), (∀ (s_97 : SX), K54 s_97 → ∀ (H : Heap) (locs : List Loc), va_P (dC, dI) classes (wC h cy s_97) H → va_D A (wC h cy s_97) → va_S A s.heap H locs → ∀ (ls : Array Slot), lv_has ls 4 [(2, .int v2_12), (1, .int v1_2), (0, .ref (h 0))] → W p l e ({ frames := 2, cells := 0, slots := 0, locals := 43 } : Room) s m ([.ref (h 0)] : List Value).toArray below meth c H locs 0 0 (MQ below (va_Qv (fun u => P u) (fun (u : SX) t => va_P (dC, dI) classes (wC h cy u) t.heap ∧ kwX dC dI cy t ∧ va_D A (wC h cy u)) A) ([.ref (h 0)] : List Value).toArray s 0 0 A) (F0 m 97 ls [])) → ∀ (nn : Nat), ∀ (v3_54 : Int32), ∀ (s_54 : SX), wp_X4_counts_L54 v2_12 K54 nn v3_54 s_54 → ∀ (H : Heap) (locs : List Loc), va_P (dC, dI) classes (wC h cy s_54) H → va_D A (wC h cy s_54) → va_S A s.heap H locs → ∀ (ls : Array Slot), lv_has ls 4 [(3, .int v3_54), (2, .int v2_12), (1, .int v1_2), (0, .ref (h 0))] → W p l e ({ frames := 2, cells := 0, slots := 0, locals := 43 } : Room) s m ([.ref (h 0)] : List Value).toArray below meth c H locs 0 0 (MQ below (va_Qv (fun u => P u) (fun (u : SX) t => va_P (dC, dI) classes (wC h cy u) t.heap ∧ kwX dC dI cy t ∧ va_D A (wC h cy u)) A) ([.ref (h 0)] : List Value).toArray s 0 0 A) (F0 m 54 ls []) := by
                    intro K54 hX54 nn
                    induction nn with
                    | zero =>
                      intro v3_54 s_54 hF
                      exact hF.elim
                    | succ nn ih =>
                      intro v3_54 s_54 hF H locs hP hD hS ls hl
                      obtain ⟨rec54, hrec⟩ : ∃ z : Int32 → SX → Prop, z = wp_X4_counts_L54 v2_12 K54 nn := ⟨_, rfl⟩
                      have hF : wp_X4_counts_B54 v2_12 K54 rec54 v3_54 s_54 := by rw [hrec]; exact hF
                      rw [← hrec] at ih
                      clear hrec
                      unfold wp_X4_counts_B54 at hF
                      refine lv_iload_n hx hb dX4_counts_54 rfl (lv_at hl 0 rfl) ?_
                      refine lv_aload_n hx hb dX4_counts_55 rfl (lv_at hl 3 rfl) ?_
                      refine va_get (D := (dC, dI)) (ci := 4) (v := .int (s_54.1 1)) (C := RX4) (T := TX4) (N := 19) hx hb hts in_X4 hown hK.1 hP 0 rfl rfl 14 (by decide) (hts _ q964) (fun _ h9 => h9) rfl dX4_counts_56 ?_
                      refine lv_icmp_ge (tgt := 97) hx hb dX4_counts_59 (by decide) (fun cz => ?_) (fun cz => ?_)
                      · have hF := hF.1 cz
                        exact hX54 s_54 hF _ _ hP hD hS _ (lv_sub hl [1, 2, 3] rfl)
                      · have hF := hF.2 cz
                        refine lv_aload_n hx hb dX4_counts_62 rfl (lv_at hl 3 rfl) ?_
                        refine lv_iload_n hx hb dX4_counts_63 rfl (lv_at hl 1 rfl) ?_
                        refine lv_iload_n hx hb dX4_counts_64 rfl (lv_at hl 0 rfl) ?_
                        refine cpVi (q0 := 0) (As := [.int v2_12, .int v3_54]) (rest := []) ⟨hx, hb, hr, hml, hown, hts, hlocks⟩ hK hP rfl rfl (m_X4_can l dC dI h cy s_54 v2_12 v3_54 _ hF) k_X4_can q1214 ⟨rfl, rfl⟩ ⟨Nat.le_of_ble_eq_true rfl, Nat.le_of_ble_eq_true rfl⟩ hl.1 rfl rfl (Nat.le_of_ble_eq_true rfl) dX4_counts_65 ⟨Nat.le_of_ble_eq_true rfl, Nat.le_of_ble_eq_true rfl⟩ (fun r65 hF => ?_)
                        have hJ91 : ∀ (s_91 : SX), wp_X4_counts_J91 rec54 v3_54 s_91 → ∀ (H : Heap) (locs : List Loc), va_P (dC, dI) classes (wC h cy s_91) H → va_D A (wC h cy s_91) → va_S A s.heap H locs → ∀ (ls : Array Slot), lv_has ls 4 [(3, .int v3_54), (2, .int v2_12), (1, .int v1_2), (0, .ref (h 0))] → W p l e ({ frames := 2, cells := 0, slots := 0, locals := 43 } : Room) s m ([.ref (h 0)] : List Value).toArray below meth c H locs 0 0 (MQ below (va_Qv (fun u => P u) (fun (u : SX) t => va_P (dC, dI) classes (wC h cy u) t.heap ∧ kwX dC dI cy t ∧ va_D A (wC h cy u)) A) ([.ref (h 0)] : List Value).toArray s 0 0 A) (F0 m 91 ls []) := by
                          intro s_91 hF H locs hP hD hS ls hl
                          unfold wp_X4_counts_J91 at hF
                          refine lv_iinc (v := v3_54 + 1) (lv' := [(3, .int (v3_54 + 1)), (2, .int v2_12), (1, .int v1_2), (0, .ref (h 0))]) hx hb dX4_counts_91 hl (k := 0) rfl (by rfl) (by decide) rfl (fun ls hl => ?_)
                          refine lv_goto (tgt := 54) hx hb dX4_counts_94 (by decide) ?_
                          exact ih (v3_54 + 1) s_91 hF _ _ hP hD hS _ (lv_sub hl [0, 1, 2, 3] rfl)
                        refine lv_if_eq (tgt := 91) hx hb dX4_counts_68 (by decide) (fun cz => ?_) (fun cz => ?_)
                        · have hF := hF.1 cz
                          exact hJ91 s_54 hF _ _ hP hD hS _ (lv_sub hl [0, 1, 2, 3] rfl)
                        · have hF := hF.2 cz
                          refine lv_aload_n hx hb dX4_counts_71 rfl (lv_at hl 3 rfl) ?_
                          refine va_get (D := (dC, dI)) (ci := 4) (v := .ref (h 7)) (C := RX4) (T := TX4) (N := 19) hx hb hts in_X4 hown hK.1 hP 0 rfl rfl 9 (by decide) (hts _ q959) (fun _ h9 => h9) rfl dX4_counts_72 ?_
                          refine lv_iload_n hx hb dX4_counts_75 rfl (lv_at hl 1 rfl) ?_
                          refine lv_dup2_11 hx hb dX4_counts_76 rfl rfl ?_
                          have hI := hF.1
                          have hF := hF.2
                          refine va_lald hx hb hK.1 hP 7 1 rfl rfl hI dX4_counts_77 ?_
                          refine lv_aload_n hx hb dX4_counts_78 rfl (lv_at hl 3 rfl) ?_
                          refine va_get (D := (dC, dI)) (ci := 4) (v := .ref (h 7)) (C := RX4) (T := TX4) (N := 19) hx hb hts in_X4 hown hK.1 hP 0 rfl rfl 9 (by decide) (hts _ q959) (fun _ h9 => h9) rfl dX4_counts_79 ?_
                          refine lv_aload_n hx hb dX4_counts_82 rfl (lv_at hl 3 rfl) ?_
                          refine lv_iload_n hx hb dX4_counts_83 rfl (lv_at hl 1 rfl) ?_
                          refine lv_iload_n hx hb dX4_counts_84 rfl (lv_at hl 0 rfl) ?_
                          refine cpVi (q0 := 0) (As := [.int v2_12, .int v3_54]) (rest := [.ref (h 7), .long (s_54.2.2 v2_12.toNatClampNeg), .int v2_12, .ref (h 7)]) ⟨hx, hb, hr, hml, hown, hts, hlocks⟩ hK hP rfl rfl (m_X4_behind l dC dI h cy s_54 v2_12 v3_54 _ hF) k_X4_behind q1230 ⟨rfl, rfl⟩ ⟨Nat.le_of_ble_eq_true rfl, Nat.le_of_ble_eq_true rfl⟩ hl.1 rfl rfl (Nat.le_of_ble_eq_true rfl) dX4_counts_85 ⟨Nat.le_of_ble_eq_true rfl, Nat.le_of_ble_eq_true rfl⟩ (fun r85 hF => ?_)
                          have hI := hF.1
                          have hF := hF.2
                          refine va_lald hx hb hK.1 hP 7 1 rfl rfl hI dX4_counts_88 ?_
                          refine lv_ladd hx hb dX4_counts_89 ?_
                          have hI := hF.1
                          have hF := hF.2
                          refine va_last hx hb hK.1 hP hD hS 7 1 rfl rfl hI dX4_counts_90 (fun H locs hP hD hS => ?_)
                          have hP : va_P (dC, dI) classes (wC h cy (sJ s_54 (vp_updL s_54.2.2 v2_12.toNatClampNeg ((s_54.2.2 v2_12.toNatClampNeg) + (s_54.2.2 r85.toNatClampNeg))))) H := hP
                          have hD : va_D A (wC h cy (sJ s_54 (vp_updL s_54.2.2 v2_12.toNatClampNeg ((s_54.2.2 v2_12.toNatClampNeg) + (s_54.2.2 r85.toNatClampNeg))))) := hD
                          exact hJ91 (sJ s_54 (vp_updL s_54.2.2 v2_12.toNatClampNeg ((s_54.2.2 v2_12.toNatClampNeg) + (s_54.2.2 r85.toNatClampNeg)))) hF _ _ hP hD hS _ (lv_sub hl [0, 1, 2, 3] rfl)
                  exact hL54 _ hX54 fu 0 (sJ s_12 (vp_updL s_12.2.2 v2_12.toNatClampNeg t2_51)) hF _ _ hP hD hS _ (lv_sub hl [0, 1, 2, 3] rfl)
                refine lv_icmp_ne (tgt := 50) hx hb dX4_counts_43 (by decide) (fun cz => ?_) (fun cz => ?_)
                · have hF := hF.1 cz
                  refine lv_lconst (v := 0) hx hb dX4_counts_50 (by decide) ?_
                  exact hJ51 0 hF _ _ hP hD hS _ (lv_sub hl [0, 1, 2] rfl)
                · have hF := hF.2 cz
                  refine lv_lconst (v := 1) hx hb dX4_counts_46 (by decide) ?_
                  refine lv_goto (tgt := 51) hx hb dX4_counts_47 (by decide) ?_
                  exact hJ51 1 hF _ _ hP hD hS _ (lv_sub hl [0, 1, 2] rfl)
              · have hF := hF.2 cz
                refine lv_goto (tgt := 97) hx hb dX4_counts_30 (by decide) ?_
                exact hJ97 s_12 hF _ _ hP hD hS _ (lv_sub hl [0, 1, 2] rfl)
        exact hL12 _ hX12 fu 0 s_2 hF _ _ hP hD hS _ (lv_sub hl [0, 1, 2] rfl)
  exact hL2 _ hX2 fu 0 σ hF _ _ hP hD hS _ (lv_sub hl [0, 1] rfl)
theorem dX4_waysNow_0 : decode cX4_waysNow 0 = .ok (.aload_n 0, 1) := by decide +kernel
theorem dX4_waysNow_1 : decode cX4_waysNow 1 = .ok (.invokevirtual 212, 3) := by decide +kernel
theorem dX4_waysNow_4 : decode cX4_waysNow 4 = .ok (.aload_n 0, 1) := by decide +kernel
theorem dX4_waysNow_5 : decode cX4_waysNow 5 = .ok (.getfield 41, 3) := by decide +kernel
theorem dX4_waysNow_8 : decode cX4_waysNow 8 = .ok (.aload_n 0, 1) := by decide +kernel
theorem dX4_waysNow_9 : decode cX4_waysNow 9 = .ok (.getfield 120, 3) := by decide +kernel
theorem dX4_waysNow_12 : decode cX4_waysNow 12 = .ok (.laload, 1) := by decide +kernel
theorem dX4_waysNow_13 : decode cX4_waysNow 13 = .ok (.lreturn, 1) := by decide +kernel
def wp_X4_waysNow (fu : Nat) (σ : SX) (P : Int64 → SX → Prop) : Prop := (wp_X4_counts fu σ  (fun s1 => (vp_in (s1.1 2) 8192 ∧ (P (s1.2.2 (s1.1 2).toNatClampNeg) s1))))
theorem k_X4_waysNow : KV RX4 yX4_waysNow cX4_waysNow 1 (some .long) 0 := ⟨q1412, qs45, q5, q1413, by decide +kernel⟩
set_option maxHeartbeats 4000000 in
set_option maxRecDepth 100000 in
theorem m_X4_waysNow (l : Launch) (dC : Nat → ClassId) (dI : Nat → Nat → Nat) (h : Nat → Nat) (cy : Nat → ClassId) (sz : Nat) (fu : Nat) (σ : SX) (P : Int64 → SX → Prop) (hF : wp_X4_waysNow fu σ P) : Met l yX4_waysNow (ws_ yX4_waysNow cX4_waysNow 1 (some .long)) ({ frames := 3, cells := 0, slots := 0, locals := 66 } : Room) (va_Pc [.ref (h 0)] (fun U => U.heap.size = sz ∧ va_P (dC, dI) classes (wC h cy σ) U.heap ∧ kwX dC dI cy U ∧ va_D (fun _ => True) (wC h cy σ))) (va_Ql (fun r u => P r u) (fun (u : SX) t => va_P (dC, dI) classes (wC h cy u) t.heap ∧ kwX dC dI cy t ∧ va_D (va_A (wC h cy σ) sz) (wC h cy u)) (va_A (wC h cy σ) sz)) 0 0 (va_A (wC h cy σ) sz) := by
  refine Met.ofCx (own := RX4) (by decide) rfl (Nat.le_of_ble_eq_true rfl) ?_
  intro p e s m below meth c hC hv ls hl
  obtain ⟨hx, hb, hr, hml, hown, hts, hlocks⟩ := hC
  have hl : lv_has ls 1 [(0, .ref (h 0))] := hl
  obtain ⟨hsz, hP, hK, hD0⟩ := hv
  subst hsz
  have hD := hD0.self (sz := s.heap.size)
  generalize hAe : va_A (wC h cy σ) s.heap.size = A at hD ⊢
  have hA : ∀ q : Nat, s.heap.size ≤ q → A q := fun q h => by rw [← hAe]; exact Or.inr h
  have hS : va_S A s.heap s.heap [] := va_S.rf
  clear hAe
  unfold wp_X4_waysNow at hF
  refine lv_aload_n hx hb dX4_waysNow_0 rfl (lv_at hl 0 rfl) ?_
  have hFc := va_free (wc := wC h cy σ) hD hS hA [0, 1, 2, 3, 4, 5, 6, 7, 8, 9] rfl
  refine cwVv (q0 := 0) (As := []) (rest := []) ⟨hx, hb, hr, hml, hown, hts, hlocks⟩ hK hP hD rfl rfl hS hFc (m_X4_counts l dC dI h cy _ fu σ  _ hF) k_X4_counts q1414 ⟨rfl, rfl⟩ ⟨Nat.le_of_ble_eq_true rfl, Nat.le_of_ble_eq_true rfl⟩ hl.1 rfl rfl (Nat.le_of_ble_eq_true rfl) dX4_waysNow_1 ⟨Nat.le_of_ble_eq_true rfl, Nat.le_of_ble_eq_true rfl⟩ (fun u H1 locs hF hP1 hD1 hk1 hS => ?_)
  obtain ⟨s1, rfl⟩ : ∃ z, z = u := ⟨_, rfl⟩
  have hP := hP1
  have hD := hD1.weaken (fun _ q _ h => hFc q.1 h)
  generalize H1 = H at hP hS ⊢
  have hP : va_P (dC, dI) classes (wC h cy s1) H := hP
  have hD : va_D A (wC h cy s1) := hD
  refine lv_aload_n hx hb dX4_waysNow_4 rfl (lv_at hl 0 rfl) ?_
  refine va_get (D := (dC, dI)) (ci := 4) (v := .ref (h 7)) (C := RX4) (T := TX4) (N := 19) hx hb hts in_X4 hown hK.1 hP 0 rfl rfl 9 (by decide) (hts _ q959) (fun _ h9 => h9) rfl dX4_waysNow_5 ?_
  refine lv_aload_n hx hb dX4_waysNow_8 rfl (lv_at hl 0 rfl) ?_
  refine va_get (D := (dC, dI)) (ci := 4) (v := .int (s1.1 2)) (C := RX4) (T := TX4) (N := 19) hx hb hts in_X4 hown hK.1 hP 0 rfl rfl 15 (by decide) (hts _ q965) (fun _ h9 => h9) rfl dX4_waysNow_9 ?_
  have hI := hF.1
  have hF := hF.2
  refine va_lald hx hb hK.1 hP 7 1 rfl rfl hI dX4_waysNow_12 ?_
  exact W.lret (v := s1.2.2 (s1.1 2).toNatClampNeg) hx hb hr (fun t ht hW => ⟨⟨s1.2.2 (s1.1 2).toNatClampNeg, s1, rfl, hF, by rw [ht]; exact hP, hK.warm hW, hD⟩, hS.F ht⟩) hS.2.2 dX4_waysNow_13
theorem dX4_canEnd_0 : decode cX4_canEnd 0 = .ok (.aload_n 0, 1) := by decide +kernel
theorem dX4_canEnd_1 : decode cX4_canEnd 1 = .ok (.iconst 0, 1) := by decide +kernel
theorem dX4_canEnd_2 : decode cX4_canEnd 2 = .ok (.putfield 60, 3) := by decide +kernel
theorem dX4_canEnd_5 : decode cX4_canEnd 5 = .ok (.aload_n 0, 1) := by decide +kernel
theorem dX4_canEnd_6 : decode cX4_canEnd 6 = .ok (.invokevirtual 215, 3) := by decide +kernel
theorem dX4_canEnd_9 : decode cX4_canEnd 9 = .ok (.lconst 0, 1) := by decide +kernel
theorem dX4_canEnd_10 : decode cX4_canEnd 10 = .ok (.lcmp, 1) := by decide +kernel
theorem dX4_canEnd_11 : decode cX4_canEnd 11 = .ok (.ifCond .le 7, 3) := by decide +kernel
theorem dX4_canEnd_14 : decode cX4_canEnd 14 = .ok (.iconst 1, 1) := by decide +kernel
theorem dX4_canEnd_15 : decode cX4_canEnd 15 = .ok (.goto 4, 3) := by decide +kernel
theorem dX4_canEnd_18 : decode cX4_canEnd 18 = .ok (.iconst 0, 1) := by decide +kernel
theorem dX4_canEnd_19 : decode cX4_canEnd 19 = .ok (.ireturn, 1) := by decide +kernel
def wp_X4_canEnd (fu : Nat) (σ : SX) (P : Int32 → SX → Prop) : Prop := (wp_X4_waysNow fu (sI σ 5 0)  (fun r6 s6 => (((lg_cmp r6 0) ≤ 0 → (P 0 s6)) ∧ (¬ (lg_cmp r6 0) ≤ 0 → (P 1 s6)))))
theorem k_X4_canEnd : KV RX4 yX4_canEnd cX4_canEnd 1 (some .boolean) 0 := ⟨q1407, q1408, q5, q1409, by decide +kernel⟩
set_option maxHeartbeats 4000000 in
set_option maxRecDepth 100000 in
theorem m_X4_canEnd (l : Launch) (dC : Nat → ClassId) (dI : Nat → Nat → Nat) (h : Nat → Nat) (cy : Nat → ClassId) (sz : Nat) (fu : Nat) (σ : SX) (P : Int32 → SX → Prop) (hF : wp_X4_canEnd fu σ P) : Met l yX4_canEnd (ws_ yX4_canEnd cX4_canEnd 1 (some .boolean)) ({ frames := 4, cells := 0, slots := 0, locals := 86 } : Room) (va_Pc [.ref (h 0)] (fun U => U.heap.size = sz ∧ va_P (dC, dI) classes (wC h cy σ) U.heap ∧ kwX dC dI cy U ∧ va_D (fun _ => True) (wC h cy σ))) (va_Qi (fun r u => P r u) (fun (u : SX) t => va_P (dC, dI) classes (wC h cy u) t.heap ∧ kwX dC dI cy t ∧ va_D (va_A (wC h cy σ) sz) (wC h cy u)) (va_A (wC h cy σ) sz)) 0 0 (va_A (wC h cy σ) sz) := by
  refine Met.ofCx (own := RX4) (by decide) rfl (Nat.le_of_ble_eq_true rfl) ?_
  intro p e s m below meth c hC hv ls hl
  obtain ⟨hx, hb, hr, hml, hown, hts, hlocks⟩ := hC
  have hl : lv_has ls 1 [(0, .ref (h 0))] := hl
  obtain ⟨hsz, hP, hK, hD0⟩ := hv
  subst hsz
  have hD := hD0.self (sz := s.heap.size)
  generalize hAe : va_A (wC h cy σ) s.heap.size = A at hD ⊢
  have hA : ∀ q : Nat, s.heap.size ≤ q → A q := fun q h => by rw [← hAe]; exact Or.inr h
  have hS : va_S A s.heap s.heap [] := va_S.rf
  clear hAe
  unfold wp_X4_canEnd at hF
  refine lv_aload_n hx hb dX4_canEnd_0 rfl (lv_at hl 0 rfl) ?_
  refine lv_iconst (v := 0) hx hb dX4_canEnd_1 (by decide) ?_
  refine va_put (D := (dC, dI)) (ci := 4) (v := .int 0) (ty := .int) (C := RX4) (T := TX4) (N := 19) hx hb hts in_X4 tyX4 tyX4_ok nmX4 hown hK.1 hP hD hS 0 rfl rfl 18 (by decide) (hts _ q968) (fun _ h9 => h9) rfl (by decide +kernel) rfl rfl (Nat.le_of_ble_eq_true rfl) dX4_canEnd_2 (fun H locs hP hD hS => ?_)
  have hP : va_P (dC, dI) classes (wC h cy (sI σ 5 0)) H := hP
  have hD : va_D A (wC h cy (sI σ 5 0)) := hD
  refine lv_aload_n hx hb dX4_canEnd_5 rfl (lv_at hl 0 rfl) ?_
  have hFc := va_free (wc := wC h cy (sI σ 5 0)) hD hS hA [0, 1, 2, 3, 4, 5, 6, 7, 8, 9] rfl
  refine cwVl (q0 := 0) (As := []) (rest := []) ⟨hx, hb, hr, hml, hown, hts, hlocks⟩ hK hP hD rfl rfl hS hFc (m_X4_waysNow l dC dI h cy _ fu (sI σ 5 0)  _ hF) k_X4_waysNow q1410 ⟨rfl, rfl⟩ ⟨Nat.le_of_ble_eq_true rfl, Nat.le_of_ble_eq_true rfl⟩ hl.1 rfl rfl (Nat.le_of_ble_eq_true rfl) dX4_canEnd_6 ⟨Nat.le_of_ble_eq_true rfl, Nat.le_of_ble_eq_true rfl⟩ (fun r6 u H1 locs hF hP1 hD1 hk1 hS => ?_)
  obtain ⟨s6, rfl⟩ : ∃ z, z = u := ⟨_, rfl⟩
  have hP := hP1
  have hD := hD1.weaken (fun _ q _ h => hFc q.1 h)
  generalize H1 = H at hP hS ⊢
  have hP : va_P (dC, dI) classes (wC h cy s6) H := hP
  have hD : va_D A (wC h cy s6) := hD
  refine lv_lconst (v := 0) hx hb dX4_canEnd_9 (by decide) ?_
  refine W.lcmp hx hb dX4_canEnd_10 ?_
  refine lv_if_le (tgt := 18) hx hb dX4_canEnd_11 (by decide) (fun cz => ?_) (fun cz => ?_)
  · have hF := hF.1 cz
    refine lv_iconst (v := 0) hx hb dX4_canEnd_18 (by decide) ?_
    exact W.zret (v := 0) hx hb hr rfl (fun t ht hW => ⟨⟨0, s6, rfl, hF, by rw [ht]; exact hP, hK.warm hW, hD⟩, hS.F ht⟩) hS.2.2 dX4_canEnd_19
  · have hF := hF.2 cz
    refine lv_iconst (v := 1) hx hb dX4_canEnd_14 (by decide) ?_
    refine lv_goto (tgt := 19) hx hb dX4_canEnd_15 (by decide) ?_
    exact W.zret (v := 1) hx hb hr rfl (fun t ht hW => ⟨⟨1, s6, rfl, hF, by rw [ht]; exact hP, hK.warm hW, hD⟩, hS.F ht⟩) hS.2.2 dX4_canEnd_19
theorem dX4_in_0 : decode cX4_in 0 = .ok (.iload_n 0, 1) := by decide +kernel
theorem dX4_in_1 : decode cX4_in 1 = .ok (.iload_n 1, 1) := by decide +kernel
theorem dX4_in_2 : decode cX4_in 2 = .ok (.if_icmp .lt 12, 3) := by decide +kernel
theorem dX4_in_5 : decode cX4_in 5 = .ok (.iload_n 0, 1) := by decide +kernel
theorem dX4_in_6 : decode cX4_in 6 = .ok (.iload_n 2, 1) := by decide +kernel
theorem dX4_in_7 : decode cX4_in 7 = .ok (.if_icmp .gt 7, 3) := by decide +kernel
theorem dX4_in_10 : decode cX4_in 10 = .ok (.iconst 1, 1) := by decide +kernel
theorem dX4_in_11 : decode cX4_in 11 = .ok (.goto 4, 3) := by decide +kernel
theorem dX4_in_14 : decode cX4_in 14 = .ok (.iconst 0, 1) := by decide +kernel
theorem dX4_in_15 : decode cX4_in 15 = .ok (.ireturn, 1) := by decide +kernel
def wp_X4_in (x0 : Int32) (x1 : Int32) (x2 : Int32) (P : Int32 → Prop) : Prop := ((x0 < x1 → (P 0)) ∧ (¬ x0 < x1 → ((x2 < x0 → (P 0)) ∧ (¬ x2 < x0 → (P 1)))))
theorem k_X4_in : KS yX4_in cX4_in 3 (some .boolean) 3 := ⟨q938, q5, q939, by decide +kernel⟩
set_option maxHeartbeats 4000000 in
set_option maxRecDepth 100000 in
theorem m_X4_in (l : Launch) (x0 : Int32) (x1 : Int32) (x2 : Int32) (P : Int32 → Prop) (hF : wp_X4_in x0 x1 x2 P) : Met l yX4_in (ws_ yX4_in cX4_in 3 (some .boolean)) ({ frames := 0, cells := 0, slots := 0, locals := 0 } : Room) (va_Pc [.int x0, .int x1, .int x2] (fun _ => True)) (vp_Si P) 0 0 (fun _ => False) := by
  refine Met.ofCx (own := RX4) (by decide) rfl (Nat.le_of_ble_eq_true rfl) ?_
  intro p e s m below meth c hC hv ls hl
  obtain ⟨hx, hb, hr, hml, hown, hts, hlocks⟩ := hC
  have hl : lv_has ls 3 [(0, .int x0), (1, .int x1), (2, .int x2)] := hl
  unfold wp_X4_in at hF
  refine lv_iload_n hx hb dX4_in_0 rfl (lv_at hl 0 rfl) ?_
  refine lv_iload_n hx hb dX4_in_1 rfl (lv_at hl 1 rfl) ?_
  refine lv_icmp_lt (tgt := 14) hx hb dX4_in_2 (by decide) (fun cz => ?_) (fun cz => ?_)
  · have hF := hF.1 cz
    refine lv_iconst (v := 0) hx hb dX4_in_14 (by decide) ?_
    exact W.zret (v := 0) hx hb hr rfl (fun t ht hW => ⟨0, rfl, hF, ht⟩) (fun q hq => absurd hq List.not_mem_nil) dX4_in_15
  · have hF := hF.2 cz
    refine lv_iload_n hx hb dX4_in_5 rfl (lv_at hl 0 rfl) ?_
    refine lv_iload_n hx hb dX4_in_6 rfl (lv_at hl 2 rfl) ?_
    refine lv_icmp_gt (tgt := 14) hx hb dX4_in_7 (by decide) (fun cz => ?_) (fun cz => ?_)
    · have hF := hF.1 cz
      refine lv_iconst (v := 0) hx hb dX4_in_14 (by decide) ?_
      exact W.zret (v := 0) hx hb hr rfl (fun t ht hW => ⟨0, rfl, hF, ht⟩) (fun q hq => absurd hq List.not_mem_nil) dX4_in_15
    · have hF := hF.2 cz
      refine lv_iconst (v := 1) hx hb dX4_in_10 (by decide) ?_
      refine lv_goto (tgt := 15) hx hb dX4_in_11 (by decide) ?_
      exact W.zret (v := 1) hx hb hr rfl (fun t ht hW => ⟨1, rfl, hF, ht⟩) (fun q hq => absurd hq List.not_mem_nil) dX4_in_15
theorem dX4_isHole_0 : decode cX4_isHole 0 = .ok (.iload_n 1, 1) := by decide +kernel
theorem dX4_isHole_1 : decode cX4_isHole 1 = .ok (.iconst 0, 1) := by decide +kernel
theorem dX4_isHole_2 : decode cX4_isHole 2 = .ok (.aload_n 0, 1) := by decide +kernel
theorem dX4_isHole_3 : decode cX4_isHole 3 = .ok (.getfield 64, 3) := by decide +kernel
theorem dX4_isHole_6 : decode cX4_isHole 6 = .ok (.iconst 1, 1) := by decide +kernel
theorem dX4_isHole_7 : decode cX4_isHole 7 = .ok (.isub, 1) := by decide +kernel
theorem dX4_isHole_8 : decode cX4_isHole 8 = .ok (.invokestatic 67, 3) := by decide +kernel
theorem dX4_isHole_11 : decode cX4_isHole 11 = .ok (.ireturn, 1) := by decide +kernel
def wp_X4_isHole (σ : SX) (x1 : Int32) (P : Int32 → Prop) : Prop := (wp_X4_in x1 0 ((σ.1 0) - 1) (fun r8 => (narrow .boolean (.int r8) = .int r8 ∧ (P r8))))
theorem k_X4_isHole : KV RX4 yX4_isHole cX4_isHole 2 (some .boolean) 1 := ⟨q1161, qs29, q5, q1162, by decide +kernel⟩
set_option maxHeartbeats 4000000 in
set_option maxRecDepth 100000 in
theorem m_X4_isHole (l : Launch) (dC : Nat → ClassId) (dI : Nat → Nat → Nat) (h : Nat → Nat) (cy : Nat → ClassId) (σ : SX) (x1 : Int32) (P : Int32 → Prop) (hF : wp_X4_isHole σ x1 P) : Met l yX4_isHole (ws_ yX4_isHole cX4_isHole 2 (some .boolean)) ({ frames := 1, cells := 0, slots := 0, locals := 22 } : Room) (va_Pc [.ref (h 0), .int x1] (fun U => va_P (dC, dI) classes (wC h cy σ) U.heap ∧ kwX dC dI cy U)) (vp_Si P) 0 0 (fun _ => False) := by
  refine Met.ofCx (own := RX4) (by decide) rfl (Nat.le_of_ble_eq_true rfl) ?_
  intro p e s m below meth c hC hv ls hl
  obtain ⟨hx, hb, hr, hml, hown, hts, hlocks⟩ := hC
  have hl : lv_has ls 2 [(0, .ref (h 0)), (1, .int x1)] := hl
  obtain ⟨hP, hK⟩ := hv
  unfold wp_X4_isHole at hF
  refine lv_iload_n hx hb dX4_isHole_0 rfl (lv_at hl 1 rfl) ?_
  refine lv_iconst (v := 0) hx hb dX4_isHole_1 (by decide) ?_
  refine lv_aload_n hx hb dX4_isHole_2 rfl (lv_at hl 0 rfl) ?_
  refine va_get (D := (dC, dI)) (ci := 4) (v := .int (σ.1 0)) (C := RX4) (T := TX4) (N := 19) hx hb hts in_X4 hown hK.1 hP 0 rfl rfl 13 (by decide) (hts _ q963) (fun _ h9 => h9) rfl dX4_isHole_3 ?_
  refine lv_iconst (v := 1) hx hb dX4_isHole_6 (by decide) ?_
  refine lv_isub hx hb dX4_isHole_7 ?_
  refine cpSi (As := [.int x1, .int 0, .int ((σ.1 0) - 1)]) (rest := []) ⟨hx, hb, hr, hml, hown, hts, hlocks⟩ (m_X4_in l x1 0 ((σ.1 0) - 1) _ hF) k_X4_in q937 ⟨rfl, rfl⟩ ⟨Nat.le_of_ble_eq_true rfl, Nat.le_of_ble_eq_true rfl⟩ hl.1 rfl rfl (Nat.le_of_ble_eq_true rfl) dX4_isHole_8 ⟨Nat.le_of_ble_eq_true rfl, Nat.le_of_ble_eq_true rfl⟩ (fun r8 hF => ?_)
  exact W.zret (v := r8) hx hb hr hF.1 (fun t ht hW => ⟨r8, rfl, hF.2, ht⟩) (fun q hq => absurd hq List.not_mem_nil) dX4_isHole_11
theorem dX4_fails_0 : decode cX4_fails 0 = .ok (.aload_n 0, 1) := by decide +kernel
theorem dX4_fails_1 : decode cX4_fails 1 = .ok (.iload_n 1, 1) := by decide +kernel
theorem dX4_fails_2 : decode cX4_fails 2 = .ok (.putfield 60, 3) := by decide +kernel
theorem dX4_fails_5 : decode cX4_fails 5 = .ok (.iload_n 1, 1) := by decide +kernel
theorem dX4_fails_6 : decode cX4_fails 6 = .ok (.ifCond .le 7, 3) := by decide +kernel
theorem dX4_fails_9 : decode cX4_fails 9 = .ok (.iconst 1, 1) := by decide +kernel
theorem dX4_fails_10 : decode cX4_fails 10 = .ok (.goto 4, 3) := by decide +kernel
theorem dX4_fails_13 : decode cX4_fails 13 = .ok (.iconst 0, 1) := by decide +kernel
theorem dX4_fails_14 : decode cX4_fails 14 = .ok (.ireturn, 1) := by decide +kernel
def wp_X4_fails (σ : SX) (x1 : Int32) (P : Int32 → SX → Prop) : Prop := ((x1 ≤ 0 → (P 0 (sI σ 5 x1))) ∧ (¬ x1 ≤ 0 → (P 1 (sI σ 5 x1))))
theorem k_X4_fails : KV RX4 yX4_fails cX4_fails 2 (some .boolean) 1 := ⟨q1104, qs26, q5, q1105, by decide +kernel⟩
set_option maxHeartbeats 4000000 in
set_option maxRecDepth 100000 in
theorem m_X4_fails (l : Launch) (dC : Nat → ClassId) (dI : Nat → Nat → Nat) (h : Nat → Nat) (cy : Nat → ClassId) (sz : Nat) (σ : SX) (x1 : Int32) (P : Int32 → SX → Prop) (hF : wp_X4_fails σ x1 P) : Met l yX4_fails (ws_ yX4_fails cX4_fails 2 (some .boolean)) ({ frames := 0, cells := 0, slots := 0, locals := 0 } : Room) (va_Pc [.ref (h 0), .int x1] (fun U => U.heap.size = sz ∧ va_P (dC, dI) classes (wC h cy σ) U.heap ∧ kwX dC dI cy U ∧ va_D (fun _ => True) (wC h cy σ))) (va_Qi (fun r u => P r u) (fun (u : SX) t => va_P (dC, dI) classes (wC h cy u) t.heap ∧ kwX dC dI cy t ∧ va_D (va_A (wC h cy σ) sz) (wC h cy u)) (va_A (wC h cy σ) sz)) 0 0 (va_A (wC h cy σ) sz) := by
  refine Met.ofCx (own := RX4) (by decide) rfl (Nat.le_of_ble_eq_true rfl) ?_
  intro p e s m below meth c hC hv ls hl
  obtain ⟨hx, hb, hr, hml, hown, hts, hlocks⟩ := hC
  have hl : lv_has ls 2 [(0, .ref (h 0)), (1, .int x1)] := hl
  obtain ⟨hsz, hP, hK, hD0⟩ := hv
  subst hsz
  have hD := hD0.self (sz := s.heap.size)
  generalize hAe : va_A (wC h cy σ) s.heap.size = A at hD ⊢
  have hA : ∀ q : Nat, s.heap.size ≤ q → A q := fun q h => by rw [← hAe]; exact Or.inr h
  have hS : va_S A s.heap s.heap [] := va_S.rf
  clear hAe
  unfold wp_X4_fails at hF
  refine lv_aload_n hx hb dX4_fails_0 rfl (lv_at hl 0 rfl) ?_
  refine lv_iload_n hx hb dX4_fails_1 rfl (lv_at hl 1 rfl) ?_
  refine va_put (D := (dC, dI)) (ci := 4) (v := .int x1) (ty := .int) (C := RX4) (T := TX4) (N := 19) hx hb hts in_X4 tyX4 tyX4_ok nmX4 hown hK.1 hP hD hS 0 rfl rfl 18 (by decide) (hts _ q968) (fun _ h9 => h9) rfl (by decide +kernel) rfl rfl (Nat.le_of_ble_eq_true rfl) dX4_fails_2 (fun H locs hP hD hS => ?_)
  have hP : va_P (dC, dI) classes (wC h cy (sI σ 5 x1)) H := hP
  have hD : va_D A (wC h cy (sI σ 5 x1)) := hD
  refine lv_iload_n hx hb dX4_fails_5 rfl (lv_at hl 1 rfl) ?_
  refine lv_if_le (tgt := 13) hx hb dX4_fails_6 (by decide) (fun cz => ?_) (fun cz => ?_)
  · have hF := hF.1 cz
    refine lv_iconst (v := 0) hx hb dX4_fails_13 (by decide) ?_
    exact W.zret (v := 0) hx hb hr rfl (fun t ht hW => ⟨⟨0, sI σ 5 x1, rfl, hF, by rw [ht]; exact hP, hK.warm hW, hD⟩, hS.F ht⟩) hS.2.2 dX4_fails_14
  · have hF := hF.2 cz
    refine lv_iconst (v := 1) hx hb dX4_fails_9 (by decide) ?_
    refine lv_goto (tgt := 14) hx hb dX4_fails_10 (by decide) ?_
    exact W.zret (v := 1) hx hb hr rfl (fun t ht hW => ⟨⟨1, sI σ 5 x1, rfl, hF, by rw [ht]; exact hP, hK.warm hW, hD⟩, hS.F ht⟩) hS.2.2 dX4_fails_14
theorem dX4_cell_0 : decode cX4_cell 0 = .ok (.aload_n 0, 1) := by decide +kernel
theorem dX4_cell_1 : decode cX4_cell 1 = .ok (.aload_n 0, 1) := by decide +kernel
theorem dX4_cell_2 : decode cX4_cell 2 = .ok (.iload_n 1, 1) := by decide +kernel
theorem dX4_cell_3 : decode cX4_cell 3 = .ok (.invokevirtual 132, 3) := by decide +kernel
theorem dX4_cell_6 : decode cX4_cell 6 = .ok (.ifCond .eq 7, 3) := by decide +kernel
theorem dX4_cell_9 : decode cX4_cell 9 = .ok (.iconst 0, 1) := by decide +kernel
theorem dX4_cell_10 : decode cX4_cell 10 = .ok (.goto 4, 3) := by decide +kernel
theorem dX4_cell_13 : decode cX4_cell 13 = .ok (.iconst 1, 1) := by decide +kernel
theorem dX4_cell_14 : decode cX4_cell 14 = .ok (.invokevirtual 100, 3) := by decide +kernel
theorem dX4_cell_17 : decode cX4_cell 17 = .ok (.ifCond .eq 7, 3) := by decide +kernel
theorem dX4_cell_20 : decode cX4_cell 20 = .ok (.iconst 0, 1) := by decide +kernel
theorem dX4_cell_21 : decode cX4_cell 21 = .ok (.goto 9, 3) := by decide +kernel
theorem dX4_cell_24 : decode cX4_cell 24 = .ok (.aload_n 0, 1) := by decide +kernel
theorem dX4_cell_25 : decode cX4_cell 25 = .ok (.getfield 13, 3) := by decide +kernel
theorem dX4_cell_28 : decode cX4_cell 28 = .ok (.iload_n 1, 1) := by decide +kernel
theorem dX4_cell_29 : decode cX4_cell 29 = .ok (.iaload, 1) := by decide +kernel
theorem dX4_cell_30 : decode cX4_cell 30 = .ok (.ireturn, 1) := by decide +kernel
def wp_X4_cell_J14 (σ : SX) (x1 : Int32) (P : Int32 → SX → Prop) (t1_14 : Int32) : Prop := (wp_X4_fails σ t1_14 (fun r14 s14 => ((r14 = 0 → (vp_in x1 13 ∧ (P ((s14.2.1 1) x1.toNatClampNeg) s14))) ∧ (¬ r14 = 0 → (P 0 s14)))))
def wp_X4_cell (σ : SX) (x1 : Int32) (P : Int32 → SX → Prop) : Prop := (wp_X4_isHole σ x1 (fun r3 => ((r3 = 0 → (wp_X4_cell_J14 σ x1 P 1)) ∧ (¬ r3 = 0 → (wp_X4_cell_J14 σ x1 P 0)))))
theorem k_X4_cell : KV RX4 yX4_cell cX4_cell 2 (some .int) 1 := ⟨q1156, q1157, q5, q1158, by decide +kernel⟩
set_option maxHeartbeats 4000000 in
set_option maxRecDepth 100000 in
theorem m_X4_cell (l : Launch) (dC : Nat → ClassId) (dI : Nat → Nat → Nat) (h : Nat → Nat) (cy : Nat → ClassId) (sz : Nat) (σ : SX) (x1 : Int32) (P : Int32 → SX → Prop) (hF : wp_X4_cell σ x1 P) : Met l yX4_cell (ws_ yX4_cell cX4_cell 2 (some .int)) ({ frames := 2, cells := 0, slots := 0, locals := 43 } : Room) (va_Pc [.ref (h 0), .int x1] (fun U => U.heap.size = sz ∧ va_P (dC, dI) classes (wC h cy σ) U.heap ∧ kwX dC dI cy U ∧ va_D (fun _ => True) (wC h cy σ))) (va_Qi (fun r u => P r u) (fun (u : SX) t => va_P (dC, dI) classes (wC h cy u) t.heap ∧ kwX dC dI cy t ∧ va_D (va_A (wC h cy σ) sz) (wC h cy u)) (va_A (wC h cy σ) sz)) 0 0 (va_A (wC h cy σ) sz) := by
  refine Met.ofCx (own := RX4) (by decide) rfl (Nat.le_of_ble_eq_true rfl) ?_
  intro p e s m below meth c hC hv ls hl
  obtain ⟨hx, hb, hr, hml, hown, hts, hlocks⟩ := hC
  have hl : lv_has ls 2 [(0, .ref (h 0)), (1, .int x1)] := hl
  obtain ⟨hsz, hP, hK, hD0⟩ := hv
  subst hsz
  have hD := hD0.self (sz := s.heap.size)
  generalize hAe : va_A (wC h cy σ) s.heap.size = A at hD ⊢
  have hA : ∀ q : Nat, s.heap.size ≤ q → A q := fun q h => by rw [← hAe]; exact Or.inr h
  have hS : va_S A s.heap s.heap [] := va_S.rf
  clear hAe
  unfold wp_X4_cell at hF
  refine lv_aload_n hx hb dX4_cell_0 rfl (lv_at hl 0 rfl) ?_
  refine lv_aload_n hx hb dX4_cell_1 rfl (lv_at hl 0 rfl) ?_
  refine lv_iload_n hx hb dX4_cell_2 rfl (lv_at hl 1 rfl) ?_
  refine cpVi (q0 := 0) (As := [.int x1]) (rest := [.ref (h 0)]) ⟨hx, hb, hr, hml, hown, hts, hlocks⟩ hK hP rfl rfl (m_X4_isHole l dC dI h cy σ x1 _ hF) k_X4_isHole q1159 ⟨rfl, rfl⟩ ⟨Nat.le_of_ble_eq_true rfl, Nat.le_of_ble_eq_true rfl⟩ hl.1 rfl rfl (Nat.le_of_ble_eq_true rfl) dX4_cell_3 ⟨Nat.le_of_ble_eq_true rfl, Nat.le_of_ble_eq_true rfl⟩ (fun r3 hF => ?_)
  have hJ14 : ∀ (t1_14 : Int32), wp_X4_cell_J14 σ x1 P t1_14 → ∀ (H : Heap) (locs : List Loc), va_P (dC, dI) classes (wC h cy σ) H → va_D A (wC h cy σ) → va_S A s.heap H locs → ∀ (ls : Array Slot), lv_has ls 2 [(0, .ref (h 0)), (1, .int x1)] → W p l e ({ frames := 2, cells := 0, slots := 0, locals := 43 } : Room) s m ([.ref (h 0), .int x1] : List Value).toArray below meth c H locs 0 0 (MQ below (va_Qi (fun r u => P r u) (fun (u : SX) t => va_P (dC, dI) classes (wC h cy u) t.heap ∧ kwX dC dI cy t ∧ va_D A (wC h cy u)) A) ([.ref (h 0), .int x1] : List Value).toArray s 0 0 A) (F0 m 14 ls [.int t1_14, .ref (h 0)]) := by
    intro t1_14 hF H locs hP hD hS ls hl
    unfold wp_X4_cell_J14 at hF
    have hFc := va_free (wc := wC h cy σ) hD hS hA [0, 1, 2, 3, 4, 5, 6, 7, 8, 9] rfl
    refine cwVi (q0 := 0) (As := [.int t1_14]) (rest := []) ⟨hx, hb, hr, hml, hown, hts, hlocks⟩ hK hP hD rfl rfl hS hFc (m_X4_fails l dC dI h cy _ σ t1_14 _ hF) k_X4_fails q1102 ⟨rfl, rfl⟩ ⟨Nat.le_of_ble_eq_true rfl, Nat.le_of_ble_eq_true rfl⟩ hl.1 rfl rfl (Nat.le_of_ble_eq_true rfl) dX4_cell_14 ⟨Nat.le_of_ble_eq_true rfl, Nat.le_of_ble_eq_true rfl⟩ (fun r14 u H1 locs hF hP1 hD1 hk1 hS => ?_)
    obtain ⟨s14, rfl⟩ : ∃ z, z = u := ⟨_, rfl⟩
    have hP := hP1
    have hD := hD1.weaken (fun _ q _ h => hFc q.1 h)
    generalize H1 = H at hP hS ⊢
    have hP : va_P (dC, dI) classes (wC h cy s14) H := hP
    have hD : va_D A (wC h cy s14) := hD
    refine lv_if_eq (tgt := 24) hx hb dX4_cell_17 (by decide) (fun cz => ?_) (fun cz => ?_)
    · have hF := hF.1 cz
      refine lv_aload_n hx hb dX4_cell_24 rfl (lv_at hl 0 rfl) ?_
      refine va_get (D := (dC, dI)) (ci := 4) (v := .ref (h 2)) (C := RX4) (T := TX4) (N := 19) hx hb hts in_X4 hown hK.1 hP 0 rfl rfl 1 (by decide) (hts _ q951) (fun _ h9 => h9) rfl dX4_cell_25 ?_
      refine lv_iload_n hx hb dX4_cell_28 rfl (lv_at hl 1 rfl) ?_
      have hI := hF.1
      have hF := hF.2
      refine va_iald hx hb hK.1 hP 2 0 rfl rfl hI dX4_cell_29 ?_
      exact W.iret (v := (s14.2.1 1) x1.toNatClampNeg) hx hb hr (fun t ht hW => ⟨⟨(s14.2.1 1) x1.toNatClampNeg, s14, rfl, hF, by rw [ht]; exact hP, hK.warm hW, hD⟩, hS.F ht⟩) hS.2.2 dX4_cell_30
    · have hF := hF.2 cz
      refine lv_iconst (v := 0) hx hb dX4_cell_20 (by decide) ?_
      refine lv_goto (tgt := 30) hx hb dX4_cell_21 (by decide) ?_
      exact W.iret (v := 0) hx hb hr (fun t ht hW => ⟨⟨0, s14, rfl, hF, by rw [ht]; exact hP, hK.warm hW, hD⟩, hS.F ht⟩) hS.2.2 dX4_cell_30
  refine lv_if_eq (tgt := 13) hx hb dX4_cell_6 (by decide) (fun cz => ?_) (fun cz => ?_)
  · have hF := hF.1 cz
    refine lv_iconst (v := 1) hx hb dX4_cell_13 (by decide) ?_
    exact hJ14 1 hF _ _ hP hD hS _ (lv_sub hl [0, 1] rfl)
  · have hF := hF.2 cz
    refine lv_iconst (v := 0) hx hb dX4_cell_9 (by decide) ?_
    refine lv_goto (tgt := 14) hx hb dX4_cell_10 (by decide) ?_
    exact hJ14 0 hF _ _ hP hD hS _ (lv_sub hl [0, 1] rfl)
theorem dX4_codeOf_0 : decode cX4_codeOf 0 = .ok (.bipush 100, 2) := by decide +kernel
theorem dX4_codeOf_2 : decode cX4_codeOf 2 = .ok (.aload_n 0, 1) := by decide +kernel
theorem dX4_codeOf_3 : decode cX4_codeOf 3 = .ok (.getfield 19, 3) := by decide +kernel
theorem dX4_codeOf_6 : decode cX4_codeOf 6 = .ok (.iload_n 1, 1) := by decide +kernel
theorem dX4_codeOf_7 : decode cX4_codeOf 7 = .ok (.iaload, 1) := by decide +kernel
theorem dX4_codeOf_8 : decode cX4_codeOf 8 = .ok (.imul, 1) := by decide +kernel
theorem dX4_codeOf_9 : decode cX4_codeOf 9 = .ok (.aload_n 0, 1) := by decide +kernel
theorem dX4_codeOf_10 : decode cX4_codeOf 10 = .ok (.getfield 25, 3) := by decide +kernel
theorem dX4_codeOf_13 : decode cX4_codeOf 13 = .ok (.iload_n 1, 1) := by decide +kernel
theorem dX4_codeOf_14 : decode cX4_codeOf 14 = .ok (.iaload, 1) := by decide +kernel
theorem dX4_codeOf_15 : decode cX4_codeOf 15 = .ok (.iadd, 1) := by decide +kernel
theorem dX4_codeOf_16 : decode cX4_codeOf 16 = .ok (.ireturn, 1) := by decide +kernel
def wp_X4_codeOf (σ : SX) (x1 : Int32) (P : Int32 → Prop) : Prop := (vp_in x1 104 ∧ (vp_in x1 104 ∧ (P ((100 * ((σ.2.1 3) x1.toNatClampNeg)) + ((σ.2.1 5) x1.toNatClampNeg)))))
theorem k_X4_codeOf : KV RX4 yX4_codeOf cX4_codeOf 2 (some .int) 1 := ⟨q1334, qs43, q5, q1335, by decide +kernel⟩
set_option maxHeartbeats 4000000 in
set_option maxRecDepth 100000 in
theorem m_X4_codeOf (l : Launch) (dC : Nat → ClassId) (dI : Nat → Nat → Nat) (h : Nat → Nat) (cy : Nat → ClassId) (σ : SX) (x1 : Int32) (P : Int32 → Prop) (hF : wp_X4_codeOf σ x1 P) : Met l yX4_codeOf (ws_ yX4_codeOf cX4_codeOf 2 (some .int)) ({ frames := 0, cells := 0, slots := 0, locals := 0 } : Room) (va_Pc [.ref (h 0), .int x1] (fun U => va_P (dC, dI) classes (wC h cy σ) U.heap ∧ kwX dC dI cy U)) (vp_Si P) 0 0 (fun _ => False) := by
  refine Met.ofCx (own := RX4) (by decide) rfl (Nat.le_of_ble_eq_true rfl) ?_
  intro p e s m below meth c hC hv ls hl
  obtain ⟨hx, hb, hr, hml, hown, hts, hlocks⟩ := hC
  have hl : lv_has ls 2 [(0, .ref (h 0)), (1, .int x1)] := hl
  obtain ⟨hP, hK⟩ := hv
  unfold wp_X4_codeOf at hF
  refine lv_bipush (v := 100) hx hb dX4_codeOf_0 (by decide) ?_
  refine lv_aload_n hx hb dX4_codeOf_2 rfl (lv_at hl 0 rfl) ?_
  refine va_get (D := (dC, dI)) (ci := 4) (v := .ref (h 4)) (C := RX4) (T := TX4) (N := 19) hx hb hts in_X4 hown hK.1 hP 0 rfl rfl 3 (by decide) (hts _ q953) (fun _ h9 => h9) rfl dX4_codeOf_3 ?_
  refine lv_iload_n hx hb dX4_codeOf_6 rfl (lv_at hl 1 rfl) ?_
  have hI := hF.1
  have hF := hF.2
  refine va_iald hx hb hK.1 hP 4 0 rfl rfl hI dX4_codeOf_7 ?_
  refine lv_imul hx hb dX4_codeOf_8 ?_
  refine lv_aload_n hx hb dX4_codeOf_9 rfl (lv_at hl 0 rfl) ?_
  refine va_get (D := (dC, dI)) (ci := 4) (v := .ref (h 6)) (C := RX4) (T := TX4) (N := 19) hx hb hts in_X4 hown hK.1 hP 0 rfl rfl 5 (by decide) (hts _ q955) (fun _ h9 => h9) rfl dX4_codeOf_10 ?_
  refine lv_iload_n hx hb dX4_codeOf_13 rfl (lv_at hl 1 rfl) ?_
  have hI := hF.1
  have hF := hF.2
  refine va_iald hx hb hK.1 hP 6 0 rfl rfl hI dX4_codeOf_14 ?_
  refine lv_iadd hx hb dX4_codeOf_15 ?_
  exact W.iret (v := (100 * ((σ.2.1 3) x1.toNatClampNeg)) + ((σ.2.1 5) x1.toNatClampNeg)) hx hb hr (fun t ht hW => ⟨(100 * ((σ.2.1 3) x1.toNatClampNeg)) + ((σ.2.1 5) x1.toNatClampNeg), rfl, hF, ht⟩) (fun q hq => absurd hq List.not_mem_nil) dX4_codeOf_16
theorem dX4_colourOf_0 : decode cX4_colourOf 0 = .ok (.iload_n 2, 1) := by decide +kernel
theorem dX4_colourOf_1 : decode cX4_colourOf 1 = .ok (.ifCond .ne 25, 3) := by decide +kernel
theorem dX4_colourOf_4 : decode cX4_colourOf 4 = .ok (.aload_n 0, 1) := by decide +kernel
theorem dX4_colourOf_5 : decode cX4_colourOf 5 = .ok (.getfield 13, 3) := by decide +kernel
theorem dX4_colourOf_8 : decode cX4_colourOf 8 = .ok (.iload_n 1, 1) := by decide +kernel
theorem dX4_colourOf_9 : decode cX4_colourOf 9 = .ok (.iaload, 1) := by decide +kernel
theorem dX4_colourOf_10 : decode cX4_colourOf 10 = .ok (.iconst 5, 1) := by decide +kernel
theorem dX4_colourOf_11 : decode cX4_colourOf 11 = .ok (.idiv, 1) := by decide +kernel
theorem dX4_colourOf_12 : decode cX4_colourOf 12 = .ok (.aload_n 0, 1) := by decide +kernel
theorem dX4_colourOf_13 : decode cX4_colourOf 13 = .ok (.getfield 13, 3) := by decide +kernel
theorem dX4_colourOf_16 : decode cX4_colourOf 16 = .ok (.iload_n 1, 1) := by decide +kernel
theorem dX4_colourOf_17 : decode cX4_colourOf 17 = .ok (.iaload, 1) := by decide +kernel
theorem dX4_colourOf_18 : decode cX4_colourOf 18 = .ok (.iconst 5, 1) := by decide +kernel
theorem dX4_colourOf_19 : decode cX4_colourOf 19 = .ok (.irem, 1) := by decide +kernel
theorem dX4_colourOf_20 : decode cX4_colourOf 20 = .ok (.iadd, 1) := by decide +kernel
theorem dX4_colourOf_21 : decode cX4_colourOf 21 = .ok (.iconst 3, 1) := by decide +kernel
theorem dX4_colourOf_22 : decode cX4_colourOf 22 = .ok (.irem, 1) := by decide +kernel
theorem dX4_colourOf_23 : decode cX4_colourOf 23 = .ok (.goto 24, 3) := by decide +kernel
theorem dX4_colourOf_26 : decode cX4_colourOf 26 = .ok (.aload_n 0, 1) := by decide +kernel
theorem dX4_colourOf_27 : decode cX4_colourOf 27 = .ok (.getfield 13, 3) := by decide +kernel
theorem dX4_colourOf_30 : decode cX4_colourOf 30 = .ok (.iload_n 1, 1) := by decide +kernel
theorem dX4_colourOf_31 : decode cX4_colourOf 31 = .ok (.iaload, 1) := by decide +kernel
theorem dX4_colourOf_32 : decode cX4_colourOf 32 = .ok (.iconst 5, 1) := by decide +kernel
theorem dX4_colourOf_33 : decode cX4_colourOf 33 = .ok (.idiv, 1) := by decide +kernel
theorem dX4_colourOf_34 : decode cX4_colourOf 34 = .ok (.iconst 5, 1) := by decide +kernel
theorem dX4_colourOf_35 : decode cX4_colourOf 35 = .ok (.iadd, 1) := by decide +kernel
theorem dX4_colourOf_36 : decode cX4_colourOf 36 = .ok (.aload_n 0, 1) := by decide +kernel
theorem dX4_colourOf_37 : decode cX4_colourOf 37 = .ok (.getfield 13, 3) := by decide +kernel
theorem dX4_colourOf_40 : decode cX4_colourOf 40 = .ok (.iload_n 1, 1) := by decide +kernel
theorem dX4_colourOf_41 : decode cX4_colourOf 41 = .ok (.iaload, 1) := by decide +kernel
theorem dX4_colourOf_42 : decode cX4_colourOf 42 = .ok (.iconst 5, 1) := by decide +kernel
theorem dX4_colourOf_43 : decode cX4_colourOf 43 = .ok (.irem, 1) := by decide +kernel
theorem dX4_colourOf_44 : decode cX4_colourOf 44 = .ok (.isub, 1) := by decide +kernel
theorem dX4_colourOf_45 : decode cX4_colourOf 45 = .ok (.iconst 3, 1) := by decide +kernel
theorem dX4_colourOf_46 : decode cX4_colourOf 46 = .ok (.irem, 1) := by decide +kernel
theorem dX4_colourOf_47 : decode cX4_colourOf 47 = .ok (.ireturn, 1) := by decide +kernel
def wp_X4_colourOf (σ : SX) (x1 : Int32) (x2 : Int32) (P : Int32 → Prop) : Prop := ((¬ x2 = 0 → (vp_in x1 13 ∧ (vp_in x1 13 ∧ (P ((((((σ.2.1 1) x1.toNatClampNeg) / 5) + 5) - (((σ.2.1 1) x1.toNatClampNeg) - ((σ.2.1 1) x1.toNatClampNeg) / 5 * 5)) - (((((σ.2.1 1) x1.toNatClampNeg) / 5) + 5) - (((σ.2.1 1) x1.toNatClampNeg) - ((σ.2.1 1) x1.toNatClampNeg) / 5 * 5)) / 3 * 3))))) ∧ (x2 = 0 → (vp_in x1 13 ∧ (vp_in x1 13 ∧ (P (((((σ.2.1 1) x1.toNatClampNeg) / 5) + (((σ.2.1 1) x1.toNatClampNeg) - ((σ.2.1 1) x1.toNatClampNeg) / 5 * 5)) - ((((σ.2.1 1) x1.toNatClampNeg) / 5) + (((σ.2.1 1) x1.toNatClampNeg) - ((σ.2.1 1) x1.toNatClampNeg) / 5 * 5)) / 3 * 3))))))
theorem k_X4_colourOf : KV RX4 yX4_colourOf cX4_colourOf 3 (some .int) 2 := ⟨q1698, qs52, q5, q1699, by decide +kernel⟩
set_option maxHeartbeats 4000000 in
set_option maxRecDepth 100000 in
theorem m_X4_colourOf (l : Launch) (dC : Nat → ClassId) (dI : Nat → Nat → Nat) (h : Nat → Nat) (cy : Nat → ClassId) (σ : SX) (x1 : Int32) (x2 : Int32) (P : Int32 → Prop) (hF : wp_X4_colourOf σ x1 x2 P) : Met l yX4_colourOf (ws_ yX4_colourOf cX4_colourOf 3 (some .int)) ({ frames := 0, cells := 0, slots := 0, locals := 0 } : Room) (va_Pc [.ref (h 0), .int x1, .int x2] (fun U => va_P (dC, dI) classes (wC h cy σ) U.heap ∧ kwX dC dI cy U)) (vp_Si P) 0 0 (fun _ => False) := by
  refine Met.ofCx (own := RX4) (by decide) rfl (Nat.le_of_ble_eq_true rfl) ?_
  intro p e s m below meth c hC hv ls hl
  obtain ⟨hx, hb, hr, hml, hown, hts, hlocks⟩ := hC
  have hl : lv_has ls 3 [(0, .ref (h 0)), (1, .int x1), (2, .int x2)] := hl
  obtain ⟨hP, hK⟩ := hv
  unfold wp_X4_colourOf at hF
  refine lv_iload_n hx hb dX4_colourOf_0 rfl (lv_at hl 2 rfl) ?_
  refine lv_if_ne (tgt := 26) hx hb dX4_colourOf_1 (by decide) (fun cz => ?_) (fun cz => ?_)
  · have hF := hF.1 cz
    refine lv_aload_n hx hb dX4_colourOf_26 rfl (lv_at hl 0 rfl) ?_
    refine va_get (D := (dC, dI)) (ci := 4) (v := .ref (h 2)) (C := RX4) (T := TX4) (N := 19) hx hb hts in_X4 hown hK.1 hP 0 rfl rfl 1 (by decide) (hts _ q951) (fun _ h9 => h9) rfl dX4_colourOf_27 ?_
    refine lv_iload_n hx hb dX4_colourOf_30 rfl (lv_at hl 1 rfl) ?_
    have hI := hF.1
    have hF := hF.2
    refine va_iald hx hb hK.1 hP 2 0 rfl rfl hI dX4_colourOf_31 ?_
    refine lv_iconst (v := 5) hx hb dX4_colourOf_32 (by decide) ?_
    refine lv_idiv hx hb dX4_colourOf_33 (by decide) ?_
    refine lv_iconst (v := 5) hx hb dX4_colourOf_34 (by decide) ?_
    refine lv_iadd hx hb dX4_colourOf_35 ?_
    refine lv_aload_n hx hb dX4_colourOf_36 rfl (lv_at hl 0 rfl) ?_
    refine va_get (D := (dC, dI)) (ci := 4) (v := .ref (h 2)) (C := RX4) (T := TX4) (N := 19) hx hb hts in_X4 hown hK.1 hP 0 rfl rfl 1 (by decide) (hts _ q951) (fun _ h9 => h9) rfl dX4_colourOf_37 ?_
    refine lv_iload_n hx hb dX4_colourOf_40 rfl (lv_at hl 1 rfl) ?_
    have hI := hF.1
    have hF := hF.2
    refine va_iald hx hb hK.1 hP 2 0 rfl rfl hI dX4_colourOf_41 ?_
    refine lv_iconst (v := 5) hx hb dX4_colourOf_42 (by decide) ?_
    refine lv_irem hx hb dX4_colourOf_43 (by decide) ?_
    refine lv_isub hx hb dX4_colourOf_44 ?_
    refine lv_iconst (v := 3) hx hb dX4_colourOf_45 (by decide) ?_
    refine lv_irem hx hb dX4_colourOf_46 (by decide) ?_
    exact W.iret (v := (((((σ.2.1 1) x1.toNatClampNeg) / 5) + 5) - (((σ.2.1 1) x1.toNatClampNeg) - ((σ.2.1 1) x1.toNatClampNeg) / 5 * 5)) - (((((σ.2.1 1) x1.toNatClampNeg) / 5) + 5) - (((σ.2.1 1) x1.toNatClampNeg) - ((σ.2.1 1) x1.toNatClampNeg) / 5 * 5)) / 3 * 3) hx hb hr (fun t ht hW => ⟨(((((σ.2.1 1) x1.toNatClampNeg) / 5) + 5) - (((σ.2.1 1) x1.toNatClampNeg) - ((σ.2.1 1) x1.toNatClampNeg) / 5 * 5)) - (((((σ.2.1 1) x1.toNatClampNeg) / 5) + 5) - (((σ.2.1 1) x1.toNatClampNeg) - ((σ.2.1 1) x1.toNatClampNeg) / 5 * 5)) / 3 * 3, rfl, hF, ht⟩) (fun q hq => absurd hq List.not_mem_nil) dX4_colourOf_47
  · have hF := hF.2 cz
    refine lv_aload_n hx hb dX4_colourOf_4 rfl (lv_at hl 0 rfl) ?_
    refine va_get (D := (dC, dI)) (ci := 4) (v := .ref (h 2)) (C := RX4) (T := TX4) (N := 19) hx hb hts in_X4 hown hK.1 hP 0 rfl rfl 1 (by decide) (hts _ q951) (fun _ h9 => h9) rfl dX4_colourOf_5 ?_
    refine lv_iload_n hx hb dX4_colourOf_8 rfl (lv_at hl 1 rfl) ?_
    have hI := hF.1
    have hF := hF.2
    refine va_iald hx hb hK.1 hP 2 0 rfl rfl hI dX4_colourOf_9 ?_
    refine lv_iconst (v := 5) hx hb dX4_colourOf_10 (by decide) ?_
    refine lv_idiv hx hb dX4_colourOf_11 (by decide) ?_
    refine lv_aload_n hx hb dX4_colourOf_12 rfl (lv_at hl 0 rfl) ?_
    refine va_get (D := (dC, dI)) (ci := 4) (v := .ref (h 2)) (C := RX4) (T := TX4) (N := 19) hx hb hts in_X4 hown hK.1 hP 0 rfl rfl 1 (by decide) (hts _ q951) (fun _ h9 => h9) rfl dX4_colourOf_13 ?_
    refine lv_iload_n hx hb dX4_colourOf_16 rfl (lv_at hl 1 rfl) ?_
    have hI := hF.1
    have hF := hF.2
    refine va_iald hx hb hK.1 hP 2 0 rfl rfl hI dX4_colourOf_17 ?_
    refine lv_iconst (v := 5) hx hb dX4_colourOf_18 (by decide) ?_
    refine lv_irem hx hb dX4_colourOf_19 (by decide) ?_
    refine lv_iadd hx hb dX4_colourOf_20 ?_
    refine lv_iconst (v := 3) hx hb dX4_colourOf_21 (by decide) ?_
    refine lv_irem hx hb dX4_colourOf_22 (by decide) ?_
    refine lv_goto (tgt := 47) hx hb dX4_colourOf_23 (by decide) ?_
    exact W.iret (v := ((((σ.2.1 1) x1.toNatClampNeg) / 5) + (((σ.2.1 1) x1.toNatClampNeg) - ((σ.2.1 1) x1.toNatClampNeg) / 5 * 5)) - ((((σ.2.1 1) x1.toNatClampNeg) / 5) + (((σ.2.1 1) x1.toNatClampNeg) - ((σ.2.1 1) x1.toNatClampNeg) / 5 * 5)) / 3 * 3) hx hb hr (fun t ht hW => ⟨((((σ.2.1 1) x1.toNatClampNeg) / 5) + (((σ.2.1 1) x1.toNatClampNeg) - ((σ.2.1 1) x1.toNatClampNeg) / 5 * 5)) - ((((σ.2.1 1) x1.toNatClampNeg) / 5) + (((σ.2.1 1) x1.toNatClampNeg) - ((σ.2.1 1) x1.toNatClampNeg) / 5 * 5)) / 3 * 3, rfl, hF, ht⟩) (fun q hq => absurd hq List.not_mem_nil) dX4_colourOf_47
theorem dX4_colour_0 : decode cX4_colour 0 = .ok (.aload_n 0, 1) := by decide +kernel
theorem dX4_colour_1 : decode cX4_colour 1 = .ok (.aload_n 0, 1) := by decide +kernel
theorem dX4_colour_2 : decode cX4_colour 2 = .ok (.iload_n 1, 1) := by decide +kernel
theorem dX4_colour_3 : decode cX4_colour 3 = .ok (.invokevirtual 132, 3) := by decide +kernel
theorem dX4_colour_6 : decode cX4_colour 6 = .ok (.ifCond .ne 7, 3) := by decide +kernel
theorem dX4_colour_9 : decode cX4_colour 9 = .ok (.iconst 1, 1) := by decide +kernel
theorem dX4_colour_10 : decode cX4_colour 10 = .ok (.goto 17, 3) := by decide +kernel
theorem dX4_colour_13 : decode cX4_colour 13 = .ok (.iload_n 2, 1) := by decide +kernel
theorem dX4_colour_14 : decode cX4_colour 14 = .ok (.iconst 0, 1) := by decide +kernel
theorem dX4_colour_15 : decode cX4_colour 15 = .ok (.iconst 1, 1) := by decide +kernel
theorem dX4_colour_16 : decode cX4_colour 16 = .ok (.invokestatic 67, 3) := by decide +kernel
theorem dX4_colour_19 : decode cX4_colour 19 = .ok (.ifCond .eq 7, 3) := by decide +kernel
theorem dX4_colour_22 : decode cX4_colour 22 = .ok (.iconst 0, 1) := by decide +kernel
theorem dX4_colour_23 : decode cX4_colour 23 = .ok (.goto 4, 3) := by decide +kernel
theorem dX4_colour_26 : decode cX4_colour 26 = .ok (.iconst 2, 1) := by decide +kernel
theorem dX4_colour_27 : decode cX4_colour 27 = .ok (.invokevirtual 100, 3) := by decide +kernel
theorem dX4_colour_30 : decode cX4_colour 30 = .ok (.ifCond .eq 7, 3) := by decide +kernel
theorem dX4_colour_33 : decode cX4_colour 33 = .ok (.iconst 0, 1) := by decide +kernel
theorem dX4_colour_34 : decode cX4_colour 34 = .ok (.goto 9, 3) := by decide +kernel
theorem dX4_colour_37 : decode cX4_colour 37 = .ok (.aload_n 0, 1) := by decide +kernel
theorem dX4_colour_38 : decode cX4_colour 38 = .ok (.iload_n 1, 1) := by decide +kernel
theorem dX4_colour_39 : decode cX4_colour 39 = .ok (.iload_n 2, 1) := by decide +kernel
theorem dX4_colour_40 : decode cX4_colour 40 = .ok (.invokevirtual 237, 3) := by decide +kernel
theorem dX4_colour_43 : decode cX4_colour 43 = .ok (.ireturn, 1) := by decide +kernel
def wp_X4_colour_J27 (σ : SX) (x1 : Int32) (x2 : Int32) (P : Int32 → SX → Prop) (t1_27 : Int32) : Prop := (wp_X4_fails σ t1_27 (fun r27 s27 => ((r27 = 0 → (wp_X4_colourOf s27 x1 x2 (fun r40 => (P r40 s27)))) ∧ (¬ r27 = 0 → (P 0 s27)))))
def wp_X4_colour (σ : SX) (x1 : Int32) (x2 : Int32) (P : Int32 → SX → Prop) : Prop := (wp_X4_isHole σ x1 (fun r3 => ((¬ r3 = 0 → (wp_X4_in x2 0 1 (fun r16 => ((r16 = 0 → (wp_X4_colour_J27 σ x1 x2 P 2)) ∧ (¬ r16 = 0 → (wp_X4_colour_J27 σ x1 x2 P 0)))))) ∧ (r3 = 0 → (wp_X4_colour_J27 σ x1 x2 P 1)))))
theorem k_X4_colour : KV RX4 yX4_colour cX4_colour 3 (some .int) 2 := ⟨q1693, q1694, q5, q1695, by decide +kernel⟩
set_option maxHeartbeats 4000000 in
set_option maxRecDepth 100000 in
theorem m_X4_colour (l : Launch) (dC : Nat → ClassId) (dI : Nat → Nat → Nat) (h : Nat → Nat) (cy : Nat → ClassId) (sz : Nat) (σ : SX) (x1 : Int32) (x2 : Int32) (P : Int32 → SX → Prop) (hF : wp_X4_colour σ x1 x2 P) : Met l yX4_colour (ws_ yX4_colour cX4_colour 3 (some .int)) ({ frames := 2, cells := 0, slots := 0, locals := 43 } : Room) (va_Pc [.ref (h 0), .int x1, .int x2] (fun U => U.heap.size = sz ∧ va_P (dC, dI) classes (wC h cy σ) U.heap ∧ kwX dC dI cy U ∧ va_D (fun _ => True) (wC h cy σ))) (va_Qi (fun r u => P r u) (fun (u : SX) t => va_P (dC, dI) classes (wC h cy u) t.heap ∧ kwX dC dI cy t ∧ va_D (va_A (wC h cy σ) sz) (wC h cy u)) (va_A (wC h cy σ) sz)) 0 0 (va_A (wC h cy σ) sz) := by
  refine Met.ofCx (own := RX4) (by decide) rfl (Nat.le_of_ble_eq_true rfl) ?_
  intro p e s m below meth c hC hv ls hl
  obtain ⟨hx, hb, hr, hml, hown, hts, hlocks⟩ := hC
  have hl : lv_has ls 3 [(0, .ref (h 0)), (1, .int x1), (2, .int x2)] := hl
  obtain ⟨hsz, hP, hK, hD0⟩ := hv
  subst hsz
  have hD := hD0.self (sz := s.heap.size)
  generalize hAe : va_A (wC h cy σ) s.heap.size = A at hD ⊢
  have hA : ∀ q : Nat, s.heap.size ≤ q → A q := fun q h => by rw [← hAe]; exact Or.inr h
  have hS : va_S A s.heap s.heap [] := va_S.rf
  clear hAe
  unfold wp_X4_colour at hF
  refine lv_aload_n hx hb dX4_colour_0 rfl (lv_at hl 0 rfl) ?_
  refine lv_aload_n hx hb dX4_colour_1 rfl (lv_at hl 0 rfl) ?_
  refine lv_iload_n hx hb dX4_colour_2 rfl (lv_at hl 1 rfl) ?_
  refine cpVi (q0 := 0) (As := [.int x1]) (rest := [.ref (h 0)]) ⟨hx, hb, hr, hml, hown, hts, hlocks⟩ hK hP rfl rfl (m_X4_isHole l dC dI h cy σ x1 _ hF) k_X4_isHole q1159 ⟨rfl, rfl⟩ ⟨Nat.le_of_ble_eq_true rfl, Nat.le_of_ble_eq_true rfl⟩ hl.1 rfl rfl (Nat.le_of_ble_eq_true rfl) dX4_colour_3 ⟨Nat.le_of_ble_eq_true rfl, Nat.le_of_ble_eq_true rfl⟩ (fun r3 hF => ?_)
  have hJ27 : ∀ (t1_27 : Int32), wp_X4_colour_J27 σ x1 x2 P t1_27 → ∀ (H : Heap) (locs : List Loc), va_P (dC, dI) classes (wC h cy σ) H → va_D A (wC h cy σ) → va_S A s.heap H locs → ∀ (ls : Array Slot), lv_has ls 3 [(0, .ref (h 0)), (1, .int x1), (2, .int x2)] → W p l e ({ frames := 2, cells := 0, slots := 0, locals := 43 } : Room) s m ([.ref (h 0), .int x1, .int x2] : List Value).toArray below meth c H locs 0 0 (MQ below (va_Qi (fun r u => P r u) (fun (u : SX) t => va_P (dC, dI) classes (wC h cy u) t.heap ∧ kwX dC dI cy t ∧ va_D A (wC h cy u)) A) ([.ref (h 0), .int x1, .int x2] : List Value).toArray s 0 0 A) (F0 m 27 ls [.int t1_27, .ref (h 0)]) := by
    intro t1_27 hF H locs hP hD hS ls hl
    unfold wp_X4_colour_J27 at hF
    have hFc := va_free (wc := wC h cy σ) hD hS hA [0, 1, 2, 3, 4, 5, 6, 7, 8, 9] rfl
    refine cwVi (q0 := 0) (As := [.int t1_27]) (rest := []) ⟨hx, hb, hr, hml, hown, hts, hlocks⟩ hK hP hD rfl rfl hS hFc (m_X4_fails l dC dI h cy _ σ t1_27 _ hF) k_X4_fails q1102 ⟨rfl, rfl⟩ ⟨Nat.le_of_ble_eq_true rfl, Nat.le_of_ble_eq_true rfl⟩ hl.1 rfl rfl (Nat.le_of_ble_eq_true rfl) dX4_colour_27 ⟨Nat.le_of_ble_eq_true rfl, Nat.le_of_ble_eq_true rfl⟩ (fun r27 u H1 locs hF hP1 hD1 hk1 hS => ?_)
    obtain ⟨s27, rfl⟩ : ∃ z, z = u := ⟨_, rfl⟩
    have hP := hP1
    have hD := hD1.weaken (fun _ q _ h => hFc q.1 h)
    generalize H1 = H at hP hS ⊢
    have hP : va_P (dC, dI) classes (wC h cy s27) H := hP
    have hD : va_D A (wC h cy s27) := hD
    refine lv_if_eq (tgt := 37) hx hb dX4_colour_30 (by decide) (fun cz => ?_) (fun cz => ?_)
    · have hF := hF.1 cz
      refine lv_aload_n hx hb dX4_colour_37 rfl (lv_at hl 0 rfl) ?_
      refine lv_iload_n hx hb dX4_colour_38 rfl (lv_at hl 1 rfl) ?_
      refine lv_iload_n hx hb dX4_colour_39 rfl (lv_at hl 2 rfl) ?_
      refine cpVi (q0 := 0) (As := [.int x1, .int x2]) (rest := []) ⟨hx, hb, hr, hml, hown, hts, hlocks⟩ hK hP rfl rfl (m_X4_colourOf l dC dI h cy s27 x1 x2 _ hF) k_X4_colourOf q1696 ⟨rfl, rfl⟩ ⟨Nat.le_of_ble_eq_true rfl, Nat.le_of_ble_eq_true rfl⟩ hl.1 rfl rfl (Nat.le_of_ble_eq_true rfl) dX4_colour_40 ⟨Nat.le_of_ble_eq_true rfl, Nat.le_of_ble_eq_true rfl⟩ (fun r40 hF => ?_)
      exact W.iret (v := r40) hx hb hr (fun t ht hW => ⟨⟨r40, s27, rfl, hF, by rw [ht]; exact hP, hK.warm hW, hD⟩, hS.F ht⟩) hS.2.2 dX4_colour_43
    · have hF := hF.2 cz
      refine lv_iconst (v := 0) hx hb dX4_colour_33 (by decide) ?_
      refine lv_goto (tgt := 43) hx hb dX4_colour_34 (by decide) ?_
      exact W.iret (v := 0) hx hb hr (fun t ht hW => ⟨⟨0, s27, rfl, hF, by rw [ht]; exact hP, hK.warm hW, hD⟩, hS.F ht⟩) hS.2.2 dX4_colour_43
  refine lv_if_ne (tgt := 13) hx hb dX4_colour_6 (by decide) (fun cz => ?_) (fun cz => ?_)
  · have hF := hF.1 cz
    refine lv_iload_n hx hb dX4_colour_13 rfl (lv_at hl 2 rfl) ?_
    refine lv_iconst (v := 0) hx hb dX4_colour_14 (by decide) ?_
    refine lv_iconst (v := 1) hx hb dX4_colour_15 (by decide) ?_
    refine cpSi (As := [.int x2, .int 0, .int 1]) (rest := [.ref (h 0)]) ⟨hx, hb, hr, hml, hown, hts, hlocks⟩ (m_X4_in l x2 0 1 _ hF) k_X4_in q937 ⟨rfl, rfl⟩ ⟨Nat.le_of_ble_eq_true rfl, Nat.le_of_ble_eq_true rfl⟩ hl.1 rfl rfl (Nat.le_of_ble_eq_true rfl) dX4_colour_16 ⟨Nat.le_of_ble_eq_true rfl, Nat.le_of_ble_eq_true rfl⟩ (fun r16 hF => ?_)
    refine lv_if_eq (tgt := 26) hx hb dX4_colour_19 (by decide) (fun cz => ?_) (fun cz => ?_)
    · have hF := hF.1 cz
      refine lv_iconst (v := 2) hx hb dX4_colour_26 (by decide) ?_
      exact hJ27 2 hF _ _ hP hD hS _ (lv_sub hl [0, 1, 2] rfl)
    · have hF := hF.2 cz
      refine lv_iconst (v := 0) hx hb dX4_colour_22 (by decide) ?_
      refine lv_goto (tgt := 27) hx hb dX4_colour_23 (by decide) ?_
      exact hJ27 0 hF _ _ hP hD hS _ (lv_sub hl [0, 1, 2] rfl)
  · have hF := hF.2 cz
    refine lv_iconst (v := 1) hx hb dX4_colour_9 (by decide) ?_
    refine lv_goto (tgt := 27) hx hb dX4_colour_10 (by decide) ?_
    exact hJ27 1 hF _ _ hP hD hS _ (lv_sub hl [0, 1, 2] rfl)
theorem dJ7_rangeCheck_23922_0 : decode cJ7_rangeCheck_23922 0 = .ok (.iload_n 1, 1) := by decide +kernel
theorem dJ7_rangeCheck_23922_1 : decode cJ7_rangeCheck_23922 1 = .ok (.iload_n 2, 1) := by decide +kernel
theorem dJ7_rangeCheck_23922_2 : decode cJ7_rangeCheck_23922 2 = .ok (.if_icmp .le 44, 3) := by decide +kernel
theorem dJ7_rangeCheck_23922_5 : decode cJ7_rangeCheck_23922 5 = .ok (.new 43, 3) := by decide +kernel
theorem dJ7_rangeCheck_23922_8 : decode cJ7_rangeCheck_23922 8 = .ok (.dup, 1) := by decide +kernel
theorem dJ7_rangeCheck_23922_9 : decode cJ7_rangeCheck_23922 9 = .ok (.new 45, 3) := by decide +kernel
theorem dJ7_rangeCheck_23922_12 : decode cJ7_rangeCheck_23922 12 = .ok (.dup, 1) := by decide +kernel
theorem dJ7_rangeCheck_23922_13 : decode cJ7_rangeCheck_23922 13 = .ok (.invokespecial 47, 3) := by decide +kernel
theorem dJ7_rangeCheck_23922_16 : decode cJ7_rangeCheck_23922 16 = .ok (.ldc 48, 2) := by decide +kernel
theorem dJ7_rangeCheck_23922_18 : decode cJ7_rangeCheck_23922 18 = .ok (.invokevirtual 50, 3) := by decide +kernel
theorem dJ7_rangeCheck_23922_21 : decode cJ7_rangeCheck_23922 21 = .ok (.iload_n 1, 1) := by decide +kernel
theorem dJ7_rangeCheck_23922_22 : decode cJ7_rangeCheck_23922 22 = .ok (.invokevirtual 54, 3) := by decide +kernel
theorem dJ7_rangeCheck_23922_25 : decode cJ7_rangeCheck_23922 25 = .ok (.ldc 57, 2) := by decide +kernel
theorem dJ7_rangeCheck_23922_27 : decode cJ7_rangeCheck_23922 27 = .ok (.invokevirtual 50, 3) := by decide +kernel
theorem dJ7_rangeCheck_23922_30 : decode cJ7_rangeCheck_23922 30 = .ok (.iload_n 2, 1) := by decide +kernel
theorem dJ7_rangeCheck_23922_31 : decode cJ7_rangeCheck_23922 31 = .ok (.invokevirtual 54, 3) := by decide +kernel
theorem dJ7_rangeCheck_23922_34 : decode cJ7_rangeCheck_23922 34 = .ok (.ldc 59, 2) := by decide +kernel
theorem dJ7_rangeCheck_23922_36 : decode cJ7_rangeCheck_23922 36 = .ok (.invokevirtual 50, 3) := by decide +kernel
theorem dJ7_rangeCheck_23922_39 : decode cJ7_rangeCheck_23922 39 = .ok (.invokevirtual 61, 3) := by decide +kernel
theorem dJ7_rangeCheck_23922_42 : decode cJ7_rangeCheck_23922 42 = .ok (.invokespecial 65, 3) := by decide +kernel
theorem dJ7_rangeCheck_23922_45 : decode cJ7_rangeCheck_23922 45 = .ok (.athrow, 1) := by decide +kernel
theorem dJ7_rangeCheck_23922_46 : decode cJ7_rangeCheck_23922 46 = .ok (.iload_n 1, 1) := by decide +kernel
theorem dJ7_rangeCheck_23922_47 : decode cJ7_rangeCheck_23922 47 = .ok (.ifCond .ge 12, 3) := by decide +kernel
theorem dJ7_rangeCheck_23922_50 : decode cJ7_rangeCheck_23922 50 = .ok (.new 68, 3) := by decide +kernel
theorem dJ7_rangeCheck_23922_53 : decode cJ7_rangeCheck_23922 53 = .ok (.dup, 1) := by decide +kernel
theorem dJ7_rangeCheck_23922_54 : decode cJ7_rangeCheck_23922 54 = .ok (.iload_n 1, 1) := by decide +kernel
theorem dJ7_rangeCheck_23922_55 : decode cJ7_rangeCheck_23922 55 = .ok (.invokespecial 70, 3) := by decide +kernel
theorem dJ7_rangeCheck_23922_58 : decode cJ7_rangeCheck_23922 58 = .ok (.athrow, 1) := by decide +kernel
theorem dJ7_rangeCheck_23922_59 : decode cJ7_rangeCheck_23922 59 = .ok (.iload_n 2, 1) := by decide +kernel
theorem dJ7_rangeCheck_23922_60 : decode cJ7_rangeCheck_23922 60 = .ok (.iload_n 0, 1) := by decide +kernel
theorem dJ7_rangeCheck_23922_61 : decode cJ7_rangeCheck_23922 61 = .ok (.if_icmp .le 12, 3) := by decide +kernel
theorem dJ7_rangeCheck_23922_64 : decode cJ7_rangeCheck_23922 64 = .ok (.new 68, 3) := by decide +kernel
theorem dJ7_rangeCheck_23922_67 : decode cJ7_rangeCheck_23922 67 = .ok (.dup, 1) := by decide +kernel
theorem dJ7_rangeCheck_23922_68 : decode cJ7_rangeCheck_23922 68 = .ok (.iload_n 2, 1) := by decide +kernel
theorem dJ7_rangeCheck_23922_69 : decode cJ7_rangeCheck_23922 69 = .ok (.invokespecial 70, 3) := by decide +kernel
theorem dJ7_rangeCheck_23922_72 : decode cJ7_rangeCheck_23922 72 = .ok (.athrow, 1) := by decide +kernel
theorem dJ7_rangeCheck_23922_73 : decode cJ7_rangeCheck_23922 73 = .ok (.return_, 1) := by decide +kernel
def wp_J7_rangeCheck_23922 (x0 : Int32) (x1 : Int32) (x2 : Int32) (P : Prop) : Prop := ((x1 ≤ x2 → ((0 ≤ x1 → ((x2 ≤ x0 → (P)) ∧ (¬ x2 ≤ x0 → False))) ∧ (¬ 0 ≤ x1 → False))) ∧ (¬ x1 ≤ x2 → False))
theorem k_J7_rangeCheck_23922 : KS yJ7_rangeCheck_23922 cJ7_rangeCheck_23922 3 none 3 := ⟨q1442, q23, q1443, by decide +kernel⟩
set_option maxHeartbeats 4000000 in
set_option maxRecDepth 100000 in
theorem m_J7_rangeCheck_23922 (l : Launch) (x0 : Int32) (x1 : Int32) (x2 : Int32) (P : Prop) (hF : wp_J7_rangeCheck_23922 x0 x1 x2 P) : Met l yJ7_rangeCheck_23922 (ws_ yJ7_rangeCheck_23922 cJ7_rangeCheck_23922 3 none) ({ frames := 0, cells := 0, slots := 0, locals := 0 } : Room) (va_Pc [.int x0, .int x1, .int x2] (fun _ => True)) (vp_Sv0 P) 0 0 (fun _ => False) := by
  refine Met.ofCx (own := RJ7) (by decide) rfl (Nat.le_of_ble_eq_true rfl) ?_
  intro p e s m below meth c hC hv ls hl
  obtain ⟨hx, hb, hr, hml, hown, hts, hlocks⟩ := hC
  have hl : lv_has ls 3 [(0, .int x0), (1, .int x1), (2, .int x2)] := hl
  unfold wp_J7_rangeCheck_23922 at hF
  refine lv_iload_n hx hb dJ7_rangeCheck_23922_0 rfl (lv_at hl 1 rfl) ?_
  refine lv_iload_n hx hb dJ7_rangeCheck_23922_1 rfl (lv_at hl 2 rfl) ?_
  refine lv_icmp_le (tgt := 46) hx hb dJ7_rangeCheck_23922_2 (by decide) (fun cz => ?_) (fun cz => ?_)
  · have hF := hF.1 cz
    refine lv_iload_n hx hb dJ7_rangeCheck_23922_46 rfl (lv_at hl 1 rfl) ?_
    refine lv_if_ge (tgt := 59) hx hb dJ7_rangeCheck_23922_47 (by decide) (fun cz => ?_) (fun cz => ?_)
    · have hF := hF.1 cz
      refine lv_iload_n hx hb dJ7_rangeCheck_23922_59 rfl (lv_at hl 2 rfl) ?_
      refine lv_iload_n hx hb dJ7_rangeCheck_23922_60 rfl (lv_at hl 0 rfl) ?_
      refine lv_icmp_le (tgt := 73) hx hb dJ7_rangeCheck_23922_61 (by decide) (fun cz => ?_) (fun cz => ?_)
      · have hF := hF.1 cz
        exact W.vret hx hb hr (fun t ht hW => ⟨rfl, hF, ht⟩) (fun q hq => absurd hq List.not_mem_nil) dJ7_rangeCheck_23922_73
      · have hF := hF.2 cz
        exact hF.elim
    · have hF := hF.2 cz
      exact hF.elim
  · have hF := hF.2 cz
    exact hF.elim
theorem dJ7_fill_479d4_0 : decode cJ7_fill_479d4 0 = .ok (.aload_n 0, 1) := by decide +kernel
theorem dJ7_fill_479d4_1 : decode cJ7_fill_479d4 1 = .ok (.arraylength, 1) := by decide +kernel
theorem dJ7_fill_479d4_2 : decode cJ7_fill_479d4 2 = .ok (.iload_n 1, 1) := by decide +kernel
theorem dJ7_fill_479d4_3 : decode cJ7_fill_479d4 3 = .ok (.iload_n 2, 1) := by decide +kernel
theorem dJ7_fill_479d4_4 : decode cJ7_fill_479d4 4 = .ok (.invokestatic 13, 3) := by decide +kernel
theorem dJ7_fill_479d4_7 : decode cJ7_fill_479d4 7 = .ok (.iload_n 1, 1) := by decide +kernel
theorem dJ7_fill_479d4_8 : decode cJ7_fill_479d4 8 = .ok (.istore 4, 2) := by decide +kernel
theorem dJ7_fill_479d4_10 : decode cJ7_fill_479d4 10 = .ok (.iload 4, 2) := by decide +kernel
theorem dJ7_fill_479d4_12 : decode cJ7_fill_479d4 12 = .ok (.iload_n 2, 1) := by decide +kernel
theorem dJ7_fill_479d4_13 : decode cJ7_fill_479d4 13 = .ok (.if_icmp .ge 14, 3) := by decide +kernel
theorem dJ7_fill_479d4_16 : decode cJ7_fill_479d4 16 = .ok (.aload_n 0, 1) := by decide +kernel
theorem dJ7_fill_479d4_17 : decode cJ7_fill_479d4 17 = .ok (.iload 4, 2) := by decide +kernel
theorem dJ7_fill_479d4_19 : decode cJ7_fill_479d4 19 = .ok (.iload_n 3, 1) := by decide +kernel
theorem dJ7_fill_479d4_20 : decode cJ7_fill_479d4 20 = .ok (.bastore, 1) := by decide +kernel
theorem dJ7_fill_479d4_21 : decode cJ7_fill_479d4 21 = .ok (.iinc 4 1, 3) := by decide +kernel
theorem dJ7_fill_479d4_24 : decode cJ7_fill_479d4 24 = .ok (.goto (-14), 3) := by decide +kernel
theorem dJ7_fill_479d4_27 : decode cJ7_fill_479d4 27 = .ok (.return_, 1) := by decide +kernel
def wp_J7_fill_479d4_B10 (cap : Nat) (x2 : Int32) (x3 : Int32) (K10 : (Nat → Int32) → Prop) (rec10 : Int32 → (Nat → Int32) → Prop) (v4_10 : Int32) (f_10 : Nat → Int32) : Prop := ((x2 ≤ v4_10 → (K10 f_10)) ∧ (¬ x2 ≤ v4_10 → (vp_in v4_10 cap ∧ (rec10 (v4_10 + 1) (upd f_10 v4_10.toNatClampNeg (vp_nar .boolean x3))))))
def wp_J7_fill_479d4_L10 (cap : Nat) (x2 : Int32) (x3 : Int32) (K10 : (Nat → Int32) → Prop) : Nat → Int32 → (Nat → Int32) → Prop
  | 0, _, _ => False
  | nn + 1, v4_10, f_10 => wp_J7_fill_479d4_B10 cap x2 x3 K10 (wp_J7_fill_479d4_L10 cap x2 x3 K10 nn) v4_10 f_10
def wp_J7_fill_479d4 (fu : Nat) (cap : Nat) (f : Nat → Int32) (x1 : Int32) (x2 : Int32) (x3 : Int32) (P : (Nat → Int32) → Prop) : Prop := (wp_J7_rangeCheck_23922 (Int32.ofNat cap) x1 x2 (wp_J7_fill_479d4_L10 cap x2 x3 (fun (f_27 : Nat → Int32) => (P f_27)) fu x1 f))
theorem k_J7_fill_479d4 : KS yJ7_fill_479d4 cJ7_fill_479d4 5 none 4 := ⟨q1439, q23, q1440, by decide +kernel⟩
set_option maxHeartbeats 4000000 in
set_option maxRecDepth 100000 in
theorem m_J7_fill_479d4 (l : Launch) (dC : Nat → ClassId) (dI : Nat → Nat → Nat) (h0 : Nat) (cy : Nat → ClassId) (sz : Nat) (fu : Nat) (cap : Nat) (f : Nat → Int32) (x1 : Int32) (x2 : Int32) (x3 : Int32) (P : (Nat → Int32) → Prop) (hF : wp_J7_fill_479d4 fu cap f x1 x2 x3 P) : Met l yJ7_fill_479d4 (ws_ yJ7_fill_479d4 cJ7_fill_479d4 5 none) ({ frames := 1, cells := 0, slots := 0, locals := 22 } : Room) (va_Pc [.ref h0, .int x1, .int x2, .int x3] (fun U => U.heap.size = sz ∧ va_P (dC, dI) classes (wZ1 h0 cy cap f) U.heap ∧ kwX dC dI cy U ∧ va_D (fun _ => True) (wZ1 h0 cy cap f))) (va_Qv (fun u => P u) (fun (u : Nat → Int32) t => va_P (dC, dI) classes (wZ1 h0 cy cap u) t.heap ∧ kwX dC dI cy t ∧ va_D (va_A (wZ1 h0 cy cap f) sz) (wZ1 h0 cy cap u)) (va_A (wZ1 h0 cy cap f) sz)) 0 0 (va_A (wZ1 h0 cy cap f) sz) := by
  refine Met.ofCx (own := RJ7) (by decide) rfl (Nat.le_of_ble_eq_true rfl) ?_
  intro p e s m below meth c hC hv ls hl
  obtain ⟨hx, hb, hr, hml, hown, hts, hlocks⟩ := hC
  have hl : lv_has ls 5 [(0, .ref h0), (1, .int x1), (2, .int x2), (3, .int x3)] := hl
  obtain ⟨hsz, hP, hK, hD0⟩ := hv
  subst hsz
  have hD := hD0.self (sz := s.heap.size)
  generalize hAe : va_A (wZ1 h0 cy cap f) s.heap.size = A at hD ⊢
  have hA : ∀ q : Nat, s.heap.size ≤ q → A q := fun q h => by rw [← hAe]; exact Or.inr h
  have hS : va_S A s.heap s.heap [] := va_S.rf
  clear hAe
  unfold wp_J7_fill_479d4 at hF
  refine lv_aload_n hx hb dJ7_fill_479d4_0 rfl (lv_at hl 0 rfl) ?_
  refine va_alen hx hb hK.1 hP 0 2 rfl rfl (v := Int32.ofNat cap) (by rfl) dJ7_fill_479d4_1 ?_
  refine lv_iload_n hx hb dJ7_fill_479d4_2 rfl (lv_at hl 1 rfl) ?_
  refine lv_iload_n hx hb dJ7_fill_479d4_3 rfl (lv_at hl 2 rfl) ?_
  refine cpSv (As := [.int (Int32.ofNat cap), .int x1, .int x2]) (rest := []) ⟨hx, hb, hr, hml, hown, hts, hlocks⟩ (m_J7_rangeCheck_23922 l (Int32.ofNat cap) x1 x2 _ hF) k_J7_rangeCheck_23922 q1441 ⟨rfl, rfl⟩ ⟨Nat.le_of_ble_eq_true rfl, Nat.le_of_ble_eq_true rfl⟩ hl.1 rfl rfl (Nat.le_of_ble_eq_true rfl) dJ7_fill_479d4_4 ⟨Nat.le_of_ble_eq_true rfl, Nat.le_of_ble_eq_true rfl⟩ (fun hF => ?_)
  refine lv_iload_n hx hb dJ7_fill_479d4_7 rfl (lv_at hl 1 rfl) ?_
  refine lv_istore (lv' := [(4, .int x1), (0, .ref h0), (1, .int x1), (2, .int x2), (3, .int x3)]) hx hb dJ7_fill_479d4_8 hl (by decide) rfl (fun ls hl => ?_)
  have hX10 : ∀ (f_27 : Nat → Int32), (fun (f_27 : Nat → Int32) => (P f_27)) f_27 → ∀ (H : Heap) (locs : List Loc), va_P (dC, dI) classes (wZ1 h0 cy cap f_27) H → va_D A (wZ1 h0 cy cap f_27) → va_S A s.heap H locs → ∀ (ls : Array Slot), lv_has ls 5 [] → W p l e ({ frames := 1, cells := 0, slots := 0, locals := 22 } : Room) s m ([.ref h0, .int x1, .int x2, .int x3] : List Value).toArray below meth c H locs 0 0 (MQ below (va_Qv (fun u => P u) (fun (u : Nat → Int32) t => va_P (dC, dI) classes (wZ1 h0 cy cap u) t.heap ∧ kwX dC dI cy t ∧ va_D A (wZ1 h0 cy cap u)) A) ([.ref h0, .int x1, .int x2, .int x3] : List Value).toArray s 0 0 A) (F0 m 27 ls []) := by
    intro f_27 hF H locs hP hD hS ls hl
    exact W.vret hx hb hr (fun t ht hW => ⟨⟨f_27, rfl, hF, by rw [ht]; exact hP, hK.warm hW, hD⟩, hS.F ht⟩) hS.2.2 dJ7_fill_479d4_27
  have hL10 : ∀ (K10 : (Nat → Int32) → Prop), (∀ (f_27 : Nat → Int32), K10 f_27 → ∀ (H : Heap) (locs : List Loc), va_P (dC, dI) classes (wZ1 h0 cy cap f_27) H → va_D A (wZ1 h0 cy cap f_27) → va_S A s.heap H locs → ∀ (ls : Array Slot), lv_has ls 5 [] → W p l e ({ frames := 1, cells := 0, slots := 0, locals := 22 } : Room) s m ([.ref h0, .int x1, .int x2, .int x3] : List Value).toArray below meth c H locs 0 0 (MQ below (va_Qv (fun u => P u) (fun (u : Nat → Int32) t => va_P (dC, dI) classes (wZ1 h0 cy cap u) t.heap ∧ kwX dC dI cy t ∧ va_D A (wZ1 h0 cy cap u)) A) ([.ref h0, .int x1, .int x2, .int x3] : List Value).toArray s 0 0 A) (F0 m 27 ls [])) → ∀ (nn : Nat), ∀ (v4_10 : Int32), ∀ (f_10 : Nat → Int32), wp_J7_fill_479d4_L10 cap x2 x3 K10 nn v4_10 f_10 → ∀ (H : Heap) (locs : List Loc), va_P (dC, dI) classes (wZ1 h0 cy cap f_10) H → va_D A (wZ1 h0 cy cap f_10) → va_S A s.heap H locs → ∀ (ls : Array Slot), lv_has ls 5 [(4, .int v4_10), (0, .ref h0), (2, .int x2), (3, .int x3)] → W p l e ({ frames := 1, cells := 0, slots := 0, locals := 22 } : Room) s m ([.ref h0, .int x1, .int x2, .int x3] : List Value).toArray below meth c H locs 0 0 (MQ below (va_Qv (fun u => P u) (fun (u : Nat → Int32) t => va_P (dC, dI) classes (wZ1 h0 cy cap u) t.heap ∧ kwX dC dI cy t ∧ va_D A (wZ1 h0 cy cap u)) A) ([.ref h0, .int x1, .int x2, .int x3] : List Value).toArray s 0 0 A) (F0 m 10 ls []) := by
    intro K10 hX10 nn
    induction nn with
    | zero =>
      intro v4_10 f_10 hF
      exact hF.elim
    | succ nn ih =>
      intro v4_10 f_10 hF H locs hP hD hS ls hl
      obtain ⟨rec10, hrec⟩ : ∃ z : Int32 → (Nat → Int32) → Prop, z = wp_J7_fill_479d4_L10 cap x2 x3 K10 nn := ⟨_, rfl⟩
      have hF : wp_J7_fill_479d4_B10 cap x2 x3 K10 rec10 v4_10 f_10 := by rw [hrec]; exact hF
      rw [← hrec] at ih
      clear hrec
      unfold wp_J7_fill_479d4_B10 at hF
      refine lv_iload hx hb dJ7_fill_479d4_10 (lv_at hl 0 rfl) ?_
      refine lv_iload_n hx hb dJ7_fill_479d4_12 rfl (lv_at hl 2 rfl) ?_
      refine lv_icmp_ge (tgt := 27) hx hb dJ7_fill_479d4_13 (by decide) (fun cz => ?_) (fun cz => ?_)
      · have hF := hF.1 cz
        exact hX10 f_10 hF _ _ hP hD hS _ (lv_sub hl [] rfl)
      · have hF := hF.2 cz
        refine lv_aload_n hx hb dJ7_fill_479d4_16 rfl (lv_at hl 1 rfl) ?_
        refine lv_iload hx hb dJ7_fill_479d4_17 (lv_at hl 0 rfl) ?_
        refine lv_iload_n hx hb dJ7_fill_479d4_19 rfl (lv_at hl 3 rfl) ?_
        have hI := hF.1
        have hF := hF.2
        refine va_zast hx hb hK.1 hP hD hS 0 2 rfl rfl hI dJ7_fill_479d4_20 (fun H locs hP hD hS => ?_)
        have hP : va_P (dC, dI) classes (wZ1 h0 cy cap (upd f_10 v4_10.toNatClampNeg (vp_nar .boolean x3))) H := hP
        have hD : va_D A (wZ1 h0 cy cap (upd f_10 v4_10.toNatClampNeg (vp_nar .boolean x3))) := hD
        refine lv_iinc (v := v4_10 + 1) (lv' := [(4, .int (v4_10 + 1)), (0, .ref h0), (2, .int x2), (3, .int x3)]) hx hb dJ7_fill_479d4_21 hl (k := 0) rfl (by rfl) (by decide) rfl (fun ls hl => ?_)
        refine lv_goto (tgt := 10) hx hb dJ7_fill_479d4_24 (by decide) ?_
        exact ih (v4_10 + 1) (upd f_10 v4_10.toNatClampNeg (vp_nar .boolean x3)) hF _ _ hP hD hS _ (lv_sub hl [0, 1, 2, 3] rfl)
  exact hL10 _ hX10 fu x1 f hF _ _ hP hD hS _ (lv_sub hl [0, 1, 3, 4] rfl)
theorem dX4_reaches_0 : decode cX4_reaches 0 = .ok (.aload_n 0, 1) := by decide +kernel
theorem dX4_reaches_1 : decode cX4_reaches 1 = .ok (.getfield 45, 3) := by decide +kernel
theorem dX4_reaches_4 : decode cX4_reaches 4 = .ok (.iconst 0, 1) := by decide +kernel
theorem dX4_reaches_5 : decode cX4_reaches 5 = .ok (.iconst 1, 1) := by decide +kernel
theorem dX4_reaches_6 : decode cX4_reaches 6 = .ok (.aload_n 0, 1) := by decide +kernel
theorem dX4_reaches_7 : decode cX4_reaches 7 = .ok (.getfield 64, 3) := by decide +kernel
theorem dX4_reaches_10 : decode cX4_reaches 10 = .ok (.ishl, 1) := by decide +kernel
theorem dX4_reaches_11 : decode cX4_reaches 11 = .ok (.iconst 0, 1) := by decide +kernel
theorem dX4_reaches_12 : decode cX4_reaches 12 = .ok (.invokestatic 219, 3) := by decide +kernel
theorem dX4_reaches_15 : decode cX4_reaches 15 = .ok (.aload_n 0, 1) := by decide +kernel
theorem dX4_reaches_16 : decode cX4_reaches 16 = .ok (.getfield 45, 3) := by decide +kernel
theorem dX4_reaches_19 : decode cX4_reaches 19 = .ok (.aload_n 0, 1) := by decide +kernel
theorem dX4_reaches_20 : decode cX4_reaches 20 = .ok (.getfield 120, 3) := by decide +kernel
theorem dX4_reaches_23 : decode cX4_reaches 23 = .ok (.iconst 1, 1) := by decide +kernel
theorem dX4_reaches_24 : decode cX4_reaches 24 = .ok (.bastore, 1) := by decide +kernel
theorem dX4_reaches_25 : decode cX4_reaches 25 = .ok (.iconst 0, 1) := by decide +kernel
theorem dX4_reaches_26 : decode cX4_reaches 26 = .ok (.istore_n 1, 1) := by decide +kernel
theorem dX4_reaches_27 : decode cX4_reaches 27 = .ok (.aload_n 0, 1) := by decide +kernel
theorem dX4_reaches_28 : decode cX4_reaches 28 = .ok (.getfield 64, 3) := by decide +kernel
theorem dX4_reaches_31 : decode cX4_reaches 31 = .ok (.istore_n 2, 1) := by decide +kernel
theorem dX4_reaches_32 : decode cX4_reaches 32 = .ok (.iload_n 2, 1) := by decide +kernel
theorem dX4_reaches_33 : decode cX4_reaches 33 = .ok (.ifCond .lt 91, 3) := by decide +kernel
theorem dX4_reaches_36 : decode cX4_reaches 36 = .ok (.iconst 0, 1) := by decide +kernel
theorem dX4_reaches_37 : decode cX4_reaches 37 = .ok (.istore_n 3, 1) := by decide +kernel
theorem dX4_reaches_38 : decode cX4_reaches 38 = .ok (.iload_n 3, 1) := by decide +kernel
theorem dX4_reaches_39 : decode cX4_reaches 39 = .ok (.iconst 1, 1) := by decide +kernel
theorem dX4_reaches_40 : decode cX4_reaches 40 = .ok (.aload_n 0, 1) := by decide +kernel
theorem dX4_reaches_41 : decode cX4_reaches 41 = .ok (.getfield 64, 3) := by decide +kernel
theorem dX4_reaches_44 : decode cX4_reaches 44 = .ok (.ishl, 1) := by decide +kernel
theorem dX4_reaches_45 : decode cX4_reaches 45 = .ok (.if_icmp .ge 73, 3) := by decide +kernel
theorem dX4_reaches_48 : decode cX4_reaches 48 = .ok (.aload_n 0, 1) := by decide +kernel
theorem dX4_reaches_49 : decode cX4_reaches 49 = .ok (.getfield 45, 3) := by decide +kernel
theorem dX4_reaches_52 : decode cX4_reaches 52 = .ok (.iload_n 3, 1) := by decide +kernel
theorem dX4_reaches_53 : decode cX4_reaches 53 = .ok (.baload, 1) := by decide +kernel
theorem dX4_reaches_54 : decode cX4_reaches 54 = .ok (.ifCond .eq 58, 3) := by decide +kernel
theorem dX4_reaches_57 : decode cX4_reaches 57 = .ok (.iload_n 3, 1) := by decide +kernel
theorem dX4_reaches_58 : decode cX4_reaches 58 = .ok (.invokestatic 179, 3) := by decide +kernel
theorem dX4_reaches_61 : decode cX4_reaches 61 = .ok (.iload_n 2, 1) := by decide +kernel
theorem dX4_reaches_62 : decode cX4_reaches 62 = .ok (.if_icmp .eq 6, 3) := by decide +kernel
theorem dX4_reaches_65 : decode cX4_reaches 65 = .ok (.goto 47, 3) := by decide +kernel
theorem dX4_reaches_68 : decode cX4_reaches 68 = .ok (.iinc 1 1, 3) := by decide +kernel
theorem dX4_reaches_71 : decode cX4_reaches 71 = .ok (.iconst 0, 1) := by decide +kernel
theorem dX4_reaches_72 : decode cX4_reaches 72 = .ok (.istore 4, 2) := by decide +kernel
theorem dX4_reaches_74 : decode cX4_reaches 74 = .ok (.iload 4, 2) := by decide +kernel
theorem dX4_reaches_76 : decode cX4_reaches 76 = .ok (.aload_n 0, 1) := by decide +kernel
theorem dX4_reaches_77 : decode cX4_reaches 77 = .ok (.getfield 71, 3) := by decide +kernel
theorem dX4_reaches_80 : decode cX4_reaches 80 = .ok (.if_icmp .ge 32, 3) := by decide +kernel
theorem dX4_reaches_83 : decode cX4_reaches 83 = .ok (.aload_n 0, 1) := by decide +kernel
theorem dX4_reaches_84 : decode cX4_reaches 84 = .ok (.iload_n 3, 1) := by decide +kernel
theorem dX4_reaches_85 : decode cX4_reaches 85 = .ok (.iload 4, 2) := by decide +kernel
theorem dX4_reaches_87 : decode cX4_reaches 87 = .ok (.invokevirtual 159, 3) := by decide +kernel
theorem dX4_reaches_90 : decode cX4_reaches 90 = .ok (.ifCond .eq 16, 3) := by decide +kernel
theorem dX4_reaches_93 : decode cX4_reaches 93 = .ok (.aload_n 0, 1) := by decide +kernel
theorem dX4_reaches_94 : decode cX4_reaches 94 = .ok (.getfield 45, 3) := by decide +kernel
theorem dX4_reaches_97 : decode cX4_reaches 97 = .ok (.aload_n 0, 1) := by decide +kernel
theorem dX4_reaches_98 : decode cX4_reaches 98 = .ok (.iload_n 3, 1) := by decide +kernel
theorem dX4_reaches_99 : decode cX4_reaches 99 = .ok (.iload 4, 2) := by decide +kernel
theorem dX4_reaches_101 : decode cX4_reaches 101 = .ok (.invokevirtual 166, 3) := by decide +kernel
theorem dX4_reaches_104 : decode cX4_reaches 104 = .ok (.iconst 1, 1) := by decide +kernel
theorem dX4_reaches_105 : decode cX4_reaches 105 = .ok (.bastore, 1) := by decide +kernel
theorem dX4_reaches_106 : decode cX4_reaches 106 = .ok (.iinc 4 1, 3) := by decide +kernel
theorem dX4_reaches_109 : decode cX4_reaches 109 = .ok (.goto (-35), 3) := by decide +kernel
theorem dX4_reaches_112 : decode cX4_reaches 112 = .ok (.iinc 3 1, 3) := by decide +kernel
theorem dX4_reaches_115 : decode cX4_reaches 115 = .ok (.goto (-77), 3) := by decide +kernel
theorem dX4_reaches_118 : decode cX4_reaches 118 = .ok (.iinc 2 (-1), 3) := by decide +kernel
theorem dX4_reaches_121 : decode cX4_reaches 121 = .ok (.goto (-89), 3) := by decide +kernel
theorem dX4_reaches_124 : decode cX4_reaches 124 = .ok (.iload_n 1, 1) := by decide +kernel
theorem dX4_reaches_125 : decode cX4_reaches 125 = .ok (.ireturn, 1) := by decide +kernel
def wp_X4_reaches_J112 (rec38 : Int32 → Int32 → SX → Prop) (v3_38 : Int32) (v1_112 : Int32) (s_112 : SX) : Prop := (rec38 (v3_38 + 1) v1_112 s_112)
def wp_X4_reaches_J106 (rec74 : Int32 → SX → Prop) (v4_74 : Int32) (s_106 : SX) : Prop := (rec74 (v4_74 + 1) s_106)
def wp_X4_reaches_B74 (v3_38 : Int32) (K74 : SX → Prop) (rec74 : Int32 → SX → Prop) (v4_74 : Int32) (s_74 : SX) : Prop := (((s_74.1 1) ≤ v4_74 → (K74 s_74)) ∧ (¬ (s_74.1 1) ≤ v4_74 → (wp_X4_can s_74 v3_38 v4_74 (fun r87 => ((r87 = 0 → (wp_X4_reaches_J106 rec74 v4_74 s_74)) ∧ (¬ r87 = 0 → (wp_X4_behind s_74 v3_38 v4_74 (fun r101 => (vp_in r101 8192 ∧ (wp_X4_reaches_J106 rec74 v4_74 (sA s_74 6 (upd (s_74.2.1 6) r101.toNatClampNeg (vp_nar .boolean 1)))))))))))))
def wp_X4_reaches_L74 (v3_38 : Int32) (K74 : SX → Prop) : Nat → Int32 → SX → Prop
  | 0, _, _ => False
  | nn + 1, v4_74, s_74 => wp_X4_reaches_B74 v3_38 K74 (wp_X4_reaches_L74 v3_38 K74 nn) v4_74 s_74
def wp_X4_reaches_B38 (fu : Nat) (v2_32 : Int32) (K38 : Int32 → SX → Prop) (rec38 : Int32 → Int32 → SX → Prop) (v3_38 : Int32) (v1_38 : Int32) (s_38 : SX) : Prop := ((((1 : Int32) <<< ((s_38.1 0) &&& 31)) ≤ v3_38 → (K38 v1_38 s_38)) ∧ (¬ ((1 : Int32) <<< ((s_38.1 0) &&& 31)) ≤ v3_38 → (vp_in v3_38 8192 ∧ ((((s_38.2.1 6) v3_38.toNatClampNeg) = 0 → (wp_X4_reaches_J112 rec38 v3_38 v1_38 s_38)) ∧ (¬ ((s_38.2.1 6) v3_38.toNatClampNeg) = 0 → (wp_J6_bitCount_0f7a4 v3_38 (fun r58 => ((r58 = v2_32 → (wp_X4_reaches_L74 v3_38 (fun (s_112 : SX) => (wp_X4_reaches_J112 rec38 v3_38 (v1_38 + 1) s_112)) fu 0 s_38)) ∧ (¬ r58 = v2_32 → (wp_X4_reaches_J112 rec38 v3_38 v1_38 s_38))))))))))
def wp_X4_reaches_L38 (fu : Nat) (v2_32 : Int32) (K38 : Int32 → SX → Prop) : Nat → Int32 → Int32 → SX → Prop
  | 0, _, _, _ => False
  | nn + 1, v3_38, v1_38, s_38 => wp_X4_reaches_B38 fu v2_32 K38 (wp_X4_reaches_L38 fu v2_32 K38 nn) v3_38 v1_38 s_38
def wp_X4_reaches_B32 (fu : Nat) (K32 : Int32 → SX → Prop) (rec32 : Int32 → Int32 → SX → Prop) (v2_32 : Int32) (v1_32 : Int32) (s_32 : SX) : Prop := ((v2_32 < 0 → (K32 v1_32 s_32)) ∧ (¬ v2_32 < 0 → (wp_X4_reaches_L38 fu v2_32 (fun (v1_118 : Int32) (s_118 : SX) => (rec32 (v2_32 + (-1)) v1_118 s_118)) fu 0 v1_32 s_32)))
def wp_X4_reaches_L32 (fu : Nat) (K32 : Int32 → SX → Prop) : Nat → Int32 → Int32 → SX → Prop
  | 0, _, _, _ => False
  | nn + 1, v2_32, v1_32, s_32 => wp_X4_reaches_B32 fu K32 (wp_X4_reaches_L32 fu K32 nn) v2_32 v1_32 s_32
def wp_X4_reaches (fu : Nat) (σ : SX) (P : Int32 → SX → Prop) : Prop := (wp_J7_fill_479d4 fu 8192 (σ.2.1 6) 0 ((1 : Int32) <<< ((σ.1 0) &&& 31)) 0 (fun f12 => (vp_in (σ.1 2) 8192 ∧ (wp_X4_reaches_L32 fu (fun (v1_124 : Int32) (s_124 : SX) => (P v1_124 s_124)) fu (σ.1 0) 0 (sA (sA σ 6 f12) 6 (upd f12 (σ.1 2).toNatClampNeg (vp_nar .boolean 1)))))))
theorem k_X4_reaches : KV RX4 yX4_reaches cX4_reaches 5 (some .int) 0 := ⟨q1436, qs47, q5, q1437, by decide +kernel⟩
set_option maxHeartbeats 4000000 in
set_option maxRecDepth 100000 in
theorem m_X4_reaches (l : Launch) (dC : Nat → ClassId) (dI : Nat → Nat → Nat) (h : Nat → Nat) (cy : Nat → ClassId) (sz : Nat) (fu : Nat) (σ : SX) (P : Int32 → SX → Prop) (hF : wp_X4_reaches fu σ P) : Met l yX4_reaches (ws_ yX4_reaches cX4_reaches 5 (some .int)) ({ frames := 2, cells := 0, slots := 0, locals := 46 } : Room) (va_Pc [.ref (h 0)] (fun U => U.heap.size = sz ∧ va_P (dC, dI) classes (wC h cy σ) U.heap ∧ kwX dC dI cy U ∧ va_D (fun _ => True) (wC h cy σ))) (va_Qi (fun r u => P r u) (fun (u : SX) t => va_P (dC, dI) classes (wC h cy u) t.heap ∧ kwX dC dI cy t ∧ va_D (va_A (wC h cy σ) sz) (wC h cy u)) (va_A (wC h cy σ) sz)) 0 0 (va_A (wC h cy σ) sz) := by
  refine Met.ofCx (own := RX4) (by decide) rfl (Nat.le_of_ble_eq_true rfl) ?_
  intro p e s m below meth c hC hv ls hl
  obtain ⟨hx, hb, hr, hml, hown, hts, hlocks⟩ := hC
  have hl : lv_has ls 5 [(0, .ref (h 0))] := hl
  obtain ⟨hsz, hP, hK, hD0⟩ := hv
  subst hsz
  have hD := hD0.self (sz := s.heap.size)
  generalize hAe : va_A (wC h cy σ) s.heap.size = A at hD ⊢
  have hA : ∀ q : Nat, s.heap.size ≤ q → A q := fun q h => by rw [← hAe]; exact Or.inr h
  have hS : va_S A s.heap s.heap [] := va_S.rf
  clear hAe
  unfold wp_X4_reaches at hF
  refine lv_aload_n hx hb dX4_reaches_0 rfl (lv_at hl 0 rfl) ?_
  refine va_get (D := (dC, dI)) (ci := 4) (v := .ref (h 8)) (C := RX4) (T := TX4) (N := 19) hx hb hts in_X4 hown hK.1 hP 0 rfl rfl 10 (by decide) (hts _ q960) (fun _ h9 => h9) rfl dX4_reaches_1 ?_
  refine lv_iconst (v := 0) hx hb dX4_reaches_4 (by decide) ?_
  refine lv_iconst (v := 1) hx hb dX4_reaches_5 (by decide) ?_
  refine lv_aload_n hx hb dX4_reaches_6 rfl (lv_at hl 0 rfl) ?_
  refine va_get (D := (dC, dI)) (ci := 4) (v := .int (σ.1 0)) (C := RX4) (T := TX4) (N := 19) hx hb hts in_X4 hown hK.1 hP 0 rfl rfl 13 (by decide) (hts _ q963) (fun _ h9 => h9) rfl dX4_reaches_7 ?_
  refine lv_ishl hx hb dX4_reaches_10 ?_
  refine lv_iconst (v := 0) hx hb dX4_reaches_11 (by decide) ?_
  have hPc := hP.sub (ws' := wZ1 (h 8) cy 8192 (σ.2.1 6)) [8] rfl
  have hDc := hD.sub (ws' := wZ1 (h 8) cy 8192 (σ.2.1 6)) [8] (by decide) rfl
  have hFc := va_free (wc := wZ1 (h 8) cy 8192 (σ.2.1 6)) hD hS hA [8] rfl
  refine cwSv (wn := fun f => wZ1 (h 8) cy 8192 f) (As := [.ref (h 8), .int 0, .int ((1 : Int32) <<< ((σ.1 0) &&& 31)), .int 0]) (rest := []) ⟨hx, hb, hr, hml, hown, hts, hlocks⟩ hK hPc hDc hS hFc (m_J7_fill_479d4 l dC dI (h 8) cy _ fu 8192 (σ.2.1 6) 0 ((1 : Int32) <<< ((σ.1 0) &&& 31)) 0 _ hF) k_J7_fill_479d4 q1438 ⟨rfl, rfl⟩ ⟨Nat.le_of_ble_eq_true rfl, Nat.le_of_ble_eq_true rfl⟩ hl.1 rfl rfl (Nat.le_of_ble_eq_true rfl) dX4_reaches_12 ⟨Nat.le_of_ble_eq_true rfl, Nat.le_of_ble_eq_true rfl⟩ (fun u H1 locs hF hP1 hD1 hk1 hS => ?_)
  obtain ⟨f12, rfl⟩ : ∃ z, z = u := ⟨_, rfl⟩
  obtain ⟨hP, hD⟩ := va_join (wr := [(h 0, .inr (4, [.ref (h 1), .ref (h 2), .ref (h 3), .ref (h 4), .ref (h 5), .ref (h 6), .ref (h 20), .ref (h 21), .ref (h 22), .ref (h 7), .ref (h 8), .ref (h 9), .ref (h 23), .int (σ.1 0), .int (σ.1 1), .int (σ.1 2), .int (σ.1 3), .int (σ.1 4), .int (σ.1 5)])), (h 1, .inl (cy 0, 25, .inl (σ.2.1 0))), (h 2, .inl (cy 0, 13, .inl (σ.2.1 1))), (h 3, .inl (cy 0, 13, .inl (σ.2.1 2))), (h 4, .inl (cy 0, 104, .inl (σ.2.1 3))), (h 5, .inl (cy 0, 104, .inl (σ.2.1 4))), (h 6, .inl (cy 0, 104, .inl (σ.2.1 5))), (h 7, .inl (cy 1, 8192, .inr (.inl (σ.2.2)))), (h 9, .inl (cy 0, 8192, .inl (σ.2.1 7)))]) (w1 := wZ1 (h 8) cy 8192 f12) hP hD [8] [0, 1, 2, 3, 4, 5, 6, 7, 9] rfl rfl (by decide) (by decide) hk1 hFc hP1 hD1
  have hP := hP.sub (ws' := wC h cy (sA σ 6 f12)) [0, 1, 2, 3, 4, 5, 6, 7, 9, 8] rfl
  have hD := hD.sub (ws' := wC h cy (sA σ 6 f12)) [0, 1, 2, 3, 4, 5, 6, 7, 9, 8] (by decide) rfl
  generalize H1 = H at hP hS ⊢
  have hP : va_P (dC, dI) classes (wC h cy (sA σ 6 f12)) H := hP
  have hD : va_D A (wC h cy (sA σ 6 f12)) := hD
  refine lv_aload_n hx hb dX4_reaches_15 rfl (lv_at hl 0 rfl) ?_
  refine va_get (D := (dC, dI)) (ci := 4) (v := .ref (h 8)) (C := RX4) (T := TX4) (N := 19) hx hb hts in_X4 hown hK.1 hP 0 rfl rfl 10 (by decide) (hts _ q960) (fun _ h9 => h9) rfl dX4_reaches_16 ?_
  refine lv_aload_n hx hb dX4_reaches_19 rfl (lv_at hl 0 rfl) ?_
  refine va_get (D := (dC, dI)) (ci := 4) (v := .int (σ.1 2)) (C := RX4) (T := TX4) (N := 19) hx hb hts in_X4 hown hK.1 hP 0 rfl rfl 15 (by decide) (hts _ q965) (fun _ h9 => h9) rfl dX4_reaches_20 ?_
  refine lv_iconst (v := 1) hx hb dX4_reaches_23 (by decide) ?_
  have hI := hF.1
  have hF := hF.2
  refine va_zast hx hb hK.1 hP hD hS 8 2 rfl rfl hI dX4_reaches_24 (fun H locs hP hD hS => ?_)
  have hP : va_P (dC, dI) classes (wC h cy (sA (sA σ 6 f12) 6 (upd f12 (σ.1 2).toNatClampNeg (vp_nar .boolean 1)))) H := hP
  have hD : va_D A (wC h cy (sA (sA σ 6 f12) 6 (upd f12 (σ.1 2).toNatClampNeg (vp_nar .boolean 1)))) := hD
  refine lv_iconst (v := 0) hx hb dX4_reaches_25 (by decide) ?_
  refine lv_istore_n (lv' := [(1, .int 0), (0, .ref (h 0))]) hx hb dX4_reaches_26 rfl hl (by decide) rfl (fun ls hl => ?_)
  refine lv_aload_n hx hb dX4_reaches_27 rfl (lv_at hl 1 rfl) ?_
  refine va_get (D := (dC, dI)) (ci := 4) (v := .int (σ.1 0)) (C := RX4) (T := TX4) (N := 19) hx hb hts in_X4 hown hK.1 hP 0 rfl rfl 13 (by decide) (hts _ q963) (fun _ h9 => h9) rfl dX4_reaches_28 ?_
  refine lv_istore_n (lv' := [(2, .int (σ.1 0)), (1, .int 0), (0, .ref (h 0))]) hx hb dX4_reaches_31 rfl hl (by decide) rfl (fun ls hl => ?_)
  have hX32 : ∀ (v1_124 : Int32), ∀ (s_124 : SX), (fun (v1_124 : Int32) (s_124 : SX) => (P v1_124 s_124)) v1_124 s_124 → ∀ (H : Heap) (locs : List Loc), va_P (dC, dI) classes (wC h cy s_124) H → va_D A (wC h cy s_124) → va_S A s.heap H locs → ∀ (ls : Array Slot), lv_has ls 5 [(1, .int v1_124)] → W p l e ({ frames := 2, cells := 0, slots := 0, locals := 46 } : Room) s m ([.ref (h 0)] : List Value).toArray below meth c H locs 0 0 (MQ below (va_Qi (fun r u => P r u) (fun (u : SX) t => va_P (dC, dI) classes (wC h cy u) t.heap ∧ kwX dC dI cy t ∧ va_D A (wC h cy u)) A) ([.ref (h 0)] : List Value).toArray s 0 0 A) (F0 m 124 ls []) := by
    intro v1_124 s_124 hF H locs hP hD hS ls hl
    refine lv_iload_n hx hb dX4_reaches_124 rfl (lv_at hl 0 rfl) ?_
    exact W.iret (v := v1_124) hx hb hr (fun t ht hW => ⟨⟨v1_124, s_124, rfl, hF, by rw [ht]; exact hP, hK.warm hW, hD⟩, hS.F ht⟩) hS.2.2 dX4_reaches_125
  have hL32 : ∀ (K32 : Int32 → SX → Prop), (∀ (v1_124 : Int32), ∀ (s_124 : SX), K32 v1_124 s_124 → ∀ (H : Heap) (locs : List Loc), va_P (dC, dI) classes (wC h cy s_124) H → va_D A (wC h cy s_124) → va_S A s.heap H locs → ∀ (ls : Array Slot), lv_has ls 5 [(1, .int v1_124)] → W p l e ({ frames := 2, cells := 0, slots := 0, locals := 46 } : Room) s m ([.ref (h 0)] : List Value).toArray below meth c H locs 0 0 (MQ below (va_Qi (fun r u => P r u) (fun (u : SX) t => va_P (dC, dI) classes (wC h cy u) t.heap ∧ kwX dC dI cy t ∧ va_D A (wC h cy u)) A) ([.ref (h 0)] : List Value).toArray s 0 0 A) (F0 m 124 ls [])) → ∀ (nn : Nat), ∀ (v2_32 : Int32), ∀ (v1_32 : Int32), ∀ (s_32 : SX), wp_X4_reaches_L32 fu K32 nn v2_32 v1_32 s_32 → ∀ (H : Heap) (locs : List Loc), va_P (dC, dI) classes (wC h cy s_32) H → va_D A (wC h cy s_32) → va_S A s.heap H locs → ∀ (ls : Array Slot), lv_has ls 5 [(2, .int v2_32), (1, .int v1_32), (0, .ref (h 0))] → W p l e ({ frames := 2, cells := 0, slots := 0, locals := 46 } : Room) s m ([.ref (h 0)] : List Value).toArray below meth c H locs 0 0 (MQ below (va_Qi (fun r u => P r u) (fun (u : SX) t => va_P (dC, dI) classes (wC h cy u) t.heap ∧ kwX dC dI cy t ∧ va_D A (wC h cy u)) A) ([.ref (h 0)] : List Value).toArray s 0 0 A) (F0 m 32 ls []) := by
    intro K32 hX32 nn
    induction nn with
    | zero =>
      intro v2_32 v1_32 s_32 hF
      exact hF.elim
    | succ nn ih =>
      intro v2_32 v1_32 s_32 hF H locs hP hD hS ls hl
      obtain ⟨rec32, hrec⟩ : ∃ z : Int32 → Int32 → SX → Prop, z = wp_X4_reaches_L32 fu K32 nn := ⟨_, rfl⟩
      have hF : wp_X4_reaches_B32 fu K32 rec32 v2_32 v1_32 s_32 := by rw [hrec]; exact hF
      rw [← hrec] at ih
      clear hrec
      unfold wp_X4_reaches_B32 at hF
      refine lv_iload_n hx hb dX4_reaches_32 rfl (lv_at hl 0 rfl) ?_
      refine lv_if_lt (tgt := 124) hx hb dX4_reaches_33 (by decide) (fun cz => ?_) (fun cz => ?_)
      · have hF := hF.1 cz
        exact hX32 v1_32 s_32 hF _ _ hP hD hS _ (lv_sub hl [1] rfl)
      · have hF := hF.2 cz
        refine lv_iconst (v := 0) hx hb dX4_reaches_36 (by decide) ?_
        refine lv_istore_n (lv' := [(3, .int 0), (2, .int v2_32), (1, .int v1_32), (0, .ref (h 0))]) hx hb dX4_reaches_37 rfl hl (by decide) rfl (fun ls hl => ?_)
        have hX38 : ∀ (v1_118 : Int32), ∀ (s_118 : SX), (fun (v1_118 : Int32) (s_118 : SX) => (rec32 (v2_32 + (-1)) v1_118 s_118)) v1_118 s_118 → ∀ (H : Heap) (locs : List Loc), va_P (dC, dI) classes (wC h cy s_118) H → va_D A (wC h cy s_118) → va_S A s.heap H locs → ∀ (ls : Array Slot), lv_has ls 5 [(2, .int v2_32), (1, .int v1_118), (0, .ref (h 0))] → W p l e ({ frames := 2, cells := 0, slots := 0, locals := 46 } : Room) s m ([.ref (h 0)] : List Value).toArray below meth c H locs 0 0 (MQ below (va_Qi (fun r u => P r u) (fun (u : SX) t => va_P (dC, dI) classes (wC h cy u) t.heap ∧ kwX dC dI cy t ∧ va_D A (wC h cy u)) A) ([.ref (h 0)] : List Value).toArray s 0 0 A) (F0 m 118 ls []) := by
          intro v1_118 s_118 hF H locs hP hD hS ls hl
          refine lv_iinc (v := v2_32 + (-1)) (lv' := [(2, .int (v2_32 + (-1))), (1, .int v1_118), (0, .ref (h 0))]) hx hb dX4_reaches_118 hl (k := 0) rfl (by rfl) (by decide) rfl (fun ls hl => ?_)
          refine lv_goto (tgt := 32) hx hb dX4_reaches_121 (by decide) ?_
          exact ih (v2_32 + (-1)) v1_118 s_118 hF _ _ hP hD hS _ (lv_sub hl [0, 1, 2] rfl)
        have hL38 : ∀ (K38 : Int32 → SX → Prop), (∀ (v1_118 : Int32), ∀ (s_118 : SX), K38 v1_118 s_118 → ∀ (H : Heap) (locs : List Loc), va_P (dC, dI) classes (wC h cy s_118) H → va_D A (wC h cy s_118) → va_S A s.heap H locs → ∀ (ls : Array Slot), lv_has ls 5 [(2, .int v2_32), (1, .int v1_118), (0, .ref (h 0))] → W p l e ({ frames := 2, cells := 0, slots := 0, locals := 46 } : Room) s m ([.ref (h 0)] : List Value).toArray below meth c H locs 0 0 (MQ below (va_Qi (fun r u => P r u) (fun (u : SX) t => va_P (dC, dI) classes (wC h cy u) t.heap ∧ kwX dC dI cy t ∧ va_D A (wC h cy u)) A) ([.ref (h 0)] : List Value).toArray s 0 0 A) (F0 m 118 ls [])) → ∀ (nn : Nat), ∀ (v3_38 : Int32), ∀ (v1_38 : Int32), ∀ (s_38 : SX), wp_X4_reaches_L38 fu v2_32 K38 nn v3_38 v1_38 s_38 → ∀ (H : Heap) (locs : List Loc), va_P (dC, dI) classes (wC h cy s_38) H → va_D A (wC h cy s_38) → va_S A s.heap H locs → ∀ (ls : Array Slot), lv_has ls 5 [(3, .int v3_38), (2, .int v2_32), (1, .int v1_38), (0, .ref (h 0))] → W p l e ({ frames := 2, cells := 0, slots := 0, locals := 46 } : Room) s m ([.ref (h 0)] : List Value).toArray below meth c H locs 0 0 (MQ below (va_Qi (fun r u => P r u) (fun (u : SX) t => va_P (dC, dI) classes (wC h cy u) t.heap ∧ kwX dC dI cy t ∧ va_D A (wC h cy u)) A) ([.ref (h 0)] : List Value).toArray s 0 0 A) (F0 m 38 ls []) := by
          intro K38 hX38 nn
          induction nn with
          | zero =>
            intro v3_38 v1_38 s_38 hF
            exact hF.elim
          | succ nn ih =>
            intro v3_38 v1_38 s_38 hF H locs hP hD hS ls hl
            obtain ⟨rec38, hrec⟩ : ∃ z : Int32 → Int32 → SX → Prop, z = wp_X4_reaches_L38 fu v2_32 K38 nn := ⟨_, rfl⟩
            have hF : wp_X4_reaches_B38 fu v2_32 K38 rec38 v3_38 v1_38 s_38 := by rw [hrec]; exact hF
            rw [← hrec] at ih
            clear hrec
            unfold wp_X4_reaches_B38 at hF
            refine lv_iload_n hx hb dX4_reaches_38 rfl (lv_at hl 0 rfl) ?_
            refine lv_iconst (v := 1) hx hb dX4_reaches_39 (by decide) ?_
            refine lv_aload_n hx hb dX4_reaches_40 rfl (lv_at hl 3 rfl) ?_
            refine va_get (D := (dC, dI)) (ci := 4) (v := .int (s_38.1 0)) (C := RX4) (T := TX4) (N := 19) hx hb hts in_X4 hown hK.1 hP 0 rfl rfl 13 (by decide) (hts _ q963) (fun _ h9 => h9) rfl dX4_reaches_41 ?_
            refine lv_ishl hx hb dX4_reaches_44 ?_
            refine lv_icmp_ge (tgt := 118) hx hb dX4_reaches_45 (by decide) (fun cz => ?_) (fun cz => ?_)
            · have hF := hF.1 cz
              exact hX38 v1_38 s_38 hF _ _ hP hD hS _ (lv_sub hl [1, 2, 3] rfl)
            · have hF := hF.2 cz
              refine lv_aload_n hx hb dX4_reaches_48 rfl (lv_at hl 3 rfl) ?_
              refine va_get (D := (dC, dI)) (ci := 4) (v := .ref (h 8)) (C := RX4) (T := TX4) (N := 19) hx hb hts in_X4 hown hK.1 hP 0 rfl rfl 10 (by decide) (hts _ q960) (fun _ h9 => h9) rfl dX4_reaches_49 ?_
              refine lv_iload_n hx hb dX4_reaches_52 rfl (lv_at hl 0 rfl) ?_
              have hI := hF.1
              have hF := hF.2
              refine va_zald hx hb hK.1 hP 8 2 rfl rfl hI dX4_reaches_53 ?_
              have hJ112 : ∀ (v1_112 : Int32), ∀ (s_112 : SX), wp_X4_reaches_J112 rec38 v3_38 v1_112 s_112 → ∀ (H : Heap) (locs : List Loc), va_P (dC, dI) classes (wC h cy s_112) H → va_D A (wC h cy s_112) → va_S A s.heap H locs → ∀ (ls : Array Slot), lv_has ls 5 [(3, .int v3_38), (2, .int v2_32), (1, .int v1_112), (0, .ref (h 0))] → W p l e ({ frames := 2, cells := 0, slots := 0, locals := 46 } : Room) s m ([.ref (h 0)] : List Value).toArray below meth c H locs 0 0 (MQ below (va_Qi (fun r u => P r u) (fun (u : SX) t => va_P (dC, dI) classes (wC h cy u) t.heap ∧ kwX dC dI cy t ∧ va_D A (wC h cy u)) A) ([.ref (h 0)] : List Value).toArray s 0 0 A) (F0 m 112 ls []) := by
                intro v1_112 s_112 hF H locs hP hD hS ls hl
                unfold wp_X4_reaches_J112 at hF
                refine lv_iinc (v := v3_38 + 1) (lv' := [(3, .int (v3_38 + 1)), (2, .int v2_32), (1, .int v1_112), (0, .ref (h 0))]) hx hb dX4_reaches_112 hl (k := 0) rfl (by rfl) (by decide) rfl (fun ls hl => ?_)
                refine lv_goto (tgt := 38) hx hb dX4_reaches_115 (by decide) ?_
                exact ih (v3_38 + 1) v1_112 s_112 hF _ _ hP hD hS _ (lv_sub hl [0, 1, 2, 3] rfl)
              refine lv_if_eq (tgt := 112) hx hb dX4_reaches_54 (by decide) (fun cz => ?_) (fun cz => ?_)
              · have hF := hF.1 cz
                exact hJ112 v1_38 s_38 hF _ _ hP hD hS _ (lv_sub hl [0, 1, 2, 3] rfl)
              · have hF := hF.2 cz
                refine lv_iload_n hx hb dX4_reaches_57 rfl (lv_at hl 0 rfl) ?_
                refine cpSi (As := [.int v3_38]) (rest := []) ⟨hx, hb, hr, hml, hown, hts, hlocks⟩ (m_J6_bitCount_0f7a4 l v3_38 _ hF) k_J6_bitCount_0f7a4 q1319 ⟨rfl, rfl⟩ ⟨Nat.le_of_ble_eq_true rfl, Nat.le_of_ble_eq_true rfl⟩ hl.1 rfl rfl (Nat.le_of_ble_eq_true rfl) dX4_reaches_58 ⟨Nat.le_of_ble_eq_true rfl, Nat.le_of_ble_eq_true rfl⟩ (fun r58 hF => ?_)
                refine lv_iload_n hx hb dX4_reaches_61 rfl (lv_at hl 1 rfl) ?_
                refine lv_icmp_eq (tgt := 68) hx hb dX4_reaches_62 (by decide) (fun cz => ?_) (fun cz => ?_)
                · have hF := hF.1 cz
                  refine lv_iinc (v := v1_38 + 1) (lv' := [(1, .int (v1_38 + 1)), (3, .int v3_38), (2, .int v2_32), (0, .ref (h 0))]) hx hb dX4_reaches_68 hl (k := 2) rfl (by rfl) (by decide) rfl (fun ls hl => ?_)
                  refine lv_iconst (v := 0) hx hb dX4_reaches_71 (by decide) ?_
                  refine lv_istore (lv' := [(4, .int 0), (1, .int (v1_38 + 1)), (3, .int v3_38), (2, .int v2_32), (0, .ref (h 0))]) hx hb dX4_reaches_72 hl (by decide) rfl (fun ls hl => ?_)
                  have hX74 : ∀ (s_112 : SX), (fun (s_112 : SX) => (wp_X4_reaches_J112 rec38 v3_38 (v1_38 + 1) s_112)) s_112 → ∀ (H : Heap) (locs : List Loc), va_P (dC, dI) classes (wC h cy s_112) H → va_D A (wC h cy s_112) → va_S A s.heap H locs → ∀ (ls : Array Slot), lv_has ls 5 [(1, .int (v1_38 + 1)), (3, .int v3_38), (2, .int v2_32), (0, .ref (h 0))] → W p l e ({ frames := 2, cells := 0, slots := 0, locals := 46 } : Room) s m ([.ref (h 0)] : List Value).toArray below meth c H locs 0 0 (MQ below (va_Qi (fun r u => P r u) (fun (u : SX) t => va_P (dC, dI) classes (wC h cy u) t.heap ∧ kwX dC dI cy t ∧ va_D A (wC h cy u)) A) ([.ref (h 0)] : List Value).toArray s 0 0 A) (F0 m 112 ls []) := by
                    intro s_112 hF H locs hP hD hS ls hl
                    exact hJ112 (v1_38 + 1) s_112 hF _ _ hP hD hS _ (lv_sub hl [1, 2, 0, 3] rfl)
                  have hL74 : ∀ (K74 : SX → Prop), (∀ (s_112 : SX), K74 s_112 → ∀ (H : Heap) (locs : List Loc), va_P (dC, dI) classes (wC h cy s_112) H → va_D A (wC h cy s_112) → va_S A s.heap H locs → ∀ (ls : Array Slot), lv_has ls 5 [(1, .int (v1_38 + 1)), (3, .int v3_38), (2, .int v2_32), (0, .ref (h 0))] → W p l e ({ frames := 2, cells := 0, slots := 0, locals := 46 } : Room) s m ([.ref (h 0)] : List Value).toArray below meth c H locs 0 0 (MQ below (va_Qi (fun r u => P r u) (fun (u : SX) t => va_P (dC, dI) classes (wC h cy u) t.heap ∧ kwX dC dI cy t ∧ va_D A (wC h cy u)) A) ([.ref (h 0)] : List Value).toArray s 0 0 A) (F0 m 112 ls [])) → ∀ (nn : Nat), ∀ (v4_74 : Int32), ∀ (s_74 : SX), wp_X4_reaches_L74 v3_38 K74 nn v4_74 s_74 → ∀ (H : Heap) (locs : List Loc), va_P (dC, dI) classes (wC h cy s_74) H → va_D A (wC h cy s_74) → va_S A s.heap H locs → ∀ (ls : Array Slot), lv_has ls 5 [(4, .int v4_74), (1, .int (v1_38 + 1)), (3, .int v3_38), (2, .int v2_32), (0, .ref (h 0))] → W p l e ({ frames := 2, cells := 0, slots := 0, locals := 46 } : Room) s m ([.ref (h 0)] : List Value).toArray below meth c H locs 0 0 (MQ below (va_Qi (fun r u => P r u) (fun (u : SX) t => va_P (dC, dI) classes (wC h cy u) t.heap ∧ kwX dC dI cy t ∧ va_D A (wC h cy u)) A) ([.ref (h 0)] : List Value).toArray s 0 0 A) (F0 m 74 ls []) := by
                    intro K74 hX74 nn
                    induction nn with
                    | zero =>
                      intro v4_74 s_74 hF
                      exact hF.elim
                    | succ nn ih =>
                      intro v4_74 s_74 hF H locs hP hD hS ls hl
                      obtain ⟨rec74, hrec⟩ : ∃ z : Int32 → SX → Prop, z = wp_X4_reaches_L74 v3_38 K74 nn := ⟨_, rfl⟩
                      have hF : wp_X4_reaches_B74 v3_38 K74 rec74 v4_74 s_74 := by rw [hrec]; exact hF
                      rw [← hrec] at ih
                      clear hrec
                      unfold wp_X4_reaches_B74 at hF
                      refine lv_iload hx hb dX4_reaches_74 (lv_at hl 0 rfl) ?_
                      refine lv_aload_n hx hb dX4_reaches_76 rfl (lv_at hl 4 rfl) ?_
                      refine va_get (D := (dC, dI)) (ci := 4) (v := .int (s_74.1 1)) (C := RX4) (T := TX4) (N := 19) hx hb hts in_X4 hown hK.1 hP 0 rfl rfl 14 (by decide) (hts _ q964) (fun _ h9 => h9) rfl dX4_reaches_77 ?_
                      refine lv_icmp_ge (tgt := 112) hx hb dX4_reaches_80 (by decide) (fun cz => ?_) (fun cz => ?_)
                      · have hF := hF.1 cz
                        exact hX74 s_74 hF _ _ hP hD hS _ (lv_sub hl [1, 2, 3, 4] rfl)
                      · have hF := hF.2 cz
                        refine lv_aload_n hx hb dX4_reaches_83 rfl (lv_at hl 4 rfl) ?_
                        refine lv_iload_n hx hb dX4_reaches_84 rfl (lv_at hl 2 rfl) ?_
                        refine lv_iload hx hb dX4_reaches_85 (lv_at hl 0 rfl) ?_
                        refine cpVi (q0 := 0) (As := [.int v3_38, .int v4_74]) (rest := []) ⟨hx, hb, hr, hml, hown, hts, hlocks⟩ hK hP rfl rfl (m_X4_can l dC dI h cy s_74 v3_38 v4_74 _ hF) k_X4_can q1214 ⟨rfl, rfl⟩ ⟨Nat.le_of_ble_eq_true rfl, Nat.le_of_ble_eq_true rfl⟩ hl.1 rfl rfl (Nat.le_of_ble_eq_true rfl) dX4_reaches_87 ⟨Nat.le_of_ble_eq_true rfl, Nat.le_of_ble_eq_true rfl⟩ (fun r87 hF => ?_)
                        have hJ106 : ∀ (s_106 : SX), wp_X4_reaches_J106 rec74 v4_74 s_106 → ∀ (H : Heap) (locs : List Loc), va_P (dC, dI) classes (wC h cy s_106) H → va_D A (wC h cy s_106) → va_S A s.heap H locs → ∀ (ls : Array Slot), lv_has ls 5 [(4, .int v4_74), (1, .int (v1_38 + 1)), (3, .int v3_38), (2, .int v2_32), (0, .ref (h 0))] → W p l e ({ frames := 2, cells := 0, slots := 0, locals := 46 } : Room) s m ([.ref (h 0)] : List Value).toArray below meth c H locs 0 0 (MQ below (va_Qi (fun r u => P r u) (fun (u : SX) t => va_P (dC, dI) classes (wC h cy u) t.heap ∧ kwX dC dI cy t ∧ va_D A (wC h cy u)) A) ([.ref (h 0)] : List Value).toArray s 0 0 A) (F0 m 106 ls []) := by
                          intro s_106 hF H locs hP hD hS ls hl
                          unfold wp_X4_reaches_J106 at hF
                          refine lv_iinc (v := v4_74 + 1) (lv' := [(4, .int (v4_74 + 1)), (1, .int (v1_38 + 1)), (3, .int v3_38), (2, .int v2_32), (0, .ref (h 0))]) hx hb dX4_reaches_106 hl (k := 0) rfl (by rfl) (by decide) rfl (fun ls hl => ?_)
                          refine lv_goto (tgt := 74) hx hb dX4_reaches_109 (by decide) ?_
                          exact ih (v4_74 + 1) s_106 hF _ _ hP hD hS _ (lv_sub hl [0, 1, 2, 3, 4] rfl)
                        refine lv_if_eq (tgt := 106) hx hb dX4_reaches_90 (by decide) (fun cz => ?_) (fun cz => ?_)
                        · have hF := hF.1 cz
                          exact hJ106 s_74 hF _ _ hP hD hS _ (lv_sub hl [0, 1, 2, 3, 4] rfl)
                        · have hF := hF.2 cz
                          refine lv_aload_n hx hb dX4_reaches_93 rfl (lv_at hl 4 rfl) ?_
                          refine va_get (D := (dC, dI)) (ci := 4) (v := .ref (h 8)) (C := RX4) (T := TX4) (N := 19) hx hb hts in_X4 hown hK.1 hP 0 rfl rfl 10 (by decide) (hts _ q960) (fun _ h9 => h9) rfl dX4_reaches_94 ?_
                          refine lv_aload_n hx hb dX4_reaches_97 rfl (lv_at hl 4 rfl) ?_
                          refine lv_iload_n hx hb dX4_reaches_98 rfl (lv_at hl 2 rfl) ?_
                          refine lv_iload hx hb dX4_reaches_99 (lv_at hl 0 rfl) ?_
                          refine cpVi (q0 := 0) (As := [.int v3_38, .int v4_74]) (rest := [.ref (h 8)]) ⟨hx, hb, hr, hml, hown, hts, hlocks⟩ hK hP rfl rfl (m_X4_behind l dC dI h cy s_74 v3_38 v4_74 _ hF) k_X4_behind q1230 ⟨rfl, rfl⟩ ⟨Nat.le_of_ble_eq_true rfl, Nat.le_of_ble_eq_true rfl⟩ hl.1 rfl rfl (Nat.le_of_ble_eq_true rfl) dX4_reaches_101 ⟨Nat.le_of_ble_eq_true rfl, Nat.le_of_ble_eq_true rfl⟩ (fun r101 hF => ?_)
                          refine lv_iconst (v := 1) hx hb dX4_reaches_104 (by decide) ?_
                          have hI := hF.1
                          have hF := hF.2
                          refine va_zast hx hb hK.1 hP hD hS 8 2 rfl rfl hI dX4_reaches_105 (fun H locs hP hD hS => ?_)
                          have hP : va_P (dC, dI) classes (wC h cy (sA s_74 6 (upd (s_74.2.1 6) r101.toNatClampNeg (vp_nar .boolean 1)))) H := hP
                          have hD : va_D A (wC h cy (sA s_74 6 (upd (s_74.2.1 6) r101.toNatClampNeg (vp_nar .boolean 1)))) := hD
                          exact hJ106 (sA s_74 6 (upd (s_74.2.1 6) r101.toNatClampNeg (vp_nar .boolean 1))) hF _ _ hP hD hS _ (lv_sub hl [0, 1, 2, 3, 4] rfl)
                  exact hL74 _ hX74 fu 0 s_38 hF _ _ hP hD hS _ (lv_sub hl [0, 1, 2, 3, 4] rfl)
                · have hF := hF.2 cz
                  refine lv_goto (tgt := 112) hx hb dX4_reaches_65 (by decide) ?_
                  exact hJ112 v1_38 s_38 hF _ _ hP hD hS _ (lv_sub hl [0, 1, 2, 3] rfl)
        exact hL38 _ hX38 fu 0 v1_32 s_32 hF _ _ hP hD hS _ (lv_sub hl [0, 1, 2, 3] rfl)
  exact hL32 _ hX32 fu (σ.1 0) 0 (sA (sA σ 6 f12) 6 (upd f12 (σ.1 2).toNatClampNeg (vp_nar .boolean 1))) hF _ _ hP hD hS _ (lv_sub hl [0, 1, 2] rfl)
theorem dX4_jumpsOf_0 : decode cX4_jumpsOf 0 = .ok (.iconst 0, 1) := by decide +kernel
theorem dX4_jumpsOf_1 : decode cX4_jumpsOf 1 = .ok (.istore_n 2, 1) := by decide +kernel
theorem dX4_jumpsOf_2 : decode cX4_jumpsOf 2 = .ok (.iconst 0, 1) := by decide +kernel
theorem dX4_jumpsOf_3 : decode cX4_jumpsOf 3 = .ok (.istore_n 3, 1) := by decide +kernel
theorem dX4_jumpsOf_4 : decode cX4_jumpsOf 4 = .ok (.iload_n 3, 1) := by decide +kernel
theorem dX4_jumpsOf_5 : decode cX4_jumpsOf 5 = .ok (.aload_n 0, 1) := by decide +kernel
theorem dX4_jumpsOf_6 : decode cX4_jumpsOf 6 = .ok (.getfield 71, 3) := by decide +kernel
theorem dX4_jumpsOf_9 : decode cX4_jumpsOf 9 = .ok (.if_icmp .ge 26, 3) := by decide +kernel
theorem dX4_jumpsOf_12 : decode cX4_jumpsOf 12 = .ok (.iload_n 2, 1) := by decide +kernel
theorem dX4_jumpsOf_13 : decode cX4_jumpsOf 13 = .ok (.aload_n 0, 1) := by decide +kernel
theorem dX4_jumpsOf_14 : decode cX4_jumpsOf 14 = .ok (.iload_n 1, 1) := by decide +kernel
theorem dX4_jumpsOf_15 : decode cX4_jumpsOf 15 = .ok (.iload_n 3, 1) := by decide +kernel
theorem dX4_jumpsOf_16 : decode cX4_jumpsOf 16 = .ok (.invokevirtual 159, 3) := by decide +kernel
theorem dX4_jumpsOf_19 : decode cX4_jumpsOf 19 = .ok (.ifCond .eq 7, 3) := by decide +kernel
theorem dX4_jumpsOf_22 : decode cX4_jumpsOf 22 = .ok (.iconst 1, 1) := by decide +kernel
theorem dX4_jumpsOf_23 : decode cX4_jumpsOf 23 = .ok (.goto 4, 3) := by decide +kernel
theorem dX4_jumpsOf_26 : decode cX4_jumpsOf 26 = .ok (.iconst 0, 1) := by decide +kernel
theorem dX4_jumpsOf_27 : decode cX4_jumpsOf 27 = .ok (.iadd, 1) := by decide +kernel
theorem dX4_jumpsOf_28 : decode cX4_jumpsOf 28 = .ok (.istore_n 2, 1) := by decide +kernel
theorem dX4_jumpsOf_29 : decode cX4_jumpsOf 29 = .ok (.iinc 3 1, 3) := by decide +kernel
theorem dX4_jumpsOf_32 : decode cX4_jumpsOf 32 = .ok (.goto (-28), 3) := by decide +kernel
theorem dX4_jumpsOf_35 : decode cX4_jumpsOf 35 = .ok (.iload_n 2, 1) := by decide +kernel
theorem dX4_jumpsOf_36 : decode cX4_jumpsOf 36 = .ok (.ireturn, 1) := by decide +kernel
def wp_X4_jumpsOf_J27 (rec4 : Int32 → Int32 → Prop) (v3_4 : Int32) (v2_4 : Int32) (t1_27 : Int32) : Prop := (rec4 (v3_4 + 1) (v2_4 + t1_27))
def wp_X4_jumpsOf_B4 (σ : SX) (x1 : Int32) (K4 : Int32 → Prop) (rec4 : Int32 → Int32 → Prop) (v3_4 : Int32) (v2_4 : Int32) : Prop := (((σ.1 1) ≤ v3_4 → (K4 v2_4)) ∧ (¬ (σ.1 1) ≤ v3_4 → (wp_X4_can σ x1 v3_4 (fun r16 => ((r16 = 0 → (wp_X4_jumpsOf_J27 rec4 v3_4 v2_4 0)) ∧ (¬ r16 = 0 → (wp_X4_jumpsOf_J27 rec4 v3_4 v2_4 1)))))))
def wp_X4_jumpsOf_L4 (σ : SX) (x1 : Int32) (K4 : Int32 → Prop) : Nat → Int32 → Int32 → Prop
  | 0, _, _ => False
  | nn + 1, v3_4, v2_4 => wp_X4_jumpsOf_B4 σ x1 K4 (wp_X4_jumpsOf_L4 σ x1 K4 nn) v3_4 v2_4
def wp_X4_jumpsOf (fu : Nat) (σ : SX) (x1 : Int32) (P : Int32 → Prop) : Prop := (wp_X4_jumpsOf_L4 σ x1 (fun (v2_35 : Int32) => (P v2_35)) fu 0 0)
theorem k_X4_jumpsOf : KV RX4 yX4_jumpsOf cX4_jumpsOf 4 (some .int) 1 := ⟨q1326, qs42, q5, q1327, by decide +kernel⟩
set_option maxHeartbeats 4000000 in
set_option maxRecDepth 100000 in
theorem m_X4_jumpsOf (l : Launch) (dC : Nat → ClassId) (dI : Nat → Nat → Nat) (h : Nat → Nat) (cy : Nat → ClassId) (fu : Nat) (σ : SX) (x1 : Int32) (P : Int32 → Prop) (hF : wp_X4_jumpsOf fu σ x1 P) : Met l yX4_jumpsOf (ws_ yX4_jumpsOf cX4_jumpsOf 4 (some .int)) ({ frames := 2, cells := 0, slots := 0, locals := 43 } : Room) (va_Pc [.ref (h 0), .int x1] (fun U => va_P (dC, dI) classes (wC h cy σ) U.heap ∧ kwX dC dI cy U)) (vp_Si P) 0 0 (fun _ => False) := by
  refine Met.ofCx (own := RX4) (by decide) rfl (Nat.le_of_ble_eq_true rfl) ?_
  intro p e s m below meth c hC hv ls hl
  obtain ⟨hx, hb, hr, hml, hown, hts, hlocks⟩ := hC
  have hl : lv_has ls 4 [(0, .ref (h 0)), (1, .int x1)] := hl
  obtain ⟨hP, hK⟩ := hv
  unfold wp_X4_jumpsOf at hF
  refine lv_iconst (v := 0) hx hb dX4_jumpsOf_0 (by decide) ?_
  refine lv_istore_n (lv' := [(2, .int 0), (0, .ref (h 0)), (1, .int x1)]) hx hb dX4_jumpsOf_1 rfl hl (by decide) rfl (fun ls hl => ?_)
  refine lv_iconst (v := 0) hx hb dX4_jumpsOf_2 (by decide) ?_
  refine lv_istore_n (lv' := [(3, .int 0), (2, .int 0), (0, .ref (h 0)), (1, .int x1)]) hx hb dX4_jumpsOf_3 rfl hl (by decide) rfl (fun ls hl => ?_)
  have hX4 : ∀ (v2_35 : Int32), (fun (v2_35 : Int32) => (P v2_35)) v2_35 → ∀ (ls : Array Slot), lv_has ls 4 [(2, .int v2_35)] → W p l e ({ frames := 2, cells := 0, slots := 0, locals := 43 } : Room) s m ([.ref (h 0), .int x1] : List Value).toArray below meth c s.heap [] 0 0 (MQ below (vp_Si P) ([.ref (h 0), .int x1] : List Value).toArray s 0 0 (fun _ => False)) (F0 m 35 ls []) := by
    intro v2_35 hF ls hl
    refine lv_iload_n hx hb dX4_jumpsOf_35 rfl (lv_at hl 0 rfl) ?_
    exact W.iret (v := v2_35) hx hb hr (fun t ht hW => ⟨v2_35, rfl, hF, ht⟩) (fun q hq => absurd hq List.not_mem_nil) dX4_jumpsOf_36
  have hL4 : ∀ (K4 : Int32 → Prop), (∀ (v2_35 : Int32), K4 v2_35 → ∀ (ls : Array Slot), lv_has ls 4 [(2, .int v2_35)] → W p l e ({ frames := 2, cells := 0, slots := 0, locals := 43 } : Room) s m ([.ref (h 0), .int x1] : List Value).toArray below meth c s.heap [] 0 0 (MQ below (vp_Si P) ([.ref (h 0), .int x1] : List Value).toArray s 0 0 (fun _ => False)) (F0 m 35 ls [])) → ∀ (nn : Nat), ∀ (v3_4 : Int32), ∀ (v2_4 : Int32), wp_X4_jumpsOf_L4 σ x1 K4 nn v3_4 v2_4 → ∀ (ls : Array Slot), lv_has ls 4 [(3, .int v3_4), (2, .int v2_4), (0, .ref (h 0)), (1, .int x1)] → W p l e ({ frames := 2, cells := 0, slots := 0, locals := 43 } : Room) s m ([.ref (h 0), .int x1] : List Value).toArray below meth c s.heap [] 0 0 (MQ below (vp_Si P) ([.ref (h 0), .int x1] : List Value).toArray s 0 0 (fun _ => False)) (F0 m 4 ls []) := by
    intro K4 hX4 nn
    induction nn with
    | zero =>
      intro v3_4 v2_4 hF
      exact hF.elim
    | succ nn ih =>
      intro v3_4 v2_4 hF ls hl
      obtain ⟨rec4, hrec⟩ : ∃ z : Int32 → Int32 → Prop, z = wp_X4_jumpsOf_L4 σ x1 K4 nn := ⟨_, rfl⟩
      have hF : wp_X4_jumpsOf_B4 σ x1 K4 rec4 v3_4 v2_4 := by rw [hrec]; exact hF
      rw [← hrec] at ih
      clear hrec
      unfold wp_X4_jumpsOf_B4 at hF
      refine lv_iload_n hx hb dX4_jumpsOf_4 rfl (lv_at hl 0 rfl) ?_
      refine lv_aload_n hx hb dX4_jumpsOf_5 rfl (lv_at hl 2 rfl) ?_
      refine va_get (D := (dC, dI)) (ci := 4) (v := .int (σ.1 1)) (C := RX4) (T := TX4) (N := 19) hx hb hts in_X4 hown hK.1 hP 0 rfl rfl 14 (by decide) (hts _ q964) (fun _ h9 => h9) rfl dX4_jumpsOf_6 ?_
      refine lv_icmp_ge (tgt := 35) hx hb dX4_jumpsOf_9 (by decide) (fun cz => ?_) (fun cz => ?_)
      · have hF := hF.1 cz
        exact hX4 v2_4 hF _ (lv_sub hl [1] rfl)
      · have hF := hF.2 cz
        refine lv_iload_n hx hb dX4_jumpsOf_12 rfl (lv_at hl 1 rfl) ?_
        refine lv_aload_n hx hb dX4_jumpsOf_13 rfl (lv_at hl 2 rfl) ?_
        refine lv_iload_n hx hb dX4_jumpsOf_14 rfl (lv_at hl 3 rfl) ?_
        refine lv_iload_n hx hb dX4_jumpsOf_15 rfl (lv_at hl 0 rfl) ?_
        refine cpVi (q0 := 0) (As := [.int x1, .int v3_4]) (rest := [.int v2_4]) ⟨hx, hb, hr, hml, hown, hts, hlocks⟩ hK hP rfl rfl (m_X4_can l dC dI h cy σ x1 v3_4 _ hF) k_X4_can q1214 ⟨rfl, rfl⟩ ⟨Nat.le_of_ble_eq_true rfl, Nat.le_of_ble_eq_true rfl⟩ hl.1 rfl rfl (Nat.le_of_ble_eq_true rfl) dX4_jumpsOf_16 ⟨Nat.le_of_ble_eq_true rfl, Nat.le_of_ble_eq_true rfl⟩ (fun r16 hF => ?_)
        have hJ27 : ∀ (t1_27 : Int32), wp_X4_jumpsOf_J27 rec4 v3_4 v2_4 t1_27 → ∀ (ls : Array Slot), lv_has ls 4 [(3, .int v3_4), (0, .ref (h 0)), (1, .int x1)] → W p l e ({ frames := 2, cells := 0, slots := 0, locals := 43 } : Room) s m ([.ref (h 0), .int x1] : List Value).toArray below meth c s.heap [] 0 0 (MQ below (vp_Si P) ([.ref (h 0), .int x1] : List Value).toArray s 0 0 (fun _ => False)) (F0 m 27 ls [.int t1_27, .int v2_4]) := by
          intro t1_27 hF ls hl
          unfold wp_X4_jumpsOf_J27 at hF
          refine lv_iadd hx hb dX4_jumpsOf_27 ?_
          refine lv_istore_n (lv' := [(2, .int (v2_4 + t1_27)), (3, .int v3_4), (0, .ref (h 0)), (1, .int x1)]) hx hb dX4_jumpsOf_28 rfl hl (by decide) rfl (fun ls hl => ?_)
          refine lv_iinc (v := v3_4 + 1) (lv' := [(3, .int (v3_4 + 1)), (2, .int (v2_4 + t1_27)), (0, .ref (h 0)), (1, .int x1)]) hx hb dX4_jumpsOf_29 hl (k := 1) rfl (by rfl) (by decide) rfl (fun ls hl => ?_)
          refine lv_goto (tgt := 4) hx hb dX4_jumpsOf_32 (by decide) ?_
          exact ih (v3_4 + 1) (v2_4 + t1_27) hF _ (lv_sub hl [0, 1, 2, 3] rfl)
        refine lv_if_eq (tgt := 26) hx hb dX4_jumpsOf_19 (by decide) (fun cz => ?_) (fun cz => ?_)
        · have hF := hF.1 cz
          refine lv_iconst (v := 0) hx hb dX4_jumpsOf_26 (by decide) ?_
          exact hJ27 0 hF _ (lv_sub hl [0, 2, 3] rfl)
        · have hF := hF.2 cz
          refine lv_iconst (v := 1) hx hb dX4_jumpsOf_22 (by decide) ?_
          refine lv_goto (tgt := 27) hx hb dX4_jumpsOf_23 (by decide) ?_
          exact hJ27 1 hF _ (lv_sub hl [0, 2, 3] rfl)
  exact hL4 _ hX4 fu 0 0 hF _ (lv_sub hl [0, 1, 2, 3] rfl)
theorem dX4_dead_0 : decode cX4_dead 0 = .ok (.aload_n 0, 1) := by decide +kernel
theorem dX4_dead_1 : decode cX4_dead 1 = .ok (.iconst 0, 1) := by decide +kernel
theorem dX4_dead_2 : decode cX4_dead 2 = .ok (.putfield 60, 3) := by decide +kernel
theorem dX4_dead_5 : decode cX4_dead 5 = .ok (.aload_n 0, 1) := by decide +kernel
theorem dX4_dead_6 : decode cX4_dead 6 = .ok (.invokevirtual 222, 3) := by decide +kernel
theorem dX4_dead_9 : decode cX4_dead 9 = .ok (.pop, 1) := by decide +kernel
theorem dX4_dead_10 : decode cX4_dead 10 = .ok (.iconst 0, 1) := by decide +kernel
theorem dX4_dead_11 : decode cX4_dead 11 = .ok (.istore_n 1, 1) := by decide +kernel
theorem dX4_dead_12 : decode cX4_dead 12 = .ok (.iconst 0, 1) := by decide +kernel
theorem dX4_dead_13 : decode cX4_dead 13 = .ok (.istore_n 2, 1) := by decide +kernel
theorem dX4_dead_14 : decode cX4_dead 14 = .ok (.iload_n 2, 1) := by decide +kernel
theorem dX4_dead_15 : decode cX4_dead 15 = .ok (.iconst 1, 1) := by decide +kernel
theorem dX4_dead_16 : decode cX4_dead 16 = .ok (.aload_n 0, 1) := by decide +kernel
theorem dX4_dead_17 : decode cX4_dead 17 = .ok (.getfield 64, 3) := by decide +kernel
theorem dX4_dead_20 : decode cX4_dead 20 = .ok (.ishl, 1) := by decide +kernel
theorem dX4_dead_21 : decode cX4_dead 21 = .ok (.if_icmp .ge 34, 3) := by decide +kernel
theorem dX4_dead_24 : decode cX4_dead 24 = .ok (.iload_n 1, 1) := by decide +kernel
theorem dX4_dead_25 : decode cX4_dead 25 = .ok (.aload_n 0, 1) := by decide +kernel
theorem dX4_dead_26 : decode cX4_dead 26 = .ok (.getfield 45, 3) := by decide +kernel
theorem dX4_dead_29 : decode cX4_dead 29 = .ok (.iload_n 2, 1) := by decide +kernel
theorem dX4_dead_30 : decode cX4_dead 30 = .ok (.baload, 1) := by decide +kernel
theorem dX4_dead_31 : decode cX4_dead 31 = .ok (.ifCond .eq 15, 3) := by decide +kernel
theorem dX4_dead_34 : decode cX4_dead 34 = .ok (.aload_n 0, 1) := by decide +kernel
theorem dX4_dead_35 : decode cX4_dead 35 = .ok (.iload_n 2, 1) := by decide +kernel
theorem dX4_dead_36 : decode cX4_dead 36 = .ok (.invokevirtual 188, 3) := by decide +kernel
theorem dX4_dead_39 : decode cX4_dead 39 = .ok (.ifCond .ne 7, 3) := by decide +kernel
theorem dX4_dead_42 : decode cX4_dead 42 = .ok (.iconst 1, 1) := by decide +kernel
theorem dX4_dead_43 : decode cX4_dead 43 = .ok (.goto 4, 3) := by decide +kernel
theorem dX4_dead_46 : decode cX4_dead 46 = .ok (.iconst 0, 1) := by decide +kernel
theorem dX4_dead_47 : decode cX4_dead 47 = .ok (.iadd, 1) := by decide +kernel
theorem dX4_dead_48 : decode cX4_dead 48 = .ok (.istore_n 1, 1) := by decide +kernel
theorem dX4_dead_49 : decode cX4_dead 49 = .ok (.iinc 2 1, 3) := by decide +kernel
theorem dX4_dead_52 : decode cX4_dead 52 = .ok (.goto (-38), 3) := by decide +kernel
theorem dX4_dead_55 : decode cX4_dead 55 = .ok (.iload_n 1, 1) := by decide +kernel
theorem dX4_dead_56 : decode cX4_dead 56 = .ok (.ireturn, 1) := by decide +kernel
def wp_X4_dead_J47 (rec14 : Int32 → Int32 → Prop) (v2_14 : Int32) (v1_14 : Int32) (t1_47 : Int32) : Prop := (rec14 (v2_14 + 1) (v1_14 + t1_47))
def wp_X4_dead_J46 (rec14 : Int32 → Int32 → Prop) (v2_14 : Int32) (v1_14 : Int32) : Prop := (wp_X4_dead_J47 rec14 v2_14 v1_14 0)
def wp_X4_dead_B14 (fu : Nat) (s6 : SX) (K14 : Int32 → Prop) (rec14 : Int32 → Int32 → Prop) (v2_14 : Int32) (v1_14 : Int32) : Prop := ((((1 : Int32) <<< ((s6.1 0) &&& 31)) ≤ v2_14 → (K14 v1_14)) ∧ (¬ ((1 : Int32) <<< ((s6.1 0) &&& 31)) ≤ v2_14 → (vp_in v2_14 8192 ∧ ((((s6.2.1 6) v2_14.toNatClampNeg) = 0 → wp_X4_dead_J46 rec14 v2_14 v1_14) ∧ (¬ ((s6.2.1 6) v2_14.toNatClampNeg) = 0 → (wp_X4_jumpsOf fu s6 v2_14 (fun r36 => ((¬ r36 = 0 → wp_X4_dead_J46 rec14 v2_14 v1_14) ∧ (r36 = 0 → (wp_X4_dead_J47 rec14 v2_14 v1_14 1))))))))))
def wp_X4_dead_L14 (fu : Nat) (s6 : SX) (K14 : Int32 → Prop) : Nat → Int32 → Int32 → Prop
  | 0, _, _ => False
  | nn + 1, v2_14, v1_14 => wp_X4_dead_B14 fu s6 K14 (wp_X4_dead_L14 fu s6 K14 nn) v2_14 v1_14
def wp_X4_dead (fu : Nat) (σ : SX) (P : Int32 → SX → Prop) : Prop := (wp_X4_reaches fu (sI σ 5 0)  (fun r6 s6 => (wp_X4_dead_L14 fu s6 (fun (v1_55 : Int32) => (P v1_55 s6)) fu 0 0)))
theorem k_X4_dead : KV RX4 yX4_dead cX4_dead 3 (some .int) 0 := ⟨q1645, q1646, q5, q1647, by decide +kernel⟩
set_option maxHeartbeats 4000000 in
set_option maxRecDepth 100000 in
theorem m_X4_dead (l : Launch) (dC : Nat → ClassId) (dI : Nat → Nat → Nat) (h : Nat → Nat) (cy : Nat → ClassId) (sz : Nat) (fu : Nat) (σ : SX) (P : Int32 → SX → Prop) (hF : wp_X4_dead fu σ P) : Met l yX4_dead (ws_ yX4_dead cX4_dead 3 (some .int)) ({ frames := 3, cells := 0, slots := 0, locals := 70 } : Room) (va_Pc [.ref (h 0)] (fun U => U.heap.size = sz ∧ va_P (dC, dI) classes (wC h cy σ) U.heap ∧ kwX dC dI cy U ∧ va_D (fun _ => True) (wC h cy σ))) (va_Qi (fun r u => P r u) (fun (u : SX) t => va_P (dC, dI) classes (wC h cy u) t.heap ∧ kwX dC dI cy t ∧ va_D (va_A (wC h cy σ) sz) (wC h cy u)) (va_A (wC h cy σ) sz)) 0 0 (va_A (wC h cy σ) sz) := by
  refine Met.ofCx (own := RX4) (by decide) rfl (Nat.le_of_ble_eq_true rfl) ?_
  intro p e s m below meth c hC hv ls hl
  obtain ⟨hx, hb, hr, hml, hown, hts, hlocks⟩ := hC
  have hl : lv_has ls 3 [(0, .ref (h 0))] := hl
  obtain ⟨hsz, hP, hK, hD0⟩ := hv
  subst hsz
  have hD := hD0.self (sz := s.heap.size)
  generalize hAe : va_A (wC h cy σ) s.heap.size = A at hD ⊢
  have hA : ∀ q : Nat, s.heap.size ≤ q → A q := fun q h => by rw [← hAe]; exact Or.inr h
  have hS : va_S A s.heap s.heap [] := va_S.rf
  clear hAe
  unfold wp_X4_dead at hF
  refine lv_aload_n hx hb dX4_dead_0 rfl (lv_at hl 0 rfl) ?_
  refine lv_iconst (v := 0) hx hb dX4_dead_1 (by decide) ?_
  refine va_put (D := (dC, dI)) (ci := 4) (v := .int 0) (ty := .int) (C := RX4) (T := TX4) (N := 19) hx hb hts in_X4 tyX4 tyX4_ok nmX4 hown hK.1 hP hD hS 0 rfl rfl 18 (by decide) (hts _ q968) (fun _ h9 => h9) rfl (by decide +kernel) rfl rfl (Nat.le_of_ble_eq_true rfl) dX4_dead_2 (fun H locs hP hD hS => ?_)
  have hP : va_P (dC, dI) classes (wC h cy (sI σ 5 0)) H := hP
  have hD : va_D A (wC h cy (sI σ 5 0)) := hD
  refine lv_aload_n hx hb dX4_dead_5 rfl (lv_at hl 0 rfl) ?_
  have hFc := va_free (wc := wC h cy (sI σ 5 0)) hD hS hA [0, 1, 2, 3, 4, 5, 6, 7, 8, 9] rfl
  refine cwVi (q0 := 0) (As := []) (rest := []) ⟨hx, hb, hr, hml, hown, hts, hlocks⟩ hK hP hD rfl rfl hS hFc (m_X4_reaches l dC dI h cy _ fu (sI σ 5 0)  _ hF) k_X4_reaches q1434 ⟨rfl, rfl⟩ ⟨Nat.le_of_ble_eq_true rfl, Nat.le_of_ble_eq_true rfl⟩ hl.1 rfl rfl (Nat.le_of_ble_eq_true rfl) dX4_dead_6 ⟨Nat.le_of_ble_eq_true rfl, Nat.le_of_ble_eq_true rfl⟩ (fun r6 u H1 locs hF hP1 hD1 hk1 hS => ?_)
  obtain ⟨s6, rfl⟩ : ∃ z, z = u := ⟨_, rfl⟩
  have hP := hP1
  have hD := hD1.weaken (fun _ q _ h => hFc q.1 h)
  generalize H1 = H at hP hS ⊢
  have hP : va_P (dC, dI) classes (wC h cy s6) H := hP
  have hD : va_D A (wC h cy s6) := hD
  refine lv_pop hx hb dX4_dead_9 rfl ?_
  refine lv_iconst (v := 0) hx hb dX4_dead_10 (by decide) ?_
  refine lv_istore_n (lv' := [(1, .int 0), (0, .ref (h 0))]) hx hb dX4_dead_11 rfl hl (by decide) rfl (fun ls hl => ?_)
  refine lv_iconst (v := 0) hx hb dX4_dead_12 (by decide) ?_
  refine lv_istore_n (lv' := [(2, .int 0), (1, .int 0), (0, .ref (h 0))]) hx hb dX4_dead_13 rfl hl (by decide) rfl (fun ls hl => ?_)
  have hX14 : ∀ (v1_55 : Int32), (fun (v1_55 : Int32) => (P v1_55 s6)) v1_55 → ∀ (H : Heap) (locs : List Loc), va_P (dC, dI) classes (wC h cy s6) H → va_D A (wC h cy s6) → va_S A s.heap H locs → ∀ (ls : Array Slot), lv_has ls 3 [(1, .int v1_55)] → W p l e ({ frames := 3, cells := 0, slots := 0, locals := 70 } : Room) s m ([.ref (h 0)] : List Value).toArray below meth c H locs 0 0 (MQ below (va_Qi (fun r u => P r u) (fun (u : SX) t => va_P (dC, dI) classes (wC h cy u) t.heap ∧ kwX dC dI cy t ∧ va_D A (wC h cy u)) A) ([.ref (h 0)] : List Value).toArray s 0 0 A) (F0 m 55 ls []) := by
    intro v1_55 hF H locs hP hD hS ls hl
    refine lv_iload_n hx hb dX4_dead_55 rfl (lv_at hl 0 rfl) ?_
    exact W.iret (v := v1_55) hx hb hr (fun t ht hW => ⟨⟨v1_55, s6, rfl, hF, by rw [ht]; exact hP, hK.warm hW, hD⟩, hS.F ht⟩) hS.2.2 dX4_dead_56
  have hL14 : ∀ (K14 : Int32 → Prop), (∀ (v1_55 : Int32), K14 v1_55 → ∀ (H : Heap) (locs : List Loc), va_P (dC, dI) classes (wC h cy s6) H → va_D A (wC h cy s6) → va_S A s.heap H locs → ∀ (ls : Array Slot), lv_has ls 3 [(1, .int v1_55)] → W p l e ({ frames := 3, cells := 0, slots := 0, locals := 70 } : Room) s m ([.ref (h 0)] : List Value).toArray below meth c H locs 0 0 (MQ below (va_Qi (fun r u => P r u) (fun (u : SX) t => va_P (dC, dI) classes (wC h cy u) t.heap ∧ kwX dC dI cy t ∧ va_D A (wC h cy u)) A) ([.ref (h 0)] : List Value).toArray s 0 0 A) (F0 m 55 ls [])) → ∀ (nn : Nat), ∀ (v2_14 : Int32), ∀ (v1_14 : Int32), wp_X4_dead_L14 fu s6 K14 nn v2_14 v1_14 → ∀ (H : Heap) (locs : List Loc), va_P (dC, dI) classes (wC h cy s6) H → va_D A (wC h cy s6) → va_S A s.heap H locs → ∀ (ls : Array Slot), lv_has ls 3 [(2, .int v2_14), (1, .int v1_14), (0, .ref (h 0))] → W p l e ({ frames := 3, cells := 0, slots := 0, locals := 70 } : Room) s m ([.ref (h 0)] : List Value).toArray below meth c H locs 0 0 (MQ below (va_Qi (fun r u => P r u) (fun (u : SX) t => va_P (dC, dI) classes (wC h cy u) t.heap ∧ kwX dC dI cy t ∧ va_D A (wC h cy u)) A) ([.ref (h 0)] : List Value).toArray s 0 0 A) (F0 m 14 ls []) := by
    intro K14 hX14 nn
    induction nn with
    | zero =>
      intro v2_14 v1_14 hF
      exact hF.elim
    | succ nn ih =>
      intro v2_14 v1_14 hF H locs hP hD hS ls hl
      obtain ⟨rec14, hrec⟩ : ∃ z : Int32 → Int32 → Prop, z = wp_X4_dead_L14 fu s6 K14 nn := ⟨_, rfl⟩
      have hF : wp_X4_dead_B14 fu s6 K14 rec14 v2_14 v1_14 := by rw [hrec]; exact hF
      rw [← hrec] at ih
      clear hrec
      unfold wp_X4_dead_B14 at hF
      refine lv_iload_n hx hb dX4_dead_14 rfl (lv_at hl 0 rfl) ?_
      refine lv_iconst (v := 1) hx hb dX4_dead_15 (by decide) ?_
      refine lv_aload_n hx hb dX4_dead_16 rfl (lv_at hl 2 rfl) ?_
      refine va_get (D := (dC, dI)) (ci := 4) (v := .int (s6.1 0)) (C := RX4) (T := TX4) (N := 19) hx hb hts in_X4 hown hK.1 hP 0 rfl rfl 13 (by decide) (hts _ q963) (fun _ h9 => h9) rfl dX4_dead_17 ?_
      refine lv_ishl hx hb dX4_dead_20 ?_
      refine lv_icmp_ge (tgt := 55) hx hb dX4_dead_21 (by decide) (fun cz => ?_) (fun cz => ?_)
      · have hF := hF.1 cz
        exact hX14 v1_14 hF _ _ hP hD hS _ (lv_sub hl [1] rfl)
      · have hF := hF.2 cz
        refine lv_iload_n hx hb dX4_dead_24 rfl (lv_at hl 1 rfl) ?_
        refine lv_aload_n hx hb dX4_dead_25 rfl (lv_at hl 2 rfl) ?_
        refine va_get (D := (dC, dI)) (ci := 4) (v := .ref (h 8)) (C := RX4) (T := TX4) (N := 19) hx hb hts in_X4 hown hK.1 hP 0 rfl rfl 10 (by decide) (hts _ q960) (fun _ h9 => h9) rfl dX4_dead_26 ?_
        refine lv_iload_n hx hb dX4_dead_29 rfl (lv_at hl 0 rfl) ?_
        have hI := hF.1
        have hF := hF.2
        refine va_zald hx hb hK.1 hP 8 2 rfl rfl hI dX4_dead_30 ?_
        have hJ47 : ∀ (t1_47 : Int32), wp_X4_dead_J47 rec14 v2_14 v1_14 t1_47 → ∀ (H : Heap) (locs : List Loc), va_P (dC, dI) classes (wC h cy s6) H → va_D A (wC h cy s6) → va_S A s.heap H locs → ∀ (ls : Array Slot), lv_has ls 3 [(2, .int v2_14), (0, .ref (h 0))] → W p l e ({ frames := 3, cells := 0, slots := 0, locals := 70 } : Room) s m ([.ref (h 0)] : List Value).toArray below meth c H locs 0 0 (MQ below (va_Qi (fun r u => P r u) (fun (u : SX) t => va_P (dC, dI) classes (wC h cy u) t.heap ∧ kwX dC dI cy t ∧ va_D A (wC h cy u)) A) ([.ref (h 0)] : List Value).toArray s 0 0 A) (F0 m 47 ls [.int t1_47, .int v1_14]) := by
          intro t1_47 hF H locs hP hD hS ls hl
          unfold wp_X4_dead_J47 at hF
          refine lv_iadd hx hb dX4_dead_47 ?_
          refine lv_istore_n (lv' := [(1, .int (v1_14 + t1_47)), (2, .int v2_14), (0, .ref (h 0))]) hx hb dX4_dead_48 rfl hl (by decide) rfl (fun ls hl => ?_)
          refine lv_iinc (v := v2_14 + 1) (lv' := [(2, .int (v2_14 + 1)), (1, .int (v1_14 + t1_47)), (0, .ref (h 0))]) hx hb dX4_dead_49 hl (k := 1) rfl (by rfl) (by decide) rfl (fun ls hl => ?_)
          refine lv_goto (tgt := 14) hx hb dX4_dead_52 (by decide) ?_
          exact ih (v2_14 + 1) (v1_14 + t1_47) hF _ _ hP hD hS _ (lv_sub hl [0, 1, 2] rfl)
        have hJ46 : wp_X4_dead_J46 rec14 v2_14 v1_14 → ∀ (H : Heap) (locs : List Loc), va_P (dC, dI) classes (wC h cy s6) H → va_D A (wC h cy s6) → va_S A s.heap H locs → ∀ (ls : Array Slot), lv_has ls 3 [(2, .int v2_14), (0, .ref (h 0))] → W p l e ({ frames := 3, cells := 0, slots := 0, locals := 70 } : Room) s m ([.ref (h 0)] : List Value).toArray below meth c H locs 0 0 (MQ below (va_Qi (fun r u => P r u) (fun (u : SX) t => va_P (dC, dI) classes (wC h cy u) t.heap ∧ kwX dC dI cy t ∧ va_D A (wC h cy u)) A) ([.ref (h 0)] : List Value).toArray s 0 0 A) (F0 m 46 ls [.int v1_14]) := by
          intro hF H locs hP hD hS ls hl
          unfold wp_X4_dead_J46 at hF
          refine lv_iconst (v := 0) hx hb dX4_dead_46 (by decide) ?_
          exact hJ47 0 hF _ _ hP hD hS _ (lv_sub hl [0, 1] rfl)
        refine lv_if_eq (tgt := 46) hx hb dX4_dead_31 (by decide) (fun cz => ?_) (fun cz => ?_)
        · have hF := hF.1 cz
          exact hJ46 hF _ _ hP hD hS _ (lv_sub hl [0, 2] rfl)
        · have hF := hF.2 cz
          refine lv_aload_n hx hb dX4_dead_34 rfl (lv_at hl 2 rfl) ?_
          refine lv_iload_n hx hb dX4_dead_35 rfl (lv_at hl 0 rfl) ?_
          refine cpVi (q0 := 0) (As := [.int v2_14]) (rest := [.int v1_14]) ⟨hx, hb, hr, hml, hown, hts, hlocks⟩ hK hP rfl rfl (m_X4_jumpsOf l dC dI h cy fu s6 v2_14 _ hF) k_X4_jumpsOf q1324 ⟨rfl, rfl⟩ ⟨Nat.le_of_ble_eq_true rfl, Nat.le_of_ble_eq_true rfl⟩ hl.1 rfl rfl (Nat.le_of_ble_eq_true rfl) dX4_dead_36 ⟨Nat.le_of_ble_eq_true rfl, Nat.le_of_ble_eq_true rfl⟩ (fun r36 hF => ?_)
          refine lv_if_ne (tgt := 46) hx hb dX4_dead_39 (by decide) (fun cz => ?_) (fun cz => ?_)
          · have hF := hF.1 cz
            exact hJ46 hF _ _ hP hD hS _ (lv_sub hl [0, 2] rfl)
          · have hF := hF.2 cz
            refine lv_iconst (v := 1) hx hb dX4_dead_42 (by decide) ?_
            refine lv_goto (tgt := 47) hx hb dX4_dead_43 (by decide) ?_
            exact hJ47 1 hF _ _ hP hD hS _ (lv_sub hl [0, 2] rfl)
  exact hL14 _ hX14 fu 0 0 hF _ _ hP hD hS _ (lv_sub hl [0, 1, 2] rfl)
theorem dX4_gains_0 : decode cX4_gains 0 = .ok (.aload_n 0, 1) := by decide +kernel
theorem dX4_gains_1 : decode cX4_gains 1 = .ok (.getfield 16, 3) := by decide +kernel
theorem dX4_gains_4 : decode cX4_gains 4 = .ok (.aload_n 0, 1) := by decide +kernel
theorem dX4_gains_5 : decode cX4_gains 5 = .ok (.getfield 25, 3) := by decide +kernel
theorem dX4_gains_8 : decode cX4_gains 8 = .ok (.iload_n 1, 1) := by decide +kernel
theorem dX4_gains_9 : decode cX4_gains 9 = .ok (.iaload, 1) := by decide +kernel
theorem dX4_gains_10 : decode cX4_gains 10 = .ok (.iaload, 1) := by decide +kernel
theorem dX4_gains_11 : decode cX4_gains 11 = .ok (.aload_n 0, 1) := by decide +kernel
theorem dX4_gains_12 : decode cX4_gains 12 = .ok (.getfield 16, 3) := by decide +kernel
theorem dX4_gains_15 : decode cX4_gains 15 = .ok (.aload_n 0, 1) := by decide +kernel
theorem dX4_gains_16 : decode cX4_gains 16 = .ok (.getfield 19, 3) := by decide +kernel
theorem dX4_gains_19 : decode cX4_gains 19 = .ok (.iload_n 1, 1) := by decide +kernel
theorem dX4_gains_20 : decode cX4_gains 20 = .ok (.iaload, 1) := by decide +kernel
theorem dX4_gains_21 : decode cX4_gains 21 = .ok (.iaload, 1) := by decide +kernel
theorem dX4_gains_22 : decode cX4_gains 22 = .ok (.isub, 1) := by decide +kernel
theorem dX4_gains_23 : decode cX4_gains 23 = .ok (.aload_n 0, 1) := by decide +kernel
theorem dX4_gains_24 : decode cX4_gains 24 = .ok (.getfield 16, 3) := by decide +kernel
theorem dX4_gains_27 : decode cX4_gains 27 = .ok (.aload_n 0, 1) := by decide +kernel
theorem dX4_gains_28 : decode cX4_gains 28 = .ok (.getfield 22, 3) := by decide +kernel
theorem dX4_gains_31 : decode cX4_gains 31 = .ok (.iload_n 1, 1) := by decide +kernel
theorem dX4_gains_32 : decode cX4_gains 32 = .ok (.iaload, 1) := by decide +kernel
theorem dX4_gains_33 : decode cX4_gains 33 = .ok (.iaload, 1) := by decide +kernel
theorem dX4_gains_34 : decode cX4_gains 34 = .ok (.isub, 1) := by decide +kernel
theorem dX4_gains_35 : decode cX4_gains 35 = .ok (.ireturn, 1) := by decide +kernel
def wp_X4_gains (σ : SX) (x1 : Int32) (P : Int32 → Prop) : Prop := (vp_in x1 104 ∧ (vp_in ((σ.2.1 5) x1.toNatClampNeg) 13 ∧ (vp_in x1 104 ∧ (vp_in ((σ.2.1 3) x1.toNatClampNeg) 13 ∧ (vp_in x1 104 ∧ (vp_in ((σ.2.1 4) x1.toNatClampNeg) 13 ∧ (P ((((σ.2.1 2) ((σ.2.1 5) x1.toNatClampNeg).toNatClampNeg) - ((σ.2.1 2) ((σ.2.1 3) x1.toNatClampNeg).toNatClampNeg)) - ((σ.2.1 2) ((σ.2.1 4) x1.toNatClampNeg).toNatClampNeg)))))))))
theorem k_X4_gains : KV RX4 yX4_gains cX4_gains 2 (some .int) 1 := ⟨q1686, qs51, q5, q1687, by decide +kernel⟩
set_option maxHeartbeats 4000000 in
set_option maxRecDepth 100000 in
theorem m_X4_gains (l : Launch) (dC : Nat → ClassId) (dI : Nat → Nat → Nat) (h : Nat → Nat) (cy : Nat → ClassId) (σ : SX) (x1 : Int32) (P : Int32 → Prop) (hF : wp_X4_gains σ x1 P) : Met l yX4_gains (ws_ yX4_gains cX4_gains 2 (some .int)) ({ frames := 0, cells := 0, slots := 0, locals := 0 } : Room) (va_Pc [.ref (h 0), .int x1] (fun U => va_P (dC, dI) classes (wC h cy σ) U.heap ∧ kwX dC dI cy U)) (vp_Si P) 0 0 (fun _ => False) := by
  refine Met.ofCx (own := RX4) (by decide) rfl (Nat.le_of_ble_eq_true rfl) ?_
  intro p e s m below meth c hC hv ls hl
  obtain ⟨hx, hb, hr, hml, hown, hts, hlocks⟩ := hC
  have hl : lv_has ls 2 [(0, .ref (h 0)), (1, .int x1)] := hl
  obtain ⟨hP, hK⟩ := hv
  unfold wp_X4_gains at hF
  refine lv_aload_n hx hb dX4_gains_0 rfl (lv_at hl 0 rfl) ?_
  refine va_get (D := (dC, dI)) (ci := 4) (v := .ref (h 3)) (C := RX4) (T := TX4) (N := 19) hx hb hts in_X4 hown hK.1 hP 0 rfl rfl 2 (by decide) (hts _ q952) (fun _ h9 => h9) rfl dX4_gains_1 ?_
  refine lv_aload_n hx hb dX4_gains_4 rfl (lv_at hl 0 rfl) ?_
  refine va_get (D := (dC, dI)) (ci := 4) (v := .ref (h 6)) (C := RX4) (T := TX4) (N := 19) hx hb hts in_X4 hown hK.1 hP 0 rfl rfl 5 (by decide) (hts _ q955) (fun _ h9 => h9) rfl dX4_gains_5 ?_
  refine lv_iload_n hx hb dX4_gains_8 rfl (lv_at hl 1 rfl) ?_
  have hI := hF.1
  have hF := hF.2
  refine va_iald hx hb hK.1 hP 6 0 rfl rfl hI dX4_gains_9 ?_
  have hI := hF.1
  have hF := hF.2
  refine va_iald hx hb hK.1 hP 3 0 rfl rfl hI dX4_gains_10 ?_
  refine lv_aload_n hx hb dX4_gains_11 rfl (lv_at hl 0 rfl) ?_
  refine va_get (D := (dC, dI)) (ci := 4) (v := .ref (h 3)) (C := RX4) (T := TX4) (N := 19) hx hb hts in_X4 hown hK.1 hP 0 rfl rfl 2 (by decide) (hts _ q952) (fun _ h9 => h9) rfl dX4_gains_12 ?_
  refine lv_aload_n hx hb dX4_gains_15 rfl (lv_at hl 0 rfl) ?_
  refine va_get (D := (dC, dI)) (ci := 4) (v := .ref (h 4)) (C := RX4) (T := TX4) (N := 19) hx hb hts in_X4 hown hK.1 hP 0 rfl rfl 3 (by decide) (hts _ q953) (fun _ h9 => h9) rfl dX4_gains_16 ?_
  refine lv_iload_n hx hb dX4_gains_19 rfl (lv_at hl 1 rfl) ?_
  have hI := hF.1
  have hF := hF.2
  refine va_iald hx hb hK.1 hP 4 0 rfl rfl hI dX4_gains_20 ?_
  have hI := hF.1
  have hF := hF.2
  refine va_iald hx hb hK.1 hP 3 0 rfl rfl hI dX4_gains_21 ?_
  refine lv_isub hx hb dX4_gains_22 ?_
  refine lv_aload_n hx hb dX4_gains_23 rfl (lv_at hl 0 rfl) ?_
  refine va_get (D := (dC, dI)) (ci := 4) (v := .ref (h 3)) (C := RX4) (T := TX4) (N := 19) hx hb hts in_X4 hown hK.1 hP 0 rfl rfl 2 (by decide) (hts _ q952) (fun _ h9 => h9) rfl dX4_gains_24 ?_
  refine lv_aload_n hx hb dX4_gains_27 rfl (lv_at hl 0 rfl) ?_
  refine va_get (D := (dC, dI)) (ci := 4) (v := .ref (h 5)) (C := RX4) (T := TX4) (N := 19) hx hb hts in_X4 hown hK.1 hP 0 rfl rfl 4 (by decide) (hts _ q954) (fun _ h9 => h9) rfl dX4_gains_28 ?_
  refine lv_iload_n hx hb dX4_gains_31 rfl (lv_at hl 1 rfl) ?_
  have hI := hF.1
  have hF := hF.2
  refine va_iald hx hb hK.1 hP 5 0 rfl rfl hI dX4_gains_32 ?_
  have hI := hF.1
  have hF := hF.2
  refine va_iald hx hb hK.1 hP 3 0 rfl rfl hI dX4_gains_33 ?_
  refine lv_isub hx hb dX4_gains_34 ?_
  exact W.iret (v := (((σ.2.1 2) ((σ.2.1 5) x1.toNatClampNeg).toNatClampNeg) - ((σ.2.1 2) ((σ.2.1 3) x1.toNatClampNeg).toNatClampNeg)) - ((σ.2.1 2) ((σ.2.1 4) x1.toNatClampNeg).toNatClampNeg)) hx hb hr (fun t ht hW => ⟨(((σ.2.1 2) ((σ.2.1 5) x1.toNatClampNeg).toNatClampNeg) - ((σ.2.1 2) ((σ.2.1 3) x1.toNatClampNeg).toNatClampNeg)) - ((σ.2.1 2) ((σ.2.1 4) x1.toNatClampNeg).toNatClampNeg), rfl, hF, ht⟩) (fun q hq => absurd hq List.not_mem_nil) dX4_gains_35
theorem dX4_worst_0 : decode cX4_worst 0 = .ok (.iconst (-1), 1) := by decide +kernel
theorem dX4_worst_1 : decode cX4_worst 1 = .ok (.istore_n 1, 1) := by decide +kernel
theorem dX4_worst_2 : decode cX4_worst 2 = .ok (.iconst 0, 1) := by decide +kernel
theorem dX4_worst_3 : decode cX4_worst 3 = .ok (.istore_n 2, 1) := by decide +kernel
theorem dX4_worst_4 : decode cX4_worst 4 = .ok (.iload_n 2, 1) := by decide +kernel
theorem dX4_worst_5 : decode cX4_worst 5 = .ok (.aload_n 0, 1) := by decide +kernel
theorem dX4_worst_6 : decode cX4_worst 6 = .ok (.getfield 71, 3) := by decide +kernel
theorem dX4_worst_9 : decode cX4_worst 9 = .ok (.if_icmp .ge 33, 3) := by decide +kernel
theorem dX4_worst_12 : decode cX4_worst 12 = .ok (.aload_n 0, 1) := by decide +kernel
theorem dX4_worst_13 : decode cX4_worst 13 = .ok (.iload_n 2, 1) := by decide +kernel
theorem dX4_worst_14 : decode cX4_worst 14 = .ok (.invokevirtual 231, 3) := by decide +kernel
theorem dX4_worst_17 : decode cX4_worst 17 = .ok (.iload_n 1, 1) := by decide +kernel
theorem dX4_worst_18 : decode cX4_worst 18 = .ok (.iconst (-1), 1) := by decide +kernel
theorem dX4_worst_19 : decode cX4_worst 19 = .ok (.if_icmp .ne 7, 3) := by decide +kernel
theorem dX4_worst_22 : decode cX4_worst 22 = .ok (.iconst 0, 1) := by decide +kernel
theorem dX4_worst_23 : decode cX4_worst 23 = .ok (.goto 8, 3) := by decide +kernel
theorem dX4_worst_26 : decode cX4_worst 26 = .ok (.aload_n 0, 1) := by decide +kernel
theorem dX4_worst_27 : decode cX4_worst 27 = .ok (.iload_n 1, 1) := by decide +kernel
theorem dX4_worst_28 : decode cX4_worst 28 = .ok (.invokevirtual 231, 3) := by decide +kernel
theorem dX4_worst_31 : decode cX4_worst 31 = .ok (.if_icmp .le 5, 3) := by decide +kernel
theorem dX4_worst_34 : decode cX4_worst 34 = .ok (.iload_n 2, 1) := by decide +kernel
theorem dX4_worst_35 : decode cX4_worst 35 = .ok (.istore_n 1, 1) := by decide +kernel
theorem dX4_worst_36 : decode cX4_worst 36 = .ok (.iinc 2 1, 3) := by decide +kernel
theorem dX4_worst_39 : decode cX4_worst 39 = .ok (.goto (-35), 3) := by decide +kernel
theorem dX4_worst_42 : decode cX4_worst 42 = .ok (.iload_n 1, 1) := by decide +kernel
theorem dX4_worst_43 : decode cX4_worst 43 = .ok (.ireturn, 1) := by decide +kernel
def wp_X4_worst_J36 (rec4 : Int32 → Int32 → Prop) (v2_4 : Int32) (v1_36 : Int32) : Prop := (rec4 (v2_4 + 1) v1_36)
def wp_X4_worst_J31 (rec4 : Int32 → Int32 → Prop) (v2_4 : Int32) (v1_4 : Int32) (r14 : Int32) (t1_31 : Int32) : Prop := ((r14 ≤ t1_31 → (wp_X4_worst_J36 rec4 v2_4 v1_4)) ∧ (¬ r14 ≤ t1_31 → (wp_X4_worst_J36 rec4 v2_4 v2_4)))
def wp_X4_worst_B4 (σ : SX) (K4 : Int32 → Prop) (rec4 : Int32 → Int32 → Prop) (v2_4 : Int32) (v1_4 : Int32) : Prop := (((σ.1 1) ≤ v2_4 → (K4 v1_4)) ∧ (¬ (σ.1 1) ≤ v2_4 → (wp_X4_gains σ v2_4 (fun r14 => ((¬ v1_4 = (-1) → (wp_X4_gains σ v1_4 (fun r28 => (wp_X4_worst_J31 rec4 v2_4 v1_4 r14 r28)))) ∧ (v1_4 = (-1) → (wp_X4_worst_J31 rec4 v2_4 v1_4 r14 0)))))))
def wp_X4_worst_L4 (σ : SX) (K4 : Int32 → Prop) : Nat → Int32 → Int32 → Prop
  | 0, _, _ => False
  | nn + 1, v2_4, v1_4 => wp_X4_worst_B4 σ K4 (wp_X4_worst_L4 σ K4 nn) v2_4 v1_4
def wp_X4_worst (fu : Nat) (σ : SX) (P : Int32 → Prop) : Prop := (wp_X4_worst_L4 σ (fun (v1_42 : Int32) => (P v1_42)) fu 0 (-1))
theorem k_X4_worst : KV RX4 yX4_worst cX4_worst 3 (some .int) 0 := ⟨q1682, qs50, q5, q1683, by decide +kernel⟩
set_option maxHeartbeats 4000000 in
set_option maxRecDepth 100000 in
theorem m_X4_worst (l : Launch) (dC : Nat → ClassId) (dI : Nat → Nat → Nat) (h : Nat → Nat) (cy : Nat → ClassId) (fu : Nat) (σ : SX) (P : Int32 → Prop) (hF : wp_X4_worst fu σ P) : Met l yX4_worst (ws_ yX4_worst cX4_worst 3 (some .int)) ({ frames := 1, cells := 0, slots := 0, locals := 21 } : Room) (va_Pc [.ref (h 0)] (fun U => va_P (dC, dI) classes (wC h cy σ) U.heap ∧ kwX dC dI cy U)) (vp_Si P) 0 0 (fun _ => False) := by
  refine Met.ofCx (own := RX4) (by decide) rfl (Nat.le_of_ble_eq_true rfl) ?_
  intro p e s m below meth c hC hv ls hl
  obtain ⟨hx, hb, hr, hml, hown, hts, hlocks⟩ := hC
  have hl : lv_has ls 3 [(0, .ref (h 0))] := hl
  obtain ⟨hP, hK⟩ := hv
  unfold wp_X4_worst at hF
  refine lv_iconst (v := (-1)) hx hb dX4_worst_0 (by decide) ?_
  refine lv_istore_n (lv' := [(1, .int (-1)), (0, .ref (h 0))]) hx hb dX4_worst_1 rfl hl (by decide) rfl (fun ls hl => ?_)
  refine lv_iconst (v := 0) hx hb dX4_worst_2 (by decide) ?_
  refine lv_istore_n (lv' := [(2, .int 0), (1, .int (-1)), (0, .ref (h 0))]) hx hb dX4_worst_3 rfl hl (by decide) rfl (fun ls hl => ?_)
  have hX4 : ∀ (v1_42 : Int32), (fun (v1_42 : Int32) => (P v1_42)) v1_42 → ∀ (ls : Array Slot), lv_has ls 3 [(1, .int v1_42)] → W p l e ({ frames := 1, cells := 0, slots := 0, locals := 21 } : Room) s m ([.ref (h 0)] : List Value).toArray below meth c s.heap [] 0 0 (MQ below (vp_Si P) ([.ref (h 0)] : List Value).toArray s 0 0 (fun _ => False)) (F0 m 42 ls []) := by
    intro v1_42 hF ls hl
    refine lv_iload_n hx hb dX4_worst_42 rfl (lv_at hl 0 rfl) ?_
    exact W.iret (v := v1_42) hx hb hr (fun t ht hW => ⟨v1_42, rfl, hF, ht⟩) (fun q hq => absurd hq List.not_mem_nil) dX4_worst_43
  have hL4 : ∀ (K4 : Int32 → Prop), (∀ (v1_42 : Int32), K4 v1_42 → ∀ (ls : Array Slot), lv_has ls 3 [(1, .int v1_42)] → W p l e ({ frames := 1, cells := 0, slots := 0, locals := 21 } : Room) s m ([.ref (h 0)] : List Value).toArray below meth c s.heap [] 0 0 (MQ below (vp_Si P) ([.ref (h 0)] : List Value).toArray s 0 0 (fun _ => False)) (F0 m 42 ls [])) → ∀ (nn : Nat), ∀ (v2_4 : Int32), ∀ (v1_4 : Int32), wp_X4_worst_L4 σ K4 nn v2_4 v1_4 → ∀ (ls : Array Slot), lv_has ls 3 [(2, .int v2_4), (1, .int v1_4), (0, .ref (h 0))] → W p l e ({ frames := 1, cells := 0, slots := 0, locals := 21 } : Room) s m ([.ref (h 0)] : List Value).toArray below meth c s.heap [] 0 0 (MQ below (vp_Si P) ([.ref (h 0)] : List Value).toArray s 0 0 (fun _ => False)) (F0 m 4 ls []) := by
    intro K4 hX4 nn
    induction nn with
    | zero =>
      intro v2_4 v1_4 hF
      exact hF.elim
    | succ nn ih =>
      intro v2_4 v1_4 hF ls hl
      obtain ⟨rec4, hrec⟩ : ∃ z : Int32 → Int32 → Prop, z = wp_X4_worst_L4 σ K4 nn := ⟨_, rfl⟩
      have hF : wp_X4_worst_B4 σ K4 rec4 v2_4 v1_4 := by rw [hrec]; exact hF
      rw [← hrec] at ih
      clear hrec
      unfold wp_X4_worst_B4 at hF
      refine lv_iload_n hx hb dX4_worst_4 rfl (lv_at hl 0 rfl) ?_
      refine lv_aload_n hx hb dX4_worst_5 rfl (lv_at hl 2 rfl) ?_
      refine va_get (D := (dC, dI)) (ci := 4) (v := .int (σ.1 1)) (C := RX4) (T := TX4) (N := 19) hx hb hts in_X4 hown hK.1 hP 0 rfl rfl 14 (by decide) (hts _ q964) (fun _ h9 => h9) rfl dX4_worst_6 ?_
      refine lv_icmp_ge (tgt := 42) hx hb dX4_worst_9 (by decide) (fun cz => ?_) (fun cz => ?_)
      · have hF := hF.1 cz
        exact hX4 v1_4 hF _ (lv_sub hl [1] rfl)
      · have hF := hF.2 cz
        refine lv_aload_n hx hb dX4_worst_12 rfl (lv_at hl 2 rfl) ?_
        refine lv_iload_n hx hb dX4_worst_13 rfl (lv_at hl 0 rfl) ?_
        refine cpVi (q0 := 0) (As := [.int v2_4]) (rest := []) ⟨hx, hb, hr, hml, hown, hts, hlocks⟩ hK hP rfl rfl (m_X4_gains l dC dI h cy σ v2_4 _ hF) k_X4_gains q1684 ⟨rfl, rfl⟩ ⟨Nat.le_of_ble_eq_true rfl, Nat.le_of_ble_eq_true rfl⟩ hl.1 rfl rfl (Nat.le_of_ble_eq_true rfl) dX4_worst_14 ⟨Nat.le_of_ble_eq_true rfl, Nat.le_of_ble_eq_true rfl⟩ (fun r14 hF => ?_)
        refine lv_iload_n hx hb dX4_worst_17 rfl (lv_at hl 1 rfl) ?_
        refine lv_iconst (v := (-1)) hx hb dX4_worst_18 (by decide) ?_
        have hJ31 : ∀ (t1_31 : Int32), wp_X4_worst_J31 rec4 v2_4 v1_4 r14 t1_31 → ∀ (ls : Array Slot), lv_has ls 3 [(2, .int v2_4), (1, .int v1_4), (0, .ref (h 0))] → W p l e ({ frames := 1, cells := 0, slots := 0, locals := 21 } : Room) s m ([.ref (h 0)] : List Value).toArray below meth c s.heap [] 0 0 (MQ below (vp_Si P) ([.ref (h 0)] : List Value).toArray s 0 0 (fun _ => False)) (F0 m 31 ls [.int t1_31, .int r14]) := by
          intro t1_31 hF ls hl
          unfold wp_X4_worst_J31 at hF
          have hJ36 : ∀ (v1_36 : Int32), wp_X4_worst_J36 rec4 v2_4 v1_36 → ∀ (ls : Array Slot), lv_has ls 3 [(2, .int v2_4), (1, .int v1_36), (0, .ref (h 0))] → W p l e ({ frames := 1, cells := 0, slots := 0, locals := 21 } : Room) s m ([.ref (h 0)] : List Value).toArray below meth c s.heap [] 0 0 (MQ below (vp_Si P) ([.ref (h 0)] : List Value).toArray s 0 0 (fun _ => False)) (F0 m 36 ls []) := by
            intro v1_36 hF ls hl
            unfold wp_X4_worst_J36 at hF
            refine lv_iinc (v := v2_4 + 1) (lv' := [(2, .int (v2_4 + 1)), (1, .int v1_36), (0, .ref (h 0))]) hx hb dX4_worst_36 hl (k := 0) rfl (by rfl) (by decide) rfl (fun ls hl => ?_)
            refine lv_goto (tgt := 4) hx hb dX4_worst_39 (by decide) ?_
            exact ih (v2_4 + 1) v1_36 hF _ (lv_sub hl [0, 1, 2] rfl)
          refine lv_icmp_le (tgt := 36) hx hb dX4_worst_31 (by decide) (fun cz => ?_) (fun cz => ?_)
          · have hF := hF.1 cz
            exact hJ36 v1_4 hF _ (lv_sub hl [0, 1, 2] rfl)
          · have hF := hF.2 cz
            refine lv_iload_n hx hb dX4_worst_34 rfl (lv_at hl 0 rfl) ?_
            refine lv_istore_n (lv' := [(1, .int v2_4), (2, .int v2_4), (0, .ref (h 0))]) hx hb dX4_worst_35 rfl hl (by decide) rfl (fun ls hl => ?_)
            exact hJ36 v2_4 hF _ (lv_sub hl [1, 0, 2] rfl)
        refine lv_icmp_ne (tgt := 26) hx hb dX4_worst_19 (by decide) (fun cz => ?_) (fun cz => ?_)
        · have hF := hF.1 cz
          refine lv_aload_n hx hb dX4_worst_26 rfl (lv_at hl 2 rfl) ?_
          refine lv_iload_n hx hb dX4_worst_27 rfl (lv_at hl 1 rfl) ?_
          refine cpVi (q0 := 0) (As := [.int v1_4]) (rest := [.int r14]) ⟨hx, hb, hr, hml, hown, hts, hlocks⟩ hK hP rfl rfl (m_X4_gains l dC dI h cy σ v1_4 _ hF) k_X4_gains q1684 ⟨rfl, rfl⟩ ⟨Nat.le_of_ble_eq_true rfl, Nat.le_of_ble_eq_true rfl⟩ hl.1 rfl rfl (Nat.le_of_ble_eq_true rfl) dX4_worst_28 ⟨Nat.le_of_ble_eq_true rfl, Nat.le_of_ble_eq_true rfl⟩ (fun r28 hF => ?_)
          exact hJ31 r28 hF _ (lv_sub hl [0, 1, 2] rfl)
        · have hF := hF.2 cz
          refine lv_iconst (v := 0) hx hb dX4_worst_22 (by decide) ?_
          refine lv_goto (tgt := 31) hx hb dX4_worst_23 (by decide) ?_
          exact hJ31 0 hF _ (lv_sub hl [0, 1, 2] rfl)
  exact hL4 _ hX4 fu 0 (-1) hF _ (lv_sub hl [0, 1, 2] rfl)
theorem dX4_fault_0 : decode cX4_fault 0 = .ok (.aload_n 0, 1) := by decide +kernel
theorem dX4_fault_1 : decode cX4_fault 1 = .ok (.aload_n 0, 1) := by decide +kernel
theorem dX4_fault_2 : decode cX4_fault 2 = .ok (.invokevirtual 234, 3) := by decide +kernel
theorem dX4_fault_5 : decode cX4_fault 5 = .ok (.iconst (-1), 1) := by decide +kernel
theorem dX4_fault_6 : decode cX4_fault 6 = .ok (.if_icmp .ne 7, 3) := by decide +kernel
theorem dX4_fault_9 : decode cX4_fault 9 = .ok (.iconst 1, 1) := by decide +kernel
theorem dX4_fault_10 : decode cX4_fault 10 = .ok (.goto 4, 3) := by decide +kernel
theorem dX4_fault_13 : decode cX4_fault 13 = .ok (.iconst 0, 1) := by decide +kernel
theorem dX4_fault_14 : decode cX4_fault 14 = .ok (.invokevirtual 100, 3) := by decide +kernel
theorem dX4_fault_17 : decode cX4_fault 17 = .ok (.ifCond .eq 7, 3) := by decide +kernel
theorem dX4_fault_20 : decode cX4_fault 20 = .ok (.iconst 0, 1) := by decide +kernel
theorem dX4_fault_21 : decode cX4_fault 21 = .ok (.goto 11, 3) := by decide +kernel
theorem dX4_fault_24 : decode cX4_fault 24 = .ok (.aload_n 0, 1) := by decide +kernel
theorem dX4_fault_25 : decode cX4_fault 25 = .ok (.aload_n 0, 1) := by decide +kernel
theorem dX4_fault_26 : decode cX4_fault 26 = .ok (.invokevirtual 234, 3) := by decide +kernel
theorem dX4_fault_29 : decode cX4_fault 29 = .ok (.invokevirtual 191, 3) := by decide +kernel
theorem dX4_fault_32 : decode cX4_fault 32 = .ok (.ireturn, 1) := by decide +kernel
def wp_X4_fault_J14 (fu : Nat) (σ : SX) (P : Int32 → SX → Prop) (t1_14 : Int32) : Prop := (wp_X4_fails σ t1_14 (fun r14 s14 => ((r14 = 0 → (wp_X4_worst fu s14  (fun r26 => (wp_X4_codeOf s14 r26 (fun r29 => (P r29 s14)))))) ∧ (¬ r14 = 0 → (P 0 s14)))))
def wp_X4_fault (fu : Nat) (σ : SX) (P : Int32 → SX → Prop) : Prop := (wp_X4_worst fu σ  (fun r2 => ((¬ r2 = (-1) → (wp_X4_fault_J14 fu σ P 0)) ∧ (r2 = (-1) → (wp_X4_fault_J14 fu σ P 1)))))
theorem k_X4_fault : KV RX4 yX4_fault cX4_fault 1 (some .int) 0 := ⟨q1689, q1690, q5, q1691, by decide +kernel⟩
set_option maxHeartbeats 4000000 in
set_option maxRecDepth 100000 in
theorem m_X4_fault (l : Launch) (dC : Nat → ClassId) (dI : Nat → Nat → Nat) (h : Nat → Nat) (cy : Nat → ClassId) (sz : Nat) (fu : Nat) (σ : SX) (P : Int32 → SX → Prop) (hF : wp_X4_fault fu σ P) : Met l yX4_fault (ws_ yX4_fault cX4_fault 1 (some .int)) ({ frames := 2, cells := 0, slots := 0, locals := 43 } : Room) (va_Pc [.ref (h 0)] (fun U => U.heap.size = sz ∧ va_P (dC, dI) classes (wC h cy σ) U.heap ∧ kwX dC dI cy U ∧ va_D (fun _ => True) (wC h cy σ))) (va_Qi (fun r u => P r u) (fun (u : SX) t => va_P (dC, dI) classes (wC h cy u) t.heap ∧ kwX dC dI cy t ∧ va_D (va_A (wC h cy σ) sz) (wC h cy u)) (va_A (wC h cy σ) sz)) 0 0 (va_A (wC h cy σ) sz) := by
  refine Met.ofCx (own := RX4) (by decide) rfl (Nat.le_of_ble_eq_true rfl) ?_
  intro p e s m below meth c hC hv ls hl
  obtain ⟨hx, hb, hr, hml, hown, hts, hlocks⟩ := hC
  have hl : lv_has ls 1 [(0, .ref (h 0))] := hl
  obtain ⟨hsz, hP, hK, hD0⟩ := hv
  subst hsz
  have hD := hD0.self (sz := s.heap.size)
  generalize hAe : va_A (wC h cy σ) s.heap.size = A at hD ⊢
  have hA : ∀ q : Nat, s.heap.size ≤ q → A q := fun q h => by rw [← hAe]; exact Or.inr h
  have hS : va_S A s.heap s.heap [] := va_S.rf
  clear hAe
  unfold wp_X4_fault at hF
  refine lv_aload_n hx hb dX4_fault_0 rfl (lv_at hl 0 rfl) ?_
  refine lv_aload_n hx hb dX4_fault_1 rfl (lv_at hl 0 rfl) ?_
  refine cpVi (q0 := 0) (As := []) (rest := [.ref (h 0)]) ⟨hx, hb, hr, hml, hown, hts, hlocks⟩ hK hP rfl rfl (m_X4_worst l dC dI h cy fu σ  _ hF) k_X4_worst q1680 ⟨rfl, rfl⟩ ⟨Nat.le_of_ble_eq_true rfl, Nat.le_of_ble_eq_true rfl⟩ hl.1 rfl rfl (Nat.le_of_ble_eq_true rfl) dX4_fault_2 ⟨Nat.le_of_ble_eq_true rfl, Nat.le_of_ble_eq_true rfl⟩ (fun r2 hF => ?_)
  refine lv_iconst (v := (-1)) hx hb dX4_fault_5 (by decide) ?_
  have hJ14 : ∀ (t1_14 : Int32), wp_X4_fault_J14 fu σ P t1_14 → ∀ (H : Heap) (locs : List Loc), va_P (dC, dI) classes (wC h cy σ) H → va_D A (wC h cy σ) → va_S A s.heap H locs → ∀ (ls : Array Slot), lv_has ls 1 [(0, .ref (h 0))] → W p l e ({ frames := 2, cells := 0, slots := 0, locals := 43 } : Room) s m ([.ref (h 0)] : List Value).toArray below meth c H locs 0 0 (MQ below (va_Qi (fun r u => P r u) (fun (u : SX) t => va_P (dC, dI) classes (wC h cy u) t.heap ∧ kwX dC dI cy t ∧ va_D A (wC h cy u)) A) ([.ref (h 0)] : List Value).toArray s 0 0 A) (F0 m 14 ls [.int t1_14, .ref (h 0)]) := by
    intro t1_14 hF H locs hP hD hS ls hl
    unfold wp_X4_fault_J14 at hF
    have hFc := va_free (wc := wC h cy σ) hD hS hA [0, 1, 2, 3, 4, 5, 6, 7, 8, 9] rfl
    refine cwVi (q0 := 0) (As := [.int t1_14]) (rest := []) ⟨hx, hb, hr, hml, hown, hts, hlocks⟩ hK hP hD rfl rfl hS hFc (m_X4_fails l dC dI h cy _ σ t1_14 _ hF) k_X4_fails q1102 ⟨rfl, rfl⟩ ⟨Nat.le_of_ble_eq_true rfl, Nat.le_of_ble_eq_true rfl⟩ hl.1 rfl rfl (Nat.le_of_ble_eq_true rfl) dX4_fault_14 ⟨Nat.le_of_ble_eq_true rfl, Nat.le_of_ble_eq_true rfl⟩ (fun r14 u H1 locs hF hP1 hD1 hk1 hS => ?_)
    obtain ⟨s14, rfl⟩ : ∃ z, z = u := ⟨_, rfl⟩
    have hP := hP1
    have hD := hD1.weaken (fun _ q _ h => hFc q.1 h)
    generalize H1 = H at hP hS ⊢
    have hP : va_P (dC, dI) classes (wC h cy s14) H := hP
    have hD : va_D A (wC h cy s14) := hD
    refine lv_if_eq (tgt := 24) hx hb dX4_fault_17 (by decide) (fun cz => ?_) (fun cz => ?_)
    · have hF := hF.1 cz
      refine lv_aload_n hx hb dX4_fault_24 rfl (lv_at hl 0 rfl) ?_
      refine lv_aload_n hx hb dX4_fault_25 rfl (lv_at hl 0 rfl) ?_
      refine cpVi (q0 := 0) (As := []) (rest := [.ref (h 0)]) ⟨hx, hb, hr, hml, hown, hts, hlocks⟩ hK hP rfl rfl (m_X4_worst l dC dI h cy fu s14  _ hF) k_X4_worst q1680 ⟨rfl, rfl⟩ ⟨Nat.le_of_ble_eq_true rfl, Nat.le_of_ble_eq_true rfl⟩ hl.1 rfl rfl (Nat.le_of_ble_eq_true rfl) dX4_fault_26 ⟨Nat.le_of_ble_eq_true rfl, Nat.le_of_ble_eq_true rfl⟩ (fun r26 hF => ?_)
      refine cpVi (q0 := 0) (As := [.int r26]) (rest := []) ⟨hx, hb, hr, hml, hown, hts, hlocks⟩ hK hP rfl rfl (m_X4_codeOf l dC dI h cy s14 r26 _ hF) k_X4_codeOf q1332 ⟨rfl, rfl⟩ ⟨Nat.le_of_ble_eq_true rfl, Nat.le_of_ble_eq_true rfl⟩ hl.1 rfl rfl (Nat.le_of_ble_eq_true rfl) dX4_fault_29 ⟨Nat.le_of_ble_eq_true rfl, Nat.le_of_ble_eq_true rfl⟩ (fun r29 hF => ?_)
      exact W.iret (v := r29) hx hb hr (fun t ht hW => ⟨⟨r29, s14, rfl, hF, by rw [ht]; exact hP, hK.warm hW, hD⟩, hS.F ht⟩) hS.2.2 dX4_fault_32
    · have hF := hF.2 cz
      refine lv_iconst (v := 0) hx hb dX4_fault_20 (by decide) ?_
      refine lv_goto (tgt := 32) hx hb dX4_fault_21 (by decide) ?_
      exact W.iret (v := 0) hx hb hr (fun t ht hW => ⟨⟨0, s14, rfl, hF, by rw [ht]; exact hP, hK.warm hW, hD⟩, hS.F ht⟩) hS.2.2 dX4_fault_32
  refine lv_icmp_ne (tgt := 13) hx hb dX4_fault_6 (by decide) (fun cz => ?_) (fun cz => ?_)
  · have hF := hF.1 cz
    refine lv_iconst (v := 0) hx hb dX4_fault_13 (by decide) ?_
    exact hJ14 0 hF _ _ hP hD hS _ (lv_sub hl [0] rfl)
  · have hF := hF.2 cz
    refine lv_iconst (v := 1) hx hb dX4_fault_9 (by decide) ?_
    refine lv_goto (tgt := 14) hx hb dX4_fault_10 (by decide) ?_
    exact hJ14 1 hF _ _ hP hD hS _ (lv_sub hl [0] rfl)
theorem dX4_fewest_0 : decode cX4_fewest 0 = .ok (.aload_n 0, 1) := by decide +kernel
theorem dX4_fewest_1 : decode cX4_fewest 1 = .ok (.iconst 0, 1) := by decide +kernel
theorem dX4_fewest_2 : decode cX4_fewest 2 = .ok (.putfield 60, 3) := by decide +kernel
theorem dX4_fewest_5 : decode cX4_fewest 5 = .ok (.aload_n 0, 1) := by decide +kernel
theorem dX4_fewest_6 : decode cX4_fewest 6 = .ok (.invokevirtual 222, 3) := by decide +kernel
theorem dX4_fewest_9 : decode cX4_fewest 9 = .ok (.pop, 1) := by decide +kernel
theorem dX4_fewest_10 : decode cX4_fewest 10 = .ok (.bipush 13, 2) := by decide +kernel
theorem dX4_fewest_12 : decode cX4_fewest 12 = .ok (.istore_n 1, 1) := by decide +kernel
theorem dX4_fewest_13 : decode cX4_fewest 13 = .ok (.iconst 0, 1) := by decide +kernel
theorem dX4_fewest_14 : decode cX4_fewest 14 = .ok (.istore_n 2, 1) := by decide +kernel
theorem dX4_fewest_15 : decode cX4_fewest 15 = .ok (.iload_n 2, 1) := by decide +kernel
theorem dX4_fewest_16 : decode cX4_fewest 16 = .ok (.iconst 1, 1) := by decide +kernel
theorem dX4_fewest_17 : decode cX4_fewest 17 = .ok (.aload_n 0, 1) := by decide +kernel
theorem dX4_fewest_18 : decode cX4_fewest 18 = .ok (.getfield 64, 3) := by decide +kernel
theorem dX4_fewest_21 : decode cX4_fewest 21 = .ok (.ishl, 1) := by decide +kernel
theorem dX4_fewest_22 : decode cX4_fewest 22 = .ok (.if_icmp .ge 31, 3) := by decide +kernel
theorem dX4_fewest_25 : decode cX4_fewest 25 = .ok (.aload_n 0, 1) := by decide +kernel
theorem dX4_fewest_26 : decode cX4_fewest 26 = .ok (.getfield 45, 3) := by decide +kernel
theorem dX4_fewest_29 : decode cX4_fewest 29 = .ok (.iload_n 2, 1) := by decide +kernel
theorem dX4_fewest_30 : decode cX4_fewest 30 = .ok (.baload, 1) := by decide +kernel
theorem dX4_fewest_31 : decode cX4_fewest 31 = .ok (.ifCond .eq 14, 3) := by decide +kernel
theorem dX4_fewest_34 : decode cX4_fewest 34 = .ok (.iload_n 1, 1) := by decide +kernel
theorem dX4_fewest_35 : decode cX4_fewest 35 = .ok (.iload_n 2, 1) := by decide +kernel
theorem dX4_fewest_36 : decode cX4_fewest 36 = .ok (.invokestatic 179, 3) := by decide +kernel
theorem dX4_fewest_39 : decode cX4_fewest 39 = .ok (.invokestatic 154, 3) := by decide +kernel
theorem dX4_fewest_42 : decode cX4_fewest 42 = .ok (.goto 4, 3) := by decide +kernel
theorem dX4_fewest_45 : decode cX4_fewest 45 = .ok (.iload_n 1, 1) := by decide +kernel
theorem dX4_fewest_46 : decode cX4_fewest 46 = .ok (.istore_n 1, 1) := by decide +kernel
theorem dX4_fewest_47 : decode cX4_fewest 47 = .ok (.iinc 2 1, 3) := by decide +kernel
theorem dX4_fewest_50 : decode cX4_fewest 50 = .ok (.goto (-35), 3) := by decide +kernel
theorem dX4_fewest_53 : decode cX4_fewest 53 = .ok (.iload_n 1, 1) := by decide +kernel
theorem dX4_fewest_54 : decode cX4_fewest 54 = .ok (.ireturn, 1) := by decide +kernel
def wp_X4_fewest_J46 (rec15 : Int32 → Int32 → Prop) (v2_15 : Int32) (t0_46 : Int32) : Prop := (rec15 (v2_15 + 1) t0_46)
def wp_X4_fewest_B15 (s6 : SX) (K15 : Int32 → Prop) (rec15 : Int32 → Int32 → Prop) (v2_15 : Int32) (v1_15 : Int32) : Prop := ((((1 : Int32) <<< ((s6.1 0) &&& 31)) ≤ v2_15 → (K15 v1_15)) ∧ (¬ ((1 : Int32) <<< ((s6.1 0) &&& 31)) ≤ v2_15 → (vp_in v2_15 8192 ∧ ((((s6.2.1 6) v2_15.toNatClampNeg) = 0 → (wp_X4_fewest_J46 rec15 v2_15 v1_15)) ∧ (¬ ((s6.2.1 6) v2_15.toNatClampNeg) = 0 → (wp_J6_bitCount_0f7a4 v2_15 (fun r36 => (wp_X4_fewest_J46 rec15 v2_15 (jmin v1_15 r36)))))))))
def wp_X4_fewest_L15 (s6 : SX) (K15 : Int32 → Prop) : Nat → Int32 → Int32 → Prop
  | 0, _, _ => False
  | nn + 1, v2_15, v1_15 => wp_X4_fewest_B15 s6 K15 (wp_X4_fewest_L15 s6 K15 nn) v2_15 v1_15
def wp_X4_fewest (fu : Nat) (σ : SX) (P : Int32 → SX → Prop) : Prop := (wp_X4_reaches fu (sI σ 5 0)  (fun r6 s6 => (wp_X4_fewest_L15 s6 (fun (v1_53 : Int32) => (P v1_53 s6)) fu 0 13)))
theorem k_X4_fewest : KV RX4 yX4_fewest cX4_fewest 3 (some .int) 0 := ⟨q1649, q1650, q5, q1651, by decide +kernel⟩
set_option maxHeartbeats 4000000 in
set_option maxRecDepth 100000 in
theorem m_X4_fewest (l : Launch) (dC : Nat → ClassId) (dI : Nat → Nat → Nat) (h : Nat → Nat) (cy : Nat → ClassId) (sz : Nat) (fu : Nat) (σ : SX) (P : Int32 → SX → Prop) (hF : wp_X4_fewest fu σ P) : Met l yX4_fewest (ws_ yX4_fewest cX4_fewest 3 (some .int)) ({ frames := 3, cells := 0, slots := 0, locals := 70 } : Room) (va_Pc [.ref (h 0)] (fun U => U.heap.size = sz ∧ va_P (dC, dI) classes (wC h cy σ) U.heap ∧ kwX dC dI cy U ∧ va_D (fun _ => True) (wC h cy σ))) (va_Qi (fun r u => P r u) (fun (u : SX) t => va_P (dC, dI) classes (wC h cy u) t.heap ∧ kwX dC dI cy t ∧ va_D (va_A (wC h cy σ) sz) (wC h cy u)) (va_A (wC h cy σ) sz)) 0 0 (va_A (wC h cy σ) sz) := by
  refine Met.ofCx (own := RX4) (by decide) rfl (Nat.le_of_ble_eq_true rfl) ?_
  intro p e s m below meth c hC hv ls hl
  obtain ⟨hx, hb, hr, hml, hown, hts, hlocks⟩ := hC
  have hl : lv_has ls 3 [(0, .ref (h 0))] := hl
  obtain ⟨hsz, hP, hK, hD0⟩ := hv
  subst hsz
  have hD := hD0.self (sz := s.heap.size)
  generalize hAe : va_A (wC h cy σ) s.heap.size = A at hD ⊢
  have hA : ∀ q : Nat, s.heap.size ≤ q → A q := fun q h => by rw [← hAe]; exact Or.inr h
  have hS : va_S A s.heap s.heap [] := va_S.rf
  clear hAe
  unfold wp_X4_fewest at hF
  refine lv_aload_n hx hb dX4_fewest_0 rfl (lv_at hl 0 rfl) ?_
  refine lv_iconst (v := 0) hx hb dX4_fewest_1 (by decide) ?_
  refine va_put (D := (dC, dI)) (ci := 4) (v := .int 0) (ty := .int) (C := RX4) (T := TX4) (N := 19) hx hb hts in_X4 tyX4 tyX4_ok nmX4 hown hK.1 hP hD hS 0 rfl rfl 18 (by decide) (hts _ q968) (fun _ h9 => h9) rfl (by decide +kernel) rfl rfl (Nat.le_of_ble_eq_true rfl) dX4_fewest_2 (fun H locs hP hD hS => ?_)
  have hP : va_P (dC, dI) classes (wC h cy (sI σ 5 0)) H := hP
  have hD : va_D A (wC h cy (sI σ 5 0)) := hD
  refine lv_aload_n hx hb dX4_fewest_5 rfl (lv_at hl 0 rfl) ?_
  have hFc := va_free (wc := wC h cy (sI σ 5 0)) hD hS hA [0, 1, 2, 3, 4, 5, 6, 7, 8, 9] rfl
  refine cwVi (q0 := 0) (As := []) (rest := []) ⟨hx, hb, hr, hml, hown, hts, hlocks⟩ hK hP hD rfl rfl hS hFc (m_X4_reaches l dC dI h cy _ fu (sI σ 5 0)  _ hF) k_X4_reaches q1434 ⟨rfl, rfl⟩ ⟨Nat.le_of_ble_eq_true rfl, Nat.le_of_ble_eq_true rfl⟩ hl.1 rfl rfl (Nat.le_of_ble_eq_true rfl) dX4_fewest_6 ⟨Nat.le_of_ble_eq_true rfl, Nat.le_of_ble_eq_true rfl⟩ (fun r6 u H1 locs hF hP1 hD1 hk1 hS => ?_)
  obtain ⟨s6, rfl⟩ : ∃ z, z = u := ⟨_, rfl⟩
  have hP := hP1
  have hD := hD1.weaken (fun _ q _ h => hFc q.1 h)
  generalize H1 = H at hP hS ⊢
  have hP : va_P (dC, dI) classes (wC h cy s6) H := hP
  have hD : va_D A (wC h cy s6) := hD
  refine lv_pop hx hb dX4_fewest_9 rfl ?_
  refine lv_bipush (v := 13) hx hb dX4_fewest_10 (by decide) ?_
  refine lv_istore_n (lv' := [(1, .int 13), (0, .ref (h 0))]) hx hb dX4_fewest_12 rfl hl (by decide) rfl (fun ls hl => ?_)
  refine lv_iconst (v := 0) hx hb dX4_fewest_13 (by decide) ?_
  refine lv_istore_n (lv' := [(2, .int 0), (1, .int 13), (0, .ref (h 0))]) hx hb dX4_fewest_14 rfl hl (by decide) rfl (fun ls hl => ?_)
  have hX15 : ∀ (v1_53 : Int32), (fun (v1_53 : Int32) => (P v1_53 s6)) v1_53 → ∀ (H : Heap) (locs : List Loc), va_P (dC, dI) classes (wC h cy s6) H → va_D A (wC h cy s6) → va_S A s.heap H locs → ∀ (ls : Array Slot), lv_has ls 3 [(1, .int v1_53)] → W p l e ({ frames := 3, cells := 0, slots := 0, locals := 70 } : Room) s m ([.ref (h 0)] : List Value).toArray below meth c H locs 0 0 (MQ below (va_Qi (fun r u => P r u) (fun (u : SX) t => va_P (dC, dI) classes (wC h cy u) t.heap ∧ kwX dC dI cy t ∧ va_D A (wC h cy u)) A) ([.ref (h 0)] : List Value).toArray s 0 0 A) (F0 m 53 ls []) := by
    intro v1_53 hF H locs hP hD hS ls hl
    refine lv_iload_n hx hb dX4_fewest_53 rfl (lv_at hl 0 rfl) ?_
    exact W.iret (v := v1_53) hx hb hr (fun t ht hW => ⟨⟨v1_53, s6, rfl, hF, by rw [ht]; exact hP, hK.warm hW, hD⟩, hS.F ht⟩) hS.2.2 dX4_fewest_54
  have hL15 : ∀ (K15 : Int32 → Prop), (∀ (v1_53 : Int32), K15 v1_53 → ∀ (H : Heap) (locs : List Loc), va_P (dC, dI) classes (wC h cy s6) H → va_D A (wC h cy s6) → va_S A s.heap H locs → ∀ (ls : Array Slot), lv_has ls 3 [(1, .int v1_53)] → W p l e ({ frames := 3, cells := 0, slots := 0, locals := 70 } : Room) s m ([.ref (h 0)] : List Value).toArray below meth c H locs 0 0 (MQ below (va_Qi (fun r u => P r u) (fun (u : SX) t => va_P (dC, dI) classes (wC h cy u) t.heap ∧ kwX dC dI cy t ∧ va_D A (wC h cy u)) A) ([.ref (h 0)] : List Value).toArray s 0 0 A) (F0 m 53 ls [])) → ∀ (nn : Nat), ∀ (v2_15 : Int32), ∀ (v1_15 : Int32), wp_X4_fewest_L15 s6 K15 nn v2_15 v1_15 → ∀ (H : Heap) (locs : List Loc), va_P (dC, dI) classes (wC h cy s6) H → va_D A (wC h cy s6) → va_S A s.heap H locs → ∀ (ls : Array Slot), lv_has ls 3 [(2, .int v2_15), (1, .int v1_15), (0, .ref (h 0))] → W p l e ({ frames := 3, cells := 0, slots := 0, locals := 70 } : Room) s m ([.ref (h 0)] : List Value).toArray below meth c H locs 0 0 (MQ below (va_Qi (fun r u => P r u) (fun (u : SX) t => va_P (dC, dI) classes (wC h cy u) t.heap ∧ kwX dC dI cy t ∧ va_D A (wC h cy u)) A) ([.ref (h 0)] : List Value).toArray s 0 0 A) (F0 m 15 ls []) := by
    intro K15 hX15 nn
    induction nn with
    | zero =>
      intro v2_15 v1_15 hF
      exact hF.elim
    | succ nn ih =>
      intro v2_15 v1_15 hF H locs hP hD hS ls hl
      obtain ⟨rec15, hrec⟩ : ∃ z : Int32 → Int32 → Prop, z = wp_X4_fewest_L15 s6 K15 nn := ⟨_, rfl⟩
      have hF : wp_X4_fewest_B15 s6 K15 rec15 v2_15 v1_15 := by rw [hrec]; exact hF
      rw [← hrec] at ih
      clear hrec
      unfold wp_X4_fewest_B15 at hF
      refine lv_iload_n hx hb dX4_fewest_15 rfl (lv_at hl 0 rfl) ?_
      refine lv_iconst (v := 1) hx hb dX4_fewest_16 (by decide) ?_
      refine lv_aload_n hx hb dX4_fewest_17 rfl (lv_at hl 2 rfl) ?_
      refine va_get (D := (dC, dI)) (ci := 4) (v := .int (s6.1 0)) (C := RX4) (T := TX4) (N := 19) hx hb hts in_X4 hown hK.1 hP 0 rfl rfl 13 (by decide) (hts _ q963) (fun _ h9 => h9) rfl dX4_fewest_18 ?_
      refine lv_ishl hx hb dX4_fewest_21 ?_
      refine lv_icmp_ge (tgt := 53) hx hb dX4_fewest_22 (by decide) (fun cz => ?_) (fun cz => ?_)
      · have hF := hF.1 cz
        exact hX15 v1_15 hF _ _ hP hD hS _ (lv_sub hl [1] rfl)
      · have hF := hF.2 cz
        refine lv_aload_n hx hb dX4_fewest_25 rfl (lv_at hl 2 rfl) ?_
        refine va_get (D := (dC, dI)) (ci := 4) (v := .ref (h 8)) (C := RX4) (T := TX4) (N := 19) hx hb hts in_X4 hown hK.1 hP 0 rfl rfl 10 (by decide) (hts _ q960) (fun _ h9 => h9) rfl dX4_fewest_26 ?_
        refine lv_iload_n hx hb dX4_fewest_29 rfl (lv_at hl 0 rfl) ?_
        have hI := hF.1
        have hF := hF.2
        refine va_zald hx hb hK.1 hP 8 2 rfl rfl hI dX4_fewest_30 ?_
        have hJ46 : ∀ (t0_46 : Int32), wp_X4_fewest_J46 rec15 v2_15 t0_46 → ∀ (H : Heap) (locs : List Loc), va_P (dC, dI) classes (wC h cy s6) H → va_D A (wC h cy s6) → va_S A s.heap H locs → ∀ (ls : Array Slot), lv_has ls 3 [(2, .int v2_15), (0, .ref (h 0))] → W p l e ({ frames := 3, cells := 0, slots := 0, locals := 70 } : Room) s m ([.ref (h 0)] : List Value).toArray below meth c H locs 0 0 (MQ below (va_Qi (fun r u => P r u) (fun (u : SX) t => va_P (dC, dI) classes (wC h cy u) t.heap ∧ kwX dC dI cy t ∧ va_D A (wC h cy u)) A) ([.ref (h 0)] : List Value).toArray s 0 0 A) (F0 m 46 ls [.int t0_46]) := by
          intro t0_46 hF H locs hP hD hS ls hl
          unfold wp_X4_fewest_J46 at hF
          refine lv_istore_n (lv' := [(1, .int t0_46), (2, .int v2_15), (0, .ref (h 0))]) hx hb dX4_fewest_46 rfl hl (by decide) rfl (fun ls hl => ?_)
          refine lv_iinc (v := v2_15 + 1) (lv' := [(2, .int (v2_15 + 1)), (1, .int t0_46), (0, .ref (h 0))]) hx hb dX4_fewest_47 hl (k := 1) rfl (by rfl) (by decide) rfl (fun ls hl => ?_)
          refine lv_goto (tgt := 15) hx hb dX4_fewest_50 (by decide) ?_
          exact ih (v2_15 + 1) t0_46 hF _ _ hP hD hS _ (lv_sub hl [0, 1, 2] rfl)
        refine lv_if_eq (tgt := 45) hx hb dX4_fewest_31 (by decide) (fun cz => ?_) (fun cz => ?_)
        · have hF := hF.1 cz
          refine lv_iload_n hx hb dX4_fewest_45 rfl (lv_at hl 1 rfl) ?_
          exact hJ46 v1_15 hF _ _ hP hD hS _ (lv_sub hl [0, 2] rfl)
        · have hF := hF.2 cz
          refine lv_iload_n hx hb dX4_fewest_34 rfl (lv_at hl 1 rfl) ?_
          refine lv_iload_n hx hb dX4_fewest_35 rfl (lv_at hl 0 rfl) ?_
          refine cpSi (As := [.int v2_15]) (rest := [.int v1_15]) ⟨hx, hb, hr, hml, hown, hts, hlocks⟩ (m_J6_bitCount_0f7a4 l v2_15 _ hF) k_J6_bitCount_0f7a4 q1319 ⟨rfl, rfl⟩ ⟨Nat.le_of_ble_eq_true rfl, Nat.le_of_ble_eq_true rfl⟩ hl.1 rfl rfl (Nat.le_of_ble_eq_true rfl) dX4_fewest_36 ⟨Nat.le_of_ble_eq_true rfl, Nat.le_of_ble_eq_true rfl⟩ (fun r36 hF => ?_)
          refine va_mmin hx hb (by rw [hml]; exact hl.1.symm) hown (hts _ q1197) (hts _ q261) (hts _ q13) (hts _ q262) (Nat.le_of_ble_eq_true rfl) (Nat.le_of_ble_eq_true rfl) (Nat.le_of_ble_eq_true rfl) (Nat.le_of_ble_eq_true rfl) dX4_fewest_39 ?_
          refine lv_goto (tgt := 46) hx hb dX4_fewest_42 (by decide) ?_
          exact hJ46 (jmin v1_15 r36) hF _ _ hP hD hS _ (lv_sub hl [0, 2] rfl)
  exact hL15 _ hX15 fu 0 13 hF _ _ hP hD hS _ (lv_sub hl [0, 1, 2] rfl)
theorem dX4_fits_0 : decode cX4_fits 0 = .ok (.iconst 1, 1) := by decide +kernel
theorem dX4_fits_1 : decode cX4_fits 1 = .ok (.istore_n 2, 1) := by decide +kernel
theorem dX4_fits_2 : decode cX4_fits 2 = .ok (.iconst 0, 1) := by decide +kernel
theorem dX4_fits_3 : decode cX4_fits 3 = .ok (.istore_n 3, 1) := by decide +kernel
theorem dX4_fits_4 : decode cX4_fits 4 = .ok (.iload_n 3, 1) := by decide +kernel
theorem dX4_fits_5 : decode cX4_fits 5 = .ok (.aload_n 0, 1) := by decide +kernel
theorem dX4_fits_6 : decode cX4_fits 6 = .ok (.getfield 71, 3) := by decide +kernel
theorem dX4_fits_9 : decode cX4_fits 9 = .ok (.if_icmp .ge 106, 3) := by decide +kernel
theorem dX4_fits_12 : decode cX4_fits 12 = .ok (.iload_n 2, 1) := by decide +kernel
theorem dX4_fits_13 : decode cX4_fits 13 = .ok (.aload_n 0, 1) := by decide +kernel
theorem dX4_fits_14 : decode cX4_fits 14 = .ok (.aload_n 0, 1) := by decide +kernel
theorem dX4_fits_15 : decode cX4_fits 15 = .ok (.getfield 19, 3) := by decide +kernel
theorem dX4_fits_18 : decode cX4_fits 18 = .ok (.iload_n 3, 1) := by decide +kernel
theorem dX4_fits_19 : decode cX4_fits 19 = .ok (.iaload, 1) := by decide +kernel
theorem dX4_fits_20 : decode cX4_fits 20 = .ok (.iload_n 1, 1) := by decide +kernel
theorem dX4_fits_21 : decode cX4_fits 21 = .ok (.invokevirtual 237, 3) := by decide +kernel
theorem dX4_fits_24 : decode cX4_fits 24 = .ok (.aload_n 0, 1) := by decide +kernel
theorem dX4_fits_25 : decode cX4_fits 25 = .ok (.aload_n 0, 1) := by decide +kernel
theorem dX4_fits_26 : decode cX4_fits 26 = .ok (.getfield 22, 3) := by decide +kernel
theorem dX4_fits_29 : decode cX4_fits 29 = .ok (.iload_n 3, 1) := by decide +kernel
theorem dX4_fits_30 : decode cX4_fits 30 = .ok (.iaload, 1) := by decide +kernel
theorem dX4_fits_31 : decode cX4_fits 31 = .ok (.iload_n 1, 1) := by decide +kernel
theorem dX4_fits_32 : decode cX4_fits 32 = .ok (.invokevirtual 237, 3) := by decide +kernel
theorem dX4_fits_35 : decode cX4_fits 35 = .ok (.iadd, 1) := by decide +kernel
theorem dX4_fits_36 : decode cX4_fits 36 = .ok (.aload_n 0, 1) := by decide +kernel
theorem dX4_fits_37 : decode cX4_fits 37 = .ok (.aload_n 0, 1) := by decide +kernel
theorem dX4_fits_38 : decode cX4_fits 38 = .ok (.getfield 25, 3) := by decide +kernel
theorem dX4_fits_41 : decode cX4_fits 41 = .ok (.iload_n 3, 1) := by decide +kernel
theorem dX4_fits_42 : decode cX4_fits 42 = .ok (.iaload, 1) := by decide +kernel
theorem dX4_fits_43 : decode cX4_fits 43 = .ok (.iload_n 1, 1) := by decide +kernel
theorem dX4_fits_44 : decode cX4_fits 44 = .ok (.invokevirtual 237, 3) := by decide +kernel
theorem dX4_fits_47 : decode cX4_fits 47 = .ok (.iadd, 1) := by decide +kernel
theorem dX4_fits_48 : decode cX4_fits 48 = .ok (.iconst 3, 1) := by decide +kernel
theorem dX4_fits_49 : decode cX4_fits 49 = .ok (.if_icmp .ne 57, 3) := by decide +kernel
theorem dX4_fits_52 : decode cX4_fits 52 = .ok (.aload_n 0, 1) := by decide +kernel
theorem dX4_fits_53 : decode cX4_fits 53 = .ok (.aload_n 0, 1) := by decide +kernel
theorem dX4_fits_54 : decode cX4_fits 54 = .ok (.getfield 19, 3) := by decide +kernel
theorem dX4_fits_57 : decode cX4_fits 57 = .ok (.iload_n 3, 1) := by decide +kernel
theorem dX4_fits_58 : decode cX4_fits 58 = .ok (.iaload, 1) := by decide +kernel
theorem dX4_fits_59 : decode cX4_fits 59 = .ok (.iload_n 1, 1) := by decide +kernel
theorem dX4_fits_60 : decode cX4_fits 60 = .ok (.invokevirtual 237, 3) := by decide +kernel
theorem dX4_fits_63 : decode cX4_fits 63 = .ok (.aload_n 0, 1) := by decide +kernel
theorem dX4_fits_64 : decode cX4_fits 64 = .ok (.aload_n 0, 1) := by decide +kernel
theorem dX4_fits_65 : decode cX4_fits 65 = .ok (.getfield 25, 3) := by decide +kernel
theorem dX4_fits_68 : decode cX4_fits 68 = .ok (.iload_n 3, 1) := by decide +kernel
theorem dX4_fits_69 : decode cX4_fits 69 = .ok (.iaload, 1) := by decide +kernel
theorem dX4_fits_70 : decode cX4_fits 70 = .ok (.iload_n 1, 1) := by decide +kernel
theorem dX4_fits_71 : decode cX4_fits 71 = .ok (.invokevirtual 237, 3) := by decide +kernel
theorem dX4_fits_74 : decode cX4_fits 74 = .ok (.if_icmp .eq 32, 3) := by decide +kernel
theorem dX4_fits_77 : decode cX4_fits 77 = .ok (.aload_n 0, 1) := by decide +kernel
theorem dX4_fits_78 : decode cX4_fits 78 = .ok (.aload_n 0, 1) := by decide +kernel
theorem dX4_fits_79 : decode cX4_fits 79 = .ok (.getfield 22, 3) := by decide +kernel
theorem dX4_fits_82 : decode cX4_fits 82 = .ok (.iload_n 3, 1) := by decide +kernel
theorem dX4_fits_83 : decode cX4_fits 83 = .ok (.iaload, 1) := by decide +kernel
theorem dX4_fits_84 : decode cX4_fits 84 = .ok (.iload_n 1, 1) := by decide +kernel
theorem dX4_fits_85 : decode cX4_fits 85 = .ok (.invokevirtual 237, 3) := by decide +kernel
theorem dX4_fits_88 : decode cX4_fits 88 = .ok (.aload_n 0, 1) := by decide +kernel
theorem dX4_fits_89 : decode cX4_fits 89 = .ok (.aload_n 0, 1) := by decide +kernel
theorem dX4_fits_90 : decode cX4_fits 90 = .ok (.getfield 25, 3) := by decide +kernel
theorem dX4_fits_93 : decode cX4_fits 93 = .ok (.iload_n 3, 1) := by decide +kernel
theorem dX4_fits_94 : decode cX4_fits 94 = .ok (.iaload, 1) := by decide +kernel
theorem dX4_fits_95 : decode cX4_fits 95 = .ok (.iload_n 1, 1) := by decide +kernel
theorem dX4_fits_96 : decode cX4_fits 96 = .ok (.invokevirtual 237, 3) := by decide +kernel
theorem dX4_fits_99 : decode cX4_fits 99 = .ok (.if_icmp .eq 7, 3) := by decide +kernel
theorem dX4_fits_102 : decode cX4_fits 102 = .ok (.iconst 1, 1) := by decide +kernel
theorem dX4_fits_103 : decode cX4_fits 103 = .ok (.goto 4, 3) := by decide +kernel
theorem dX4_fits_106 : decode cX4_fits 106 = .ok (.iconst 0, 1) := by decide +kernel
theorem dX4_fits_107 : decode cX4_fits 107 = .ok (.iand, 1) := by decide +kernel
theorem dX4_fits_108 : decode cX4_fits 108 = .ok (.istore_n 2, 1) := by decide +kernel
theorem dX4_fits_109 : decode cX4_fits 109 = .ok (.iinc 3 1, 3) := by decide +kernel
theorem dX4_fits_112 : decode cX4_fits 112 = .ok (.goto (-108), 3) := by decide +kernel
theorem dX4_fits_115 : decode cX4_fits 115 = .ok (.iload_n 2, 1) := by decide +kernel
theorem dX4_fits_116 : decode cX4_fits 116 = .ok (.ireturn, 1) := by decide +kernel
def wp_X4_fits_J107 (rec4 : Int32 → Int32 → Prop) (v3_4 : Int32) (v2_4 : Int32) (t1_107 : Int32) : Prop := (rec4 (v3_4 + 1) (v2_4 &&& t1_107))
def wp_X4_fits_J106 (rec4 : Int32 → Int32 → Prop) (v3_4 : Int32) (v2_4 : Int32) : Prop := (wp_X4_fits_J107 rec4 v3_4 v2_4 0)
def wp_X4_fits_B4 (σ : SX) (x1 : Int32) (K4 : Int32 → Prop) (rec4 : Int32 → Int32 → Prop) (v3_4 : Int32) (v2_4 : Int32) : Prop := (((σ.1 1) ≤ v3_4 → (K4 v2_4)) ∧ (¬ (σ.1 1) ≤ v3_4 → (vp_in v3_4 104 ∧ (wp_X4_colourOf σ ((σ.2.1 3) v3_4.toNatClampNeg) x1 (fun r21 => (vp_in v3_4 104 ∧ (wp_X4_colourOf σ ((σ.2.1 4) v3_4.toNatClampNeg) x1 (fun r32 => (vp_in v3_4 104 ∧ (wp_X4_colourOf σ ((σ.2.1 5) v3_4.toNatClampNeg) x1 (fun r44 => ((¬ ((r21 + r32) + r44) = 3 → wp_X4_fits_J106 rec4 v3_4 v2_4) ∧ (((r21 + r32) + r44) = 3 → (vp_in v3_4 104 ∧ (wp_X4_colourOf σ ((σ.2.1 3) v3_4.toNatClampNeg) x1 (fun r60 => (vp_in v3_4 104 ∧ (wp_X4_colourOf σ ((σ.2.1 5) v3_4.toNatClampNeg) x1 (fun r71 => ((r60 = r71 → wp_X4_fits_J106 rec4 v3_4 v2_4) ∧ (¬ r60 = r71 → (vp_in v3_4 104 ∧ (wp_X4_colourOf σ ((σ.2.1 4) v3_4.toNatClampNeg) x1 (fun r85 => (vp_in v3_4 104 ∧ (wp_X4_colourOf σ ((σ.2.1 5) v3_4.toNatClampNeg) x1 (fun r96 => ((r85 = r96 → wp_X4_fits_J106 rec4 v3_4 v2_4) ∧ (¬ r85 = r96 → (wp_X4_fits_J107 rec4 v3_4 v2_4 1))))))))))))))))))))))))))))))
def wp_X4_fits_L4 (σ : SX) (x1 : Int32) (K4 : Int32 → Prop) : Nat → Int32 → Int32 → Prop
  | 0, _, _ => False
  | nn + 1, v3_4, v2_4 => wp_X4_fits_B4 σ x1 K4 (wp_X4_fits_L4 σ x1 K4 nn) v3_4 v2_4
def wp_X4_fits (fu : Nat) (σ : SX) (x1 : Int32) (P : Int32 → Prop) : Prop := (wp_X4_fits_L4 σ x1 (fun (v2_115 : Int32) => (narrow .boolean (.int v2_115) = .int v2_115 ∧ (P v2_115))) fu 0 1)
theorem k_X4_fits : KV RX4 yX4_fits cX4_fits 4 (some .boolean) 1 := ⟨q1706, qs53, q5, q1707, by decide +kernel⟩
set_option maxHeartbeats 4000000 in
set_option maxRecDepth 100000 in
theorem m_X4_fits (l : Launch) (dC : Nat → ClassId) (dI : Nat → Nat → Nat) (h : Nat → Nat) (cy : Nat → ClassId) (fu : Nat) (σ : SX) (x1 : Int32) (P : Int32 → Prop) (hF : wp_X4_fits fu σ x1 P) : Met l yX4_fits (ws_ yX4_fits cX4_fits 4 (some .boolean)) ({ frames := 1, cells := 0, slots := 0, locals := 22 } : Room) (va_Pc [.ref (h 0), .int x1] (fun U => va_P (dC, dI) classes (wC h cy σ) U.heap ∧ kwX dC dI cy U)) (vp_Si P) 0 0 (fun _ => False) := by
  refine Met.ofCx (own := RX4) (by decide) rfl (Nat.le_of_ble_eq_true rfl) ?_
  intro p e s m below meth c hC hv ls hl
  obtain ⟨hx, hb, hr, hml, hown, hts, hlocks⟩ := hC
  have hl : lv_has ls 4 [(0, .ref (h 0)), (1, .int x1)] := hl
  obtain ⟨hP, hK⟩ := hv
  unfold wp_X4_fits at hF
  refine lv_iconst (v := 1) hx hb dX4_fits_0 (by decide) ?_
  refine lv_istore_n (lv' := [(2, .int 1), (0, .ref (h 0)), (1, .int x1)]) hx hb dX4_fits_1 rfl hl (by decide) rfl (fun ls hl => ?_)
  refine lv_iconst (v := 0) hx hb dX4_fits_2 (by decide) ?_
  refine lv_istore_n (lv' := [(3, .int 0), (2, .int 1), (0, .ref (h 0)), (1, .int x1)]) hx hb dX4_fits_3 rfl hl (by decide) rfl (fun ls hl => ?_)
  have hX4 : ∀ (v2_115 : Int32), (fun (v2_115 : Int32) => (narrow .boolean (.int v2_115) = .int v2_115 ∧ (P v2_115))) v2_115 → ∀ (ls : Array Slot), lv_has ls 4 [(2, .int v2_115)] → W p l e ({ frames := 1, cells := 0, slots := 0, locals := 22 } : Room) s m ([.ref (h 0), .int x1] : List Value).toArray below meth c s.heap [] 0 0 (MQ below (vp_Si P) ([.ref (h 0), .int x1] : List Value).toArray s 0 0 (fun _ => False)) (F0 m 115 ls []) := by
    intro v2_115 hF ls hl
    refine lv_iload_n hx hb dX4_fits_115 rfl (lv_at hl 0 rfl) ?_
    exact W.zret (v := v2_115) hx hb hr hF.1 (fun t ht hW => ⟨v2_115, rfl, hF.2, ht⟩) (fun q hq => absurd hq List.not_mem_nil) dX4_fits_116
  have hL4 : ∀ (K4 : Int32 → Prop), (∀ (v2_115 : Int32), K4 v2_115 → ∀ (ls : Array Slot), lv_has ls 4 [(2, .int v2_115)] → W p l e ({ frames := 1, cells := 0, slots := 0, locals := 22 } : Room) s m ([.ref (h 0), .int x1] : List Value).toArray below meth c s.heap [] 0 0 (MQ below (vp_Si P) ([.ref (h 0), .int x1] : List Value).toArray s 0 0 (fun _ => False)) (F0 m 115 ls [])) → ∀ (nn : Nat), ∀ (v3_4 : Int32), ∀ (v2_4 : Int32), wp_X4_fits_L4 σ x1 K4 nn v3_4 v2_4 → ∀ (ls : Array Slot), lv_has ls 4 [(3, .int v3_4), (2, .int v2_4), (0, .ref (h 0)), (1, .int x1)] → W p l e ({ frames := 1, cells := 0, slots := 0, locals := 22 } : Room) s m ([.ref (h 0), .int x1] : List Value).toArray below meth c s.heap [] 0 0 (MQ below (vp_Si P) ([.ref (h 0), .int x1] : List Value).toArray s 0 0 (fun _ => False)) (F0 m 4 ls []) := by
    intro K4 hX4 nn
    induction nn with
    | zero =>
      intro v3_4 v2_4 hF
      exact hF.elim
    | succ nn ih =>
      intro v3_4 v2_4 hF ls hl
      obtain ⟨rec4, hrec⟩ : ∃ z : Int32 → Int32 → Prop, z = wp_X4_fits_L4 σ x1 K4 nn := ⟨_, rfl⟩
      have hF : wp_X4_fits_B4 σ x1 K4 rec4 v3_4 v2_4 := by rw [hrec]; exact hF
      rw [← hrec] at ih
      clear hrec
      unfold wp_X4_fits_B4 at hF
      refine lv_iload_n hx hb dX4_fits_4 rfl (lv_at hl 0 rfl) ?_
      refine lv_aload_n hx hb dX4_fits_5 rfl (lv_at hl 2 rfl) ?_
      refine va_get (D := (dC, dI)) (ci := 4) (v := .int (σ.1 1)) (C := RX4) (T := TX4) (N := 19) hx hb hts in_X4 hown hK.1 hP 0 rfl rfl 14 (by decide) (hts _ q964) (fun _ h9 => h9) rfl dX4_fits_6 ?_
      refine lv_icmp_ge (tgt := 115) hx hb dX4_fits_9 (by decide) (fun cz => ?_) (fun cz => ?_)
      · have hF := hF.1 cz
        exact hX4 v2_4 hF _ (lv_sub hl [1] rfl)
      · have hF := hF.2 cz
        refine lv_iload_n hx hb dX4_fits_12 rfl (lv_at hl 1 rfl) ?_
        refine lv_aload_n hx hb dX4_fits_13 rfl (lv_at hl 2 rfl) ?_
        refine lv_aload_n hx hb dX4_fits_14 rfl (lv_at hl 2 rfl) ?_
        refine va_get (D := (dC, dI)) (ci := 4) (v := .ref (h 4)) (C := RX4) (T := TX4) (N := 19) hx hb hts in_X4 hown hK.1 hP 0 rfl rfl 3 (by decide) (hts _ q953) (fun _ h9 => h9) rfl dX4_fits_15 ?_
        refine lv_iload_n hx hb dX4_fits_18 rfl (lv_at hl 0 rfl) ?_
        have hI := hF.1
        have hF := hF.2
        refine va_iald hx hb hK.1 hP 4 0 rfl rfl hI dX4_fits_19 ?_
        refine lv_iload_n hx hb dX4_fits_20 rfl (lv_at hl 3 rfl) ?_
        refine cpVi (q0 := 0) (As := [.int ((σ.2.1 3) v3_4.toNatClampNeg), .int x1]) (rest := [.int v2_4]) ⟨hx, hb, hr, hml, hown, hts, hlocks⟩ hK hP rfl rfl (m_X4_colourOf l dC dI h cy σ ((σ.2.1 3) v3_4.toNatClampNeg) x1 _ hF) k_X4_colourOf q1696 ⟨rfl, rfl⟩ ⟨Nat.le_of_ble_eq_true rfl, Nat.le_of_ble_eq_true rfl⟩ hl.1 rfl rfl (Nat.le_of_ble_eq_true rfl) dX4_fits_21 ⟨Nat.le_of_ble_eq_true rfl, Nat.le_of_ble_eq_true rfl⟩ (fun r21 hF => ?_)
        refine lv_aload_n hx hb dX4_fits_24 rfl (lv_at hl 2 rfl) ?_
        refine lv_aload_n hx hb dX4_fits_25 rfl (lv_at hl 2 rfl) ?_
        refine va_get (D := (dC, dI)) (ci := 4) (v := .ref (h 5)) (C := RX4) (T := TX4) (N := 19) hx hb hts in_X4 hown hK.1 hP 0 rfl rfl 4 (by decide) (hts _ q954) (fun _ h9 => h9) rfl dX4_fits_26 ?_
        refine lv_iload_n hx hb dX4_fits_29 rfl (lv_at hl 0 rfl) ?_
        have hI := hF.1
        have hF := hF.2
        refine va_iald hx hb hK.1 hP 5 0 rfl rfl hI dX4_fits_30 ?_
        refine lv_iload_n hx hb dX4_fits_31 rfl (lv_at hl 3 rfl) ?_
        refine cpVi (q0 := 0) (As := [.int ((σ.2.1 4) v3_4.toNatClampNeg), .int x1]) (rest := [.int r21, .int v2_4]) ⟨hx, hb, hr, hml, hown, hts, hlocks⟩ hK hP rfl rfl (m_X4_colourOf l dC dI h cy σ ((σ.2.1 4) v3_4.toNatClampNeg) x1 _ hF) k_X4_colourOf q1696 ⟨rfl, rfl⟩ ⟨Nat.le_of_ble_eq_true rfl, Nat.le_of_ble_eq_true rfl⟩ hl.1 rfl rfl (Nat.le_of_ble_eq_true rfl) dX4_fits_32 ⟨Nat.le_of_ble_eq_true rfl, Nat.le_of_ble_eq_true rfl⟩ (fun r32 hF => ?_)
        refine lv_iadd hx hb dX4_fits_35 ?_
        refine lv_aload_n hx hb dX4_fits_36 rfl (lv_at hl 2 rfl) ?_
        refine lv_aload_n hx hb dX4_fits_37 rfl (lv_at hl 2 rfl) ?_
        refine va_get (D := (dC, dI)) (ci := 4) (v := .ref (h 6)) (C := RX4) (T := TX4) (N := 19) hx hb hts in_X4 hown hK.1 hP 0 rfl rfl 5 (by decide) (hts _ q955) (fun _ h9 => h9) rfl dX4_fits_38 ?_
        refine lv_iload_n hx hb dX4_fits_41 rfl (lv_at hl 0 rfl) ?_
        have hI := hF.1
        have hF := hF.2
        refine va_iald hx hb hK.1 hP 6 0 rfl rfl hI dX4_fits_42 ?_
        refine lv_iload_n hx hb dX4_fits_43 rfl (lv_at hl 3 rfl) ?_
        refine cpVi (q0 := 0) (As := [.int ((σ.2.1 5) v3_4.toNatClampNeg), .int x1]) (rest := [.int (r21 + r32), .int v2_4]) ⟨hx, hb, hr, hml, hown, hts, hlocks⟩ hK hP rfl rfl (m_X4_colourOf l dC dI h cy σ ((σ.2.1 5) v3_4.toNatClampNeg) x1 _ hF) k_X4_colourOf q1696 ⟨rfl, rfl⟩ ⟨Nat.le_of_ble_eq_true rfl, Nat.le_of_ble_eq_true rfl⟩ hl.1 rfl rfl (Nat.le_of_ble_eq_true rfl) dX4_fits_44 ⟨Nat.le_of_ble_eq_true rfl, Nat.le_of_ble_eq_true rfl⟩ (fun r44 hF => ?_)
        refine lv_iadd hx hb dX4_fits_47 ?_
        refine lv_iconst (v := 3) hx hb dX4_fits_48 (by decide) ?_
        have hJ107 : ∀ (t1_107 : Int32), wp_X4_fits_J107 rec4 v3_4 v2_4 t1_107 → ∀ (ls : Array Slot), lv_has ls 4 [(3, .int v3_4), (0, .ref (h 0)), (1, .int x1)] → W p l e ({ frames := 1, cells := 0, slots := 0, locals := 22 } : Room) s m ([.ref (h 0), .int x1] : List Value).toArray below meth c s.heap [] 0 0 (MQ below (vp_Si P) ([.ref (h 0), .int x1] : List Value).toArray s 0 0 (fun _ => False)) (F0 m 107 ls [.int t1_107, .int v2_4]) := by
          intro t1_107 hF ls hl
          unfold wp_X4_fits_J107 at hF
          refine lv_iand hx hb dX4_fits_107 ?_
          refine lv_istore_n (lv' := [(2, .int (v2_4 &&& t1_107)), (3, .int v3_4), (0, .ref (h 0)), (1, .int x1)]) hx hb dX4_fits_108 rfl hl (by decide) rfl (fun ls hl => ?_)
          refine lv_iinc (v := v3_4 + 1) (lv' := [(3, .int (v3_4 + 1)), (2, .int (v2_4 &&& t1_107)), (0, .ref (h 0)), (1, .int x1)]) hx hb dX4_fits_109 hl (k := 1) rfl (by rfl) (by decide) rfl (fun ls hl => ?_)
          refine lv_goto (tgt := 4) hx hb dX4_fits_112 (by decide) ?_
          exact ih (v3_4 + 1) (v2_4 &&& t1_107) hF _ (lv_sub hl [0, 1, 2, 3] rfl)
        have hJ106 : wp_X4_fits_J106 rec4 v3_4 v2_4 → ∀ (ls : Array Slot), lv_has ls 4 [(3, .int v3_4), (0, .ref (h 0)), (1, .int x1)] → W p l e ({ frames := 1, cells := 0, slots := 0, locals := 22 } : Room) s m ([.ref (h 0), .int x1] : List Value).toArray below meth c s.heap [] 0 0 (MQ below (vp_Si P) ([.ref (h 0), .int x1] : List Value).toArray s 0 0 (fun _ => False)) (F0 m 106 ls [.int v2_4]) := by
          intro hF ls hl
          unfold wp_X4_fits_J106 at hF
          refine lv_iconst (v := 0) hx hb dX4_fits_106 (by decide) ?_
          exact hJ107 0 hF _ (lv_sub hl [0, 1, 2] rfl)
        refine lv_icmp_ne (tgt := 106) hx hb dX4_fits_49 (by decide) (fun cz => ?_) (fun cz => ?_)
        · have hF := hF.1 cz
          exact hJ106 hF _ (lv_sub hl [0, 2, 3] rfl)
        · have hF := hF.2 cz
          refine lv_aload_n hx hb dX4_fits_52 rfl (lv_at hl 2 rfl) ?_
          refine lv_aload_n hx hb dX4_fits_53 rfl (lv_at hl 2 rfl) ?_
          refine va_get (D := (dC, dI)) (ci := 4) (v := .ref (h 4)) (C := RX4) (T := TX4) (N := 19) hx hb hts in_X4 hown hK.1 hP 0 rfl rfl 3 (by decide) (hts _ q953) (fun _ h9 => h9) rfl dX4_fits_54 ?_
          refine lv_iload_n hx hb dX4_fits_57 rfl (lv_at hl 0 rfl) ?_
          have hI := hF.1
          have hF := hF.2
          refine va_iald hx hb hK.1 hP 4 0 rfl rfl hI dX4_fits_58 ?_
          refine lv_iload_n hx hb dX4_fits_59 rfl (lv_at hl 3 rfl) ?_
          refine cpVi (q0 := 0) (As := [.int ((σ.2.1 3) v3_4.toNatClampNeg), .int x1]) (rest := [.int v2_4]) ⟨hx, hb, hr, hml, hown, hts, hlocks⟩ hK hP rfl rfl (m_X4_colourOf l dC dI h cy σ ((σ.2.1 3) v3_4.toNatClampNeg) x1 _ hF) k_X4_colourOf q1696 ⟨rfl, rfl⟩ ⟨Nat.le_of_ble_eq_true rfl, Nat.le_of_ble_eq_true rfl⟩ hl.1 rfl rfl (Nat.le_of_ble_eq_true rfl) dX4_fits_60 ⟨Nat.le_of_ble_eq_true rfl, Nat.le_of_ble_eq_true rfl⟩ (fun r60 hF => ?_)
          refine lv_aload_n hx hb dX4_fits_63 rfl (lv_at hl 2 rfl) ?_
          refine lv_aload_n hx hb dX4_fits_64 rfl (lv_at hl 2 rfl) ?_
          refine va_get (D := (dC, dI)) (ci := 4) (v := .ref (h 6)) (C := RX4) (T := TX4) (N := 19) hx hb hts in_X4 hown hK.1 hP 0 rfl rfl 5 (by decide) (hts _ q955) (fun _ h9 => h9) rfl dX4_fits_65 ?_
          refine lv_iload_n hx hb dX4_fits_68 rfl (lv_at hl 0 rfl) ?_
          have hI := hF.1
          have hF := hF.2
          refine va_iald hx hb hK.1 hP 6 0 rfl rfl hI dX4_fits_69 ?_
          refine lv_iload_n hx hb dX4_fits_70 rfl (lv_at hl 3 rfl) ?_
          refine cpVi (q0 := 0) (As := [.int ((σ.2.1 5) v3_4.toNatClampNeg), .int x1]) (rest := [.int r60, .int v2_4]) ⟨hx, hb, hr, hml, hown, hts, hlocks⟩ hK hP rfl rfl (m_X4_colourOf l dC dI h cy σ ((σ.2.1 5) v3_4.toNatClampNeg) x1 _ hF) k_X4_colourOf q1696 ⟨rfl, rfl⟩ ⟨Nat.le_of_ble_eq_true rfl, Nat.le_of_ble_eq_true rfl⟩ hl.1 rfl rfl (Nat.le_of_ble_eq_true rfl) dX4_fits_71 ⟨Nat.le_of_ble_eq_true rfl, Nat.le_of_ble_eq_true rfl⟩ (fun r71 hF => ?_)
          refine lv_icmp_eq (tgt := 106) hx hb dX4_fits_74 (by decide) (fun cz => ?_) (fun cz => ?_)
          · have hF := hF.1 cz
            exact hJ106 hF _ (lv_sub hl [0, 2, 3] rfl)
          · have hF := hF.2 cz
            refine lv_aload_n hx hb dX4_fits_77 rfl (lv_at hl 2 rfl) ?_
            refine lv_aload_n hx hb dX4_fits_78 rfl (lv_at hl 2 rfl) ?_
            refine va_get (D := (dC, dI)) (ci := 4) (v := .ref (h 5)) (C := RX4) (T := TX4) (N := 19) hx hb hts in_X4 hown hK.1 hP 0 rfl rfl 4 (by decide) (hts _ q954) (fun _ h9 => h9) rfl dX4_fits_79 ?_
            refine lv_iload_n hx hb dX4_fits_82 rfl (lv_at hl 0 rfl) ?_
            have hI := hF.1
            have hF := hF.2
            refine va_iald hx hb hK.1 hP 5 0 rfl rfl hI dX4_fits_83 ?_
            refine lv_iload_n hx hb dX4_fits_84 rfl (lv_at hl 3 rfl) ?_
            refine cpVi (q0 := 0) (As := [.int ((σ.2.1 4) v3_4.toNatClampNeg), .int x1]) (rest := [.int v2_4]) ⟨hx, hb, hr, hml, hown, hts, hlocks⟩ hK hP rfl rfl (m_X4_colourOf l dC dI h cy σ ((σ.2.1 4) v3_4.toNatClampNeg) x1 _ hF) k_X4_colourOf q1696 ⟨rfl, rfl⟩ ⟨Nat.le_of_ble_eq_true rfl, Nat.le_of_ble_eq_true rfl⟩ hl.1 rfl rfl (Nat.le_of_ble_eq_true rfl) dX4_fits_85 ⟨Nat.le_of_ble_eq_true rfl, Nat.le_of_ble_eq_true rfl⟩ (fun r85 hF => ?_)
            refine lv_aload_n hx hb dX4_fits_88 rfl (lv_at hl 2 rfl) ?_
            refine lv_aload_n hx hb dX4_fits_89 rfl (lv_at hl 2 rfl) ?_
            refine va_get (D := (dC, dI)) (ci := 4) (v := .ref (h 6)) (C := RX4) (T := TX4) (N := 19) hx hb hts in_X4 hown hK.1 hP 0 rfl rfl 5 (by decide) (hts _ q955) (fun _ h9 => h9) rfl dX4_fits_90 ?_
            refine lv_iload_n hx hb dX4_fits_93 rfl (lv_at hl 0 rfl) ?_
            have hI := hF.1
            have hF := hF.2
            refine va_iald hx hb hK.1 hP 6 0 rfl rfl hI dX4_fits_94 ?_
            refine lv_iload_n hx hb dX4_fits_95 rfl (lv_at hl 3 rfl) ?_
            refine cpVi (q0 := 0) (As := [.int ((σ.2.1 5) v3_4.toNatClampNeg), .int x1]) (rest := [.int r85, .int v2_4]) ⟨hx, hb, hr, hml, hown, hts, hlocks⟩ hK hP rfl rfl (m_X4_colourOf l dC dI h cy σ ((σ.2.1 5) v3_4.toNatClampNeg) x1 _ hF) k_X4_colourOf q1696 ⟨rfl, rfl⟩ ⟨Nat.le_of_ble_eq_true rfl, Nat.le_of_ble_eq_true rfl⟩ hl.1 rfl rfl (Nat.le_of_ble_eq_true rfl) dX4_fits_96 ⟨Nat.le_of_ble_eq_true rfl, Nat.le_of_ble_eq_true rfl⟩ (fun r96 hF => ?_)
            refine lv_icmp_eq (tgt := 106) hx hb dX4_fits_99 (by decide) (fun cz => ?_) (fun cz => ?_)
            · have hF := hF.1 cz
              exact hJ106 hF _ (lv_sub hl [0, 2, 3] rfl)
            · have hF := hF.2 cz
              refine lv_iconst (v := 1) hx hb dX4_fits_102 (by decide) ?_
              refine lv_goto (tgt := 107) hx hb dX4_fits_103 (by decide) ?_
              exact hJ107 1 hF _ (lv_sub hl [0, 2, 3] rfl)
  exact hL4 _ hX4 fu 0 1 hF _ (lv_sub hl [0, 1, 2, 3] rfl)
theorem dX4_highest_0 : decode cX4_highest 0 = .ok (.aload_n 0, 1) := by decide +kernel
theorem dX4_highest_1 : decode cX4_highest 1 = .ok (.aload_n 0, 1) := by decide +kernel
theorem dX4_highest_2 : decode cX4_highest 2 = .ok (.getfield 120, 3) := by decide +kernel
theorem dX4_highest_5 : decode cX4_highest 5 = .ok (.ifCond .ne 7, 3) := by decide +kernel
theorem dX4_highest_8 : decode cX4_highest 8 = .ok (.iconst 1, 1) := by decide +kernel
theorem dX4_highest_9 : decode cX4_highest 9 = .ok (.goto 4, 3) := by decide +kernel
theorem dX4_highest_12 : decode cX4_highest 12 = .ok (.iconst 0, 1) := by decide +kernel
theorem dX4_highest_13 : decode cX4_highest 13 = .ok (.invokevirtual 100, 3) := by decide +kernel
theorem dX4_highest_16 : decode cX4_highest 16 = .ok (.ifCond .eq 5, 3) := by decide +kernel
theorem dX4_highest_19 : decode cX4_highest 19 = .ok (.iconst 0, 1) := by decide +kernel
theorem dX4_highest_20 : decode cX4_highest 20 = .ok (.ireturn, 1) := by decide +kernel
theorem dX4_highest_21 : decode cX4_highest 21 = .ok (.aload_n 0, 1) := by decide +kernel
theorem dX4_highest_22 : decode cX4_highest 22 = .ok (.invokevirtual 222, 3) := by decide +kernel
theorem dX4_highest_25 : decode cX4_highest 25 = .ok (.pop, 1) := by decide +kernel
theorem dX4_highest_26 : decode cX4_highest 26 = .ok (.iconst 0, 1) := by decide +kernel
theorem dX4_highest_27 : decode cX4_highest 27 = .ok (.istore_n 1, 1) := by decide +kernel
theorem dX4_highest_28 : decode cX4_highest 28 = .ok (.iconst 0, 1) := by decide +kernel
theorem dX4_highest_29 : decode cX4_highest 29 = .ok (.istore_n 2, 1) := by decide +kernel
theorem dX4_highest_30 : decode cX4_highest 30 = .ok (.iload_n 2, 1) := by decide +kernel
theorem dX4_highest_31 : decode cX4_highest 31 = .ok (.iconst 1, 1) := by decide +kernel
theorem dX4_highest_32 : decode cX4_highest 32 = .ok (.aload_n 0, 1) := by decide +kernel
theorem dX4_highest_33 : decode cX4_highest 33 = .ok (.getfield 64, 3) := by decide +kernel
theorem dX4_highest_36 : decode cX4_highest 36 = .ok (.ishl, 1) := by decide +kernel
theorem dX4_highest_37 : decode cX4_highest 37 = .ok (.if_icmp .ge 26, 3) := by decide +kernel
theorem dX4_highest_40 : decode cX4_highest 40 = .ok (.iload_n 1, 1) := by decide +kernel
theorem dX4_highest_41 : decode cX4_highest 41 = .ok (.aload_n 0, 1) := by decide +kernel
theorem dX4_highest_42 : decode cX4_highest 42 = .ok (.getfield 45, 3) := by decide +kernel
theorem dX4_highest_45 : decode cX4_highest 45 = .ok (.iload_n 2, 1) := by decide +kernel
theorem dX4_highest_46 : decode cX4_highest 46 = .ok (.baload, 1) := by decide +kernel
theorem dX4_highest_47 : decode cX4_highest 47 = .ok (.ifCond .eq 7, 3) := by decide +kernel
theorem dX4_highest_50 : decode cX4_highest 50 = .ok (.iload_n 2, 1) := by decide +kernel
theorem dX4_highest_51 : decode cX4_highest 51 = .ok (.goto 4, 3) := by decide +kernel
theorem dX4_highest_54 : decode cX4_highest 54 = .ok (.iconst 0, 1) := by decide +kernel
theorem dX4_highest_55 : decode cX4_highest 55 = .ok (.ior, 1) := by decide +kernel
theorem dX4_highest_56 : decode cX4_highest 56 = .ok (.istore_n 1, 1) := by decide +kernel
theorem dX4_highest_57 : decode cX4_highest 57 = .ok (.iinc 2 1, 3) := by decide +kernel
theorem dX4_highest_60 : decode cX4_highest 60 = .ok (.goto (-30), 3) := by decide +kernel
theorem dX4_highest_63 : decode cX4_highest 63 = .ok (.iconst 5, 1) := by decide +kernel
theorem dX4_highest_64 : decode cX4_highest 64 = .ok (.istore_n 2, 1) := by decide +kernel
theorem dX4_highest_65 : decode cX4_highest 65 = .ok (.iconst 0, 1) := by decide +kernel
theorem dX4_highest_66 : decode cX4_highest 66 = .ok (.istore_n 3, 1) := by decide +kernel
theorem dX4_highest_67 : decode cX4_highest 67 = .ok (.iload_n 3, 1) := by decide +kernel
theorem dX4_highest_68 : decode cX4_highest 68 = .ok (.aload_n 0, 1) := by decide +kernel
theorem dX4_highest_69 : decode cX4_highest 69 = .ok (.getfield 64, 3) := by decide +kernel
theorem dX4_highest_72 : decode cX4_highest 72 = .ok (.if_icmp .ge 34, 3) := by decide +kernel
theorem dX4_highest_75 : decode cX4_highest 75 = .ok (.iload_n 1, 1) := by decide +kernel
theorem dX4_highest_76 : decode cX4_highest 76 = .ok (.iload_n 3, 1) := by decide +kernel
theorem dX4_highest_77 : decode cX4_highest 77 = .ok (.invokestatic 150, 3) := by decide +kernel
theorem dX4_highest_80 : decode cX4_highest 80 = .ok (.ifCond .eq 18, 3) := by decide +kernel
theorem dX4_highest_83 : decode cX4_highest 83 = .ok (.iload_n 2, 1) := by decide +kernel
theorem dX4_highest_84 : decode cX4_highest 84 = .ok (.aload_n 0, 1) := by decide +kernel
theorem dX4_highest_85 : decode cX4_highest 85 = .ok (.getfield 13, 3) := by decide +kernel
theorem dX4_highest_88 : decode cX4_highest 88 = .ok (.iload_n 3, 1) := by decide +kernel
theorem dX4_highest_89 : decode cX4_highest 89 = .ok (.iaload, 1) := by decide +kernel
theorem dX4_highest_90 : decode cX4_highest 90 = .ok (.iconst 5, 1) := by decide +kernel
theorem dX4_highest_91 : decode cX4_highest 91 = .ok (.idiv, 1) := by decide +kernel
theorem dX4_highest_92 : decode cX4_highest 92 = .ok (.invokestatic 154, 3) := by decide +kernel
theorem dX4_highest_95 : decode cX4_highest 95 = .ok (.goto 4, 3) := by decide +kernel
theorem dX4_highest_98 : decode cX4_highest 98 = .ok (.iload_n 2, 1) := by decide +kernel
theorem dX4_highest_99 : decode cX4_highest 99 = .ok (.istore_n 2, 1) := by decide +kernel
theorem dX4_highest_100 : decode cX4_highest 100 = .ok (.iinc 3 1, 3) := by decide +kernel
theorem dX4_highest_103 : decode cX4_highest 103 = .ok (.goto (-36), 3) := by decide +kernel
theorem dX4_highest_106 : decode cX4_highest 106 = .ok (.iload_n 2, 1) := by decide +kernel
theorem dX4_highest_107 : decode cX4_highest 107 = .ok (.ireturn, 1) := by decide +kernel
def wp_X4_highest_J99 (rec67 : Int32 → Int32 → Prop) (v3_67 : Int32) (t0_99 : Int32) : Prop := (rec67 (v3_67 + 1) t0_99)
def wp_X4_highest_B67 (s22 : SX) (v1_63 : Int32) (K67 : Int32 → Prop) (rec67 : Int32 → Int32 → Prop) (v3_67 : Int32) (v2_67 : Int32) : Prop := (((s22.1 0) ≤ v3_67 → (K67 v2_67)) ∧ (¬ (s22.1 0) ≤ v3_67 → (wp_X4_has v1_63 v3_67 (fun r77 => ((r77 = 0 → (wp_X4_highest_J99 rec67 v3_67 v2_67)) ∧ (¬ r77 = 0 → (vp_in v3_67 13 ∧ (wp_X4_highest_J99 rec67 v3_67 (jmin v2_67 (((s22.2.1 1) v3_67.toNatClampNeg) / 5))))))))))
def wp_X4_highest_L67 (s22 : SX) (v1_63 : Int32) (K67 : Int32 → Prop) : Nat → Int32 → Int32 → Prop
  | 0, _, _ => False
  | nn + 1, v3_67, v2_67 => wp_X4_highest_B67 s22 v1_63 K67 (wp_X4_highest_L67 s22 v1_63 K67 nn) v3_67 v2_67
def wp_X4_highest_J55 (rec30 : Int32 → Int32 → Prop) (v2_30 : Int32) (v1_30 : Int32) (t1_55 : Int32) : Prop := (rec30 (v2_30 + 1) (v1_30 ||| t1_55))
def wp_X4_highest_B30 (s22 : SX) (K30 : Int32 → Prop) (rec30 : Int32 → Int32 → Prop) (v2_30 : Int32) (v1_30 : Int32) : Prop := ((((1 : Int32) <<< ((s22.1 0) &&& 31)) ≤ v2_30 → (K30 v1_30)) ∧ (¬ ((1 : Int32) <<< ((s22.1 0) &&& 31)) ≤ v2_30 → (vp_in v2_30 8192 ∧ ((((s22.2.1 6) v2_30.toNatClampNeg) = 0 → (wp_X4_highest_J55 rec30 v2_30 v1_30 0)) ∧ (¬ ((s22.2.1 6) v2_30.toNatClampNeg) = 0 → (wp_X4_highest_J55 rec30 v2_30 v1_30 v2_30))))))
def wp_X4_highest_L30 (s22 : SX) (K30 : Int32 → Prop) : Nat → Int32 → Int32 → Prop
  | 0, _, _ => False
  | nn + 1, v2_30, v1_30 => wp_X4_highest_B30 s22 K30 (wp_X4_highest_L30 s22 K30 nn) v2_30 v1_30
def wp_X4_highest_J13 (fu : Nat) (σ : SX) (P : Int32 → SX → Prop) (t1_13 : Int32) : Prop := (wp_X4_fails σ t1_13 (fun r13 s13 => ((r13 = 0 → (wp_X4_reaches fu s13  (fun r22 s22 => (wp_X4_highest_L30 s22 (fun (v1_63 : Int32) => (wp_X4_highest_L67 s22 v1_63 (fun (v2_106 : Int32) => (P v2_106 s22)) fu 0 5)) fu 0 0)))) ∧ (¬ r13 = 0 → (P 0 s13)))))
def wp_X4_highest (fu : Nat) (σ : SX) (P : Int32 → SX → Prop) : Prop := ((¬ (σ.1 2) = 0 → (wp_X4_highest_J13 fu σ P 0)) ∧ ((σ.1 2) = 0 → (wp_X4_highest_J13 fu σ P 1)))
theorem k_X4_highest : KV RX4 yX4_highest cX4_highest 4 (some .int) 0 := ⟨q1661, q1662, q5, q1663, by decide +kernel⟩
set_option maxHeartbeats 4000000 in
set_option maxRecDepth 100000 in
theorem m_X4_highest (l : Launch) (dC : Nat → ClassId) (dI : Nat → Nat → Nat) (h : Nat → Nat) (cy : Nat → ClassId) (sz : Nat) (fu : Nat) (σ : SX) (P : Int32 → SX → Prop) (hF : wp_X4_highest fu σ P) : Met l yX4_highest (ws_ yX4_highest cX4_highest 4 (some .int)) ({ frames := 3, cells := 0, slots := 0, locals := 70 } : Room) (va_Pc [.ref (h 0)] (fun U => U.heap.size = sz ∧ va_P (dC, dI) classes (wC h cy σ) U.heap ∧ kwX dC dI cy U ∧ va_D (fun _ => True) (wC h cy σ))) (va_Qi (fun r u => P r u) (fun (u : SX) t => va_P (dC, dI) classes (wC h cy u) t.heap ∧ kwX dC dI cy t ∧ va_D (va_A (wC h cy σ) sz) (wC h cy u)) (va_A (wC h cy σ) sz)) 0 0 (va_A (wC h cy σ) sz) := by
  refine Met.ofCx (own := RX4) (by decide) rfl (Nat.le_of_ble_eq_true rfl) ?_
  intro p e s m below meth c hC hv ls hl
  obtain ⟨hx, hb, hr, hml, hown, hts, hlocks⟩ := hC
  have hl : lv_has ls 4 [(0, .ref (h 0))] := hl
  obtain ⟨hsz, hP, hK, hD0⟩ := hv
  subst hsz
  have hD := hD0.self (sz := s.heap.size)
  generalize hAe : va_A (wC h cy σ) s.heap.size = A at hD ⊢
  have hA : ∀ q : Nat, s.heap.size ≤ q → A q := fun q h => by rw [← hAe]; exact Or.inr h
  have hS : va_S A s.heap s.heap [] := va_S.rf
  clear hAe
  unfold wp_X4_highest at hF
  refine lv_aload_n hx hb dX4_highest_0 rfl (lv_at hl 0 rfl) ?_
  refine lv_aload_n hx hb dX4_highest_1 rfl (lv_at hl 0 rfl) ?_
  refine va_get (D := (dC, dI)) (ci := 4) (v := .int (σ.1 2)) (C := RX4) (T := TX4) (N := 19) hx hb hts in_X4 hown hK.1 hP 0 rfl rfl 15 (by decide) (hts _ q965) (fun _ h9 => h9) rfl dX4_highest_2 ?_
  have hJ13 : ∀ (t1_13 : Int32), wp_X4_highest_J13 fu σ P t1_13 → ∀ (H : Heap) (locs : List Loc), va_P (dC, dI) classes (wC h cy σ) H → va_D A (wC h cy σ) → va_S A s.heap H locs → ∀ (ls : Array Slot), lv_has ls 4 [(0, .ref (h 0))] → W p l e ({ frames := 3, cells := 0, slots := 0, locals := 70 } : Room) s m ([.ref (h 0)] : List Value).toArray below meth c H locs 0 0 (MQ below (va_Qi (fun r u => P r u) (fun (u : SX) t => va_P (dC, dI) classes (wC h cy u) t.heap ∧ kwX dC dI cy t ∧ va_D A (wC h cy u)) A) ([.ref (h 0)] : List Value).toArray s 0 0 A) (F0 m 13 ls [.int t1_13, .ref (h 0)]) := by
    intro t1_13 hF H locs hP hD hS ls hl
    unfold wp_X4_highest_J13 at hF
    have hFc := va_free (wc := wC h cy σ) hD hS hA [0, 1, 2, 3, 4, 5, 6, 7, 8, 9] rfl
    refine cwVi (q0 := 0) (As := [.int t1_13]) (rest := []) ⟨hx, hb, hr, hml, hown, hts, hlocks⟩ hK hP hD rfl rfl hS hFc (m_X4_fails l dC dI h cy _ σ t1_13 _ hF) k_X4_fails q1102 ⟨rfl, rfl⟩ ⟨Nat.le_of_ble_eq_true rfl, Nat.le_of_ble_eq_true rfl⟩ hl.1 rfl rfl (Nat.le_of_ble_eq_true rfl) dX4_highest_13 ⟨Nat.le_of_ble_eq_true rfl, Nat.le_of_ble_eq_true rfl⟩ (fun r13 u H1 locs hF hP1 hD1 hk1 hS => ?_)
    obtain ⟨s13, rfl⟩ : ∃ z, z = u := ⟨_, rfl⟩
    have hP := hP1
    have hD := hD1.weaken (fun _ q _ h => hFc q.1 h)
    generalize H1 = H at hP hS ⊢
    have hP : va_P (dC, dI) classes (wC h cy s13) H := hP
    have hD : va_D A (wC h cy s13) := hD
    refine lv_if_eq (tgt := 21) hx hb dX4_highest_16 (by decide) (fun cz => ?_) (fun cz => ?_)
    · have hF := hF.1 cz
      refine lv_aload_n hx hb dX4_highest_21 rfl (lv_at hl 0 rfl) ?_
      have hFc := va_free (wc := wC h cy s13) hD hS hA [0, 1, 2, 3, 4, 5, 6, 7, 8, 9] rfl
      refine cwVi (q0 := 0) (As := []) (rest := []) ⟨hx, hb, hr, hml, hown, hts, hlocks⟩ hK hP hD rfl rfl hS hFc (m_X4_reaches l dC dI h cy _ fu s13  _ hF) k_X4_reaches q1434 ⟨rfl, rfl⟩ ⟨Nat.le_of_ble_eq_true rfl, Nat.le_of_ble_eq_true rfl⟩ hl.1 rfl rfl (Nat.le_of_ble_eq_true rfl) dX4_highest_22 ⟨Nat.le_of_ble_eq_true rfl, Nat.le_of_ble_eq_true rfl⟩ (fun r22 u H1 locs hF hP1 hD1 hk1 hS => ?_)
      obtain ⟨s22, rfl⟩ : ∃ z, z = u := ⟨_, rfl⟩
      have hP := hP1
      have hD := hD1.weaken (fun _ q _ h => hFc q.1 h)
      generalize H1 = H at hP hS ⊢
      have hP : va_P (dC, dI) classes (wC h cy s22) H := hP
      have hD : va_D A (wC h cy s22) := hD
      refine lv_pop hx hb dX4_highest_25 rfl ?_
      refine lv_iconst (v := 0) hx hb dX4_highest_26 (by decide) ?_
      refine lv_istore_n (lv' := [(1, .int 0), (0, .ref (h 0))]) hx hb dX4_highest_27 rfl hl (by decide) rfl (fun ls hl => ?_)
      refine lv_iconst (v := 0) hx hb dX4_highest_28 (by decide) ?_
      refine lv_istore_n (lv' := [(2, .int 0), (1, .int 0), (0, .ref (h 0))]) hx hb dX4_highest_29 rfl hl (by decide) rfl (fun ls hl => ?_)
      have hX30 : ∀ (v1_63 : Int32), (fun (v1_63 : Int32) => (wp_X4_highest_L67 s22 v1_63 (fun (v2_106 : Int32) => (P v2_106 s22)) fu 0 5)) v1_63 → ∀ (H : Heap) (locs : List Loc), va_P (dC, dI) classes (wC h cy s22) H → va_D A (wC h cy s22) → va_S A s.heap H locs → ∀ (ls : Array Slot), lv_has ls 4 [(1, .int v1_63), (0, .ref (h 0))] → W p l e ({ frames := 3, cells := 0, slots := 0, locals := 70 } : Room) s m ([.ref (h 0)] : List Value).toArray below meth c H locs 0 0 (MQ below (va_Qi (fun r u => P r u) (fun (u : SX) t => va_P (dC, dI) classes (wC h cy u) t.heap ∧ kwX dC dI cy t ∧ va_D A (wC h cy u)) A) ([.ref (h 0)] : List Value).toArray s 0 0 A) (F0 m 63 ls []) := by
        intro v1_63 hF H locs hP hD hS ls hl
        refine lv_iconst (v := 5) hx hb dX4_highest_63 (by decide) ?_
        refine lv_istore_n (lv' := [(2, .int 5), (1, .int v1_63), (0, .ref (h 0))]) hx hb dX4_highest_64 rfl hl (by decide) rfl (fun ls hl => ?_)
        refine lv_iconst (v := 0) hx hb dX4_highest_65 (by decide) ?_
        refine lv_istore_n (lv' := [(3, .int 0), (2, .int 5), (1, .int v1_63), (0, .ref (h 0))]) hx hb dX4_highest_66 rfl hl (by decide) rfl (fun ls hl => ?_)
        have hX67 : ∀ (v2_106 : Int32), (fun (v2_106 : Int32) => (P v2_106 s22)) v2_106 → ∀ (H : Heap) (locs : List Loc), va_P (dC, dI) classes (wC h cy s22) H → va_D A (wC h cy s22) → va_S A s.heap H locs → ∀ (ls : Array Slot), lv_has ls 4 [(2, .int v2_106)] → W p l e ({ frames := 3, cells := 0, slots := 0, locals := 70 } : Room) s m ([.ref (h 0)] : List Value).toArray below meth c H locs 0 0 (MQ below (va_Qi (fun r u => P r u) (fun (u : SX) t => va_P (dC, dI) classes (wC h cy u) t.heap ∧ kwX dC dI cy t ∧ va_D A (wC h cy u)) A) ([.ref (h 0)] : List Value).toArray s 0 0 A) (F0 m 106 ls []) := by
          intro v2_106 hF H locs hP hD hS ls hl
          refine lv_iload_n hx hb dX4_highest_106 rfl (lv_at hl 0 rfl) ?_
          exact W.iret (v := v2_106) hx hb hr (fun t ht hW => ⟨⟨v2_106, s22, rfl, hF, by rw [ht]; exact hP, hK.warm hW, hD⟩, hS.F ht⟩) hS.2.2 dX4_highest_107
        have hL67 : ∀ (K67 : Int32 → Prop), (∀ (v2_106 : Int32), K67 v2_106 → ∀ (H : Heap) (locs : List Loc), va_P (dC, dI) classes (wC h cy s22) H → va_D A (wC h cy s22) → va_S A s.heap H locs → ∀ (ls : Array Slot), lv_has ls 4 [(2, .int v2_106)] → W p l e ({ frames := 3, cells := 0, slots := 0, locals := 70 } : Room) s m ([.ref (h 0)] : List Value).toArray below meth c H locs 0 0 (MQ below (va_Qi (fun r u => P r u) (fun (u : SX) t => va_P (dC, dI) classes (wC h cy u) t.heap ∧ kwX dC dI cy t ∧ va_D A (wC h cy u)) A) ([.ref (h 0)] : List Value).toArray s 0 0 A) (F0 m 106 ls [])) → ∀ (nn : Nat), ∀ (v3_67 : Int32), ∀ (v2_67 : Int32), wp_X4_highest_L67 s22 v1_63 K67 nn v3_67 v2_67 → ∀ (H : Heap) (locs : List Loc), va_P (dC, dI) classes (wC h cy s22) H → va_D A (wC h cy s22) → va_S A s.heap H locs → ∀ (ls : Array Slot), lv_has ls 4 [(3, .int v3_67), (2, .int v2_67), (1, .int v1_63), (0, .ref (h 0))] → W p l e ({ frames := 3, cells := 0, slots := 0, locals := 70 } : Room) s m ([.ref (h 0)] : List Value).toArray below meth c H locs 0 0 (MQ below (va_Qi (fun r u => P r u) (fun (u : SX) t => va_P (dC, dI) classes (wC h cy u) t.heap ∧ kwX dC dI cy t ∧ va_D A (wC h cy u)) A) ([.ref (h 0)] : List Value).toArray s 0 0 A) (F0 m 67 ls []) := by
          intro K67 hX67 nn
          induction nn with
          | zero =>
            intro v3_67 v2_67 hF
            exact hF.elim
          | succ nn ih =>
            intro v3_67 v2_67 hF H locs hP hD hS ls hl
            obtain ⟨rec67, hrec⟩ : ∃ z : Int32 → Int32 → Prop, z = wp_X4_highest_L67 s22 v1_63 K67 nn := ⟨_, rfl⟩
            have hF : wp_X4_highest_B67 s22 v1_63 K67 rec67 v3_67 v2_67 := by rw [hrec]; exact hF
            rw [← hrec] at ih
            clear hrec
            unfold wp_X4_highest_B67 at hF
            refine lv_iload_n hx hb dX4_highest_67 rfl (lv_at hl 0 rfl) ?_
            refine lv_aload_n hx hb dX4_highest_68 rfl (lv_at hl 3 rfl) ?_
            refine va_get (D := (dC, dI)) (ci := 4) (v := .int (s22.1 0)) (C := RX4) (T := TX4) (N := 19) hx hb hts in_X4 hown hK.1 hP 0 rfl rfl 13 (by decide) (hts _ q963) (fun _ h9 => h9) rfl dX4_highest_69 ?_
            refine lv_icmp_ge (tgt := 106) hx hb dX4_highest_72 (by decide) (fun cz => ?_) (fun cz => ?_)
            · have hF := hF.1 cz
              exact hX67 v2_67 hF _ _ hP hD hS _ (lv_sub hl [1] rfl)
            · have hF := hF.2 cz
              refine lv_iload_n hx hb dX4_highest_75 rfl (lv_at hl 2 rfl) ?_
              refine lv_iload_n hx hb dX4_highest_76 rfl (lv_at hl 0 rfl) ?_
              refine cpSi (As := [.int v1_63, .int v3_67]) (rest := []) ⟨hx, hb, hr, hml, hown, hts, hlocks⟩ (m_X4_has l v1_63 v3_67 _ hF) k_X4_has q1194 ⟨rfl, rfl⟩ ⟨Nat.le_of_ble_eq_true rfl, Nat.le_of_ble_eq_true rfl⟩ hl.1 rfl rfl (Nat.le_of_ble_eq_true rfl) dX4_highest_77 ⟨Nat.le_of_ble_eq_true rfl, Nat.le_of_ble_eq_true rfl⟩ (fun r77 hF => ?_)
              have hJ99 : ∀ (t0_99 : Int32), wp_X4_highest_J99 rec67 v3_67 t0_99 → ∀ (H : Heap) (locs : List Loc), va_P (dC, dI) classes (wC h cy s22) H → va_D A (wC h cy s22) → va_S A s.heap H locs → ∀ (ls : Array Slot), lv_has ls 4 [(3, .int v3_67), (1, .int v1_63), (0, .ref (h 0))] → W p l e ({ frames := 3, cells := 0, slots := 0, locals := 70 } : Room) s m ([.ref (h 0)] : List Value).toArray below meth c H locs 0 0 (MQ below (va_Qi (fun r u => P r u) (fun (u : SX) t => va_P (dC, dI) classes (wC h cy u) t.heap ∧ kwX dC dI cy t ∧ va_D A (wC h cy u)) A) ([.ref (h 0)] : List Value).toArray s 0 0 A) (F0 m 99 ls [.int t0_99]) := by
                intro t0_99 hF H locs hP hD hS ls hl
                unfold wp_X4_highest_J99 at hF
                refine lv_istore_n (lv' := [(2, .int t0_99), (3, .int v3_67), (1, .int v1_63), (0, .ref (h 0))]) hx hb dX4_highest_99 rfl hl (by decide) rfl (fun ls hl => ?_)
                refine lv_iinc (v := v3_67 + 1) (lv' := [(3, .int (v3_67 + 1)), (2, .int t0_99), (1, .int v1_63), (0, .ref (h 0))]) hx hb dX4_highest_100 hl (k := 1) rfl (by rfl) (by decide) rfl (fun ls hl => ?_)
                refine lv_goto (tgt := 67) hx hb dX4_highest_103 (by decide) ?_
                exact ih (v3_67 + 1) t0_99 hF _ _ hP hD hS _ (lv_sub hl [0, 1, 2, 3] rfl)
              refine lv_if_eq (tgt := 98) hx hb dX4_highest_80 (by decide) (fun cz => ?_) (fun cz => ?_)
              · have hF := hF.1 cz
                refine lv_iload_n hx hb dX4_highest_98 rfl (lv_at hl 1 rfl) ?_
                exact hJ99 v2_67 hF _ _ hP hD hS _ (lv_sub hl [0, 2, 3] rfl)
              · have hF := hF.2 cz
                refine lv_iload_n hx hb dX4_highest_83 rfl (lv_at hl 1 rfl) ?_
                refine lv_aload_n hx hb dX4_highest_84 rfl (lv_at hl 3 rfl) ?_
                refine va_get (D := (dC, dI)) (ci := 4) (v := .ref (h 2)) (C := RX4) (T := TX4) (N := 19) hx hb hts in_X4 hown hK.1 hP 0 rfl rfl 1 (by decide) (hts _ q951) (fun _ h9 => h9) rfl dX4_highest_85 ?_
                refine lv_iload_n hx hb dX4_highest_88 rfl (lv_at hl 0 rfl) ?_
                have hI := hF.1
                have hF := hF.2
                refine va_iald hx hb hK.1 hP 2 0 rfl rfl hI dX4_highest_89 ?_
                refine lv_iconst (v := 5) hx hb dX4_highest_90 (by decide) ?_
                refine lv_idiv hx hb dX4_highest_91 (by decide) ?_
                refine va_mmin hx hb (by rw [hml]; exact hl.1.symm) hown (hts _ q1197) (hts _ q261) (hts _ q13) (hts _ q262) (Nat.le_of_ble_eq_true rfl) (Nat.le_of_ble_eq_true rfl) (Nat.le_of_ble_eq_true rfl) (Nat.le_of_ble_eq_true rfl) dX4_highest_92 ?_
                refine lv_goto (tgt := 99) hx hb dX4_highest_95 (by decide) ?_
                exact hJ99 (jmin v2_67 (((s22.2.1 1) v3_67.toNatClampNeg) / 5)) hF _ _ hP hD hS _ (lv_sub hl [0, 2, 3] rfl)
        exact hL67 _ hX67 fu 0 5 hF _ _ hP hD hS _ (lv_sub hl [0, 1, 2, 3] rfl)
      have hL30 : ∀ (K30 : Int32 → Prop), (∀ (v1_63 : Int32), K30 v1_63 → ∀ (H : Heap) (locs : List Loc), va_P (dC, dI) classes (wC h cy s22) H → va_D A (wC h cy s22) → va_S A s.heap H locs → ∀ (ls : Array Slot), lv_has ls 4 [(1, .int v1_63), (0, .ref (h 0))] → W p l e ({ frames := 3, cells := 0, slots := 0, locals := 70 } : Room) s m ([.ref (h 0)] : List Value).toArray below meth c H locs 0 0 (MQ below (va_Qi (fun r u => P r u) (fun (u : SX) t => va_P (dC, dI) classes (wC h cy u) t.heap ∧ kwX dC dI cy t ∧ va_D A (wC h cy u)) A) ([.ref (h 0)] : List Value).toArray s 0 0 A) (F0 m 63 ls [])) → ∀ (nn : Nat), ∀ (v2_30 : Int32), ∀ (v1_30 : Int32), wp_X4_highest_L30 s22 K30 nn v2_30 v1_30 → ∀ (H : Heap) (locs : List Loc), va_P (dC, dI) classes (wC h cy s22) H → va_D A (wC h cy s22) → va_S A s.heap H locs → ∀ (ls : Array Slot), lv_has ls 4 [(2, .int v2_30), (1, .int v1_30), (0, .ref (h 0))] → W p l e ({ frames := 3, cells := 0, slots := 0, locals := 70 } : Room) s m ([.ref (h 0)] : List Value).toArray below meth c H locs 0 0 (MQ below (va_Qi (fun r u => P r u) (fun (u : SX) t => va_P (dC, dI) classes (wC h cy u) t.heap ∧ kwX dC dI cy t ∧ va_D A (wC h cy u)) A) ([.ref (h 0)] : List Value).toArray s 0 0 A) (F0 m 30 ls []) := by
        intro K30 hX30 nn
        induction nn with
        | zero =>
          intro v2_30 v1_30 hF
          exact hF.elim
        | succ nn ih =>
          intro v2_30 v1_30 hF H locs hP hD hS ls hl
          obtain ⟨rec30, hrec⟩ : ∃ z : Int32 → Int32 → Prop, z = wp_X4_highest_L30 s22 K30 nn := ⟨_, rfl⟩
          have hF : wp_X4_highest_B30 s22 K30 rec30 v2_30 v1_30 := by rw [hrec]; exact hF
          rw [← hrec] at ih
          clear hrec
          unfold wp_X4_highest_B30 at hF
          refine lv_iload_n hx hb dX4_highest_30 rfl (lv_at hl 0 rfl) ?_
          refine lv_iconst (v := 1) hx hb dX4_highest_31 (by decide) ?_
          refine lv_aload_n hx hb dX4_highest_32 rfl (lv_at hl 2 rfl) ?_
          refine va_get (D := (dC, dI)) (ci := 4) (v := .int (s22.1 0)) (C := RX4) (T := TX4) (N := 19) hx hb hts in_X4 hown hK.1 hP 0 rfl rfl 13 (by decide) (hts _ q963) (fun _ h9 => h9) rfl dX4_highest_33 ?_
          refine lv_ishl hx hb dX4_highest_36 ?_
          refine lv_icmp_ge (tgt := 63) hx hb dX4_highest_37 (by decide) (fun cz => ?_) (fun cz => ?_)
          · have hF := hF.1 cz
            exact hX30 v1_30 hF _ _ hP hD hS _ (lv_sub hl [1, 2] rfl)
          · have hF := hF.2 cz
            refine lv_iload_n hx hb dX4_highest_40 rfl (lv_at hl 1 rfl) ?_
            refine lv_aload_n hx hb dX4_highest_41 rfl (lv_at hl 2 rfl) ?_
            refine va_get (D := (dC, dI)) (ci := 4) (v := .ref (h 8)) (C := RX4) (T := TX4) (N := 19) hx hb hts in_X4 hown hK.1 hP 0 rfl rfl 10 (by decide) (hts _ q960) (fun _ h9 => h9) rfl dX4_highest_42 ?_
            refine lv_iload_n hx hb dX4_highest_45 rfl (lv_at hl 0 rfl) ?_
            have hI := hF.1
            have hF := hF.2
            refine va_zald hx hb hK.1 hP 8 2 rfl rfl hI dX4_highest_46 ?_
            have hJ55 : ∀ (t1_55 : Int32), wp_X4_highest_J55 rec30 v2_30 v1_30 t1_55 → ∀ (H : Heap) (locs : List Loc), va_P (dC, dI) classes (wC h cy s22) H → va_D A (wC h cy s22) → va_S A s.heap H locs → ∀ (ls : Array Slot), lv_has ls 4 [(2, .int v2_30), (0, .ref (h 0))] → W p l e ({ frames := 3, cells := 0, slots := 0, locals := 70 } : Room) s m ([.ref (h 0)] : List Value).toArray below meth c H locs 0 0 (MQ below (va_Qi (fun r u => P r u) (fun (u : SX) t => va_P (dC, dI) classes (wC h cy u) t.heap ∧ kwX dC dI cy t ∧ va_D A (wC h cy u)) A) ([.ref (h 0)] : List Value).toArray s 0 0 A) (F0 m 55 ls [.int t1_55, .int v1_30]) := by
              intro t1_55 hF H locs hP hD hS ls hl
              unfold wp_X4_highest_J55 at hF
              refine lv_ior hx hb dX4_highest_55 ?_
              refine lv_istore_n (lv' := [(1, .int (v1_30 ||| t1_55)), (2, .int v2_30), (0, .ref (h 0))]) hx hb dX4_highest_56 rfl hl (by decide) rfl (fun ls hl => ?_)
              refine lv_iinc (v := v2_30 + 1) (lv' := [(2, .int (v2_30 + 1)), (1, .int (v1_30 ||| t1_55)), (0, .ref (h 0))]) hx hb dX4_highest_57 hl (k := 1) rfl (by rfl) (by decide) rfl (fun ls hl => ?_)
              refine lv_goto (tgt := 30) hx hb dX4_highest_60 (by decide) ?_
              exact ih (v2_30 + 1) (v1_30 ||| t1_55) hF _ _ hP hD hS _ (lv_sub hl [0, 1, 2] rfl)
            refine lv_if_eq (tgt := 54) hx hb dX4_highest_47 (by decide) (fun cz => ?_) (fun cz => ?_)
            · have hF := hF.1 cz
              refine lv_iconst (v := 0) hx hb dX4_highest_54 (by decide) ?_
              exact hJ55 0 hF _ _ hP hD hS _ (lv_sub hl [0, 2] rfl)
            · have hF := hF.2 cz
              refine lv_iload_n hx hb dX4_highest_50 rfl (lv_at hl 0 rfl) ?_
              refine lv_goto (tgt := 55) hx hb dX4_highest_51 (by decide) ?_
              exact hJ55 v2_30 hF _ _ hP hD hS _ (lv_sub hl [0, 2] rfl)
      exact hL30 _ hX30 fu 0 0 hF _ _ hP hD hS _ (lv_sub hl [0, 1, 2] rfl)
    · have hF := hF.2 cz
      refine lv_iconst (v := 0) hx hb dX4_highest_19 (by decide) ?_
      exact W.iret (v := 0) hx hb hr (fun t ht hW => ⟨⟨0, s13, rfl, hF, by rw [ht]; exact hP, hK.warm hW, hD⟩, hS.F ht⟩) hS.2.2 dX4_highest_20
  refine lv_if_ne (tgt := 12) hx hb dX4_highest_5 (by decide) (fun cz => ?_) (fun cz => ?_)
  · have hF := hF.1 cz
    refine lv_iconst (v := 0) hx hb dX4_highest_12 (by decide) ?_
    exact hJ13 0 hF _ _ hP hD hS _ (lv_sub hl [0] rfl)
  · have hF := hF.2 cz
    refine lv_iconst (v := 1) hx hb dX4_highest_8 (by decide) ?_
    refine lv_goto (tgt := 13) hx hb dX4_highest_9 (by decide) ?_
    exact hJ13 1 hF _ _ hP hD hS _ (lv_sub hl [0] rfl)
theorem dX4_hint_0 : decode cX4_hint 0 = .ok (.aload_n 0, 1) := by decide +kernel
theorem dX4_hint_1 : decode cX4_hint 1 = .ok (.invokevirtual 212, 3) := by decide +kernel
theorem dX4_hint_4 : decode cX4_hint 4 = .ok (.iconst 0, 1) := by decide +kernel
theorem dX4_hint_5 : decode cX4_hint 5 = .ok (.istore_n 1, 1) := by decide +kernel
theorem dX4_hint_6 : decode cX4_hint 6 = .ok (.iload_n 1, 1) := by decide +kernel
theorem dX4_hint_7 : decode cX4_hint 7 = .ok (.aload_n 0, 1) := by decide +kernel
theorem dX4_hint_8 : decode cX4_hint 8 = .ok (.getfield 71, 3) := by decide +kernel
theorem dX4_hint_11 : decode cX4_hint 11 = .ok (.if_icmp .ge 51, 3) := by decide +kernel
theorem dX4_hint_14 : decode cX4_hint 14 = .ok (.aload_n 0, 1) := by decide +kernel
theorem dX4_hint_15 : decode cX4_hint 15 = .ok (.aload_n 0, 1) := by decide +kernel
theorem dX4_hint_16 : decode cX4_hint 16 = .ok (.getfield 120, 3) := by decide +kernel
theorem dX4_hint_19 : decode cX4_hint 19 = .ok (.iload_n 1, 1) := by decide +kernel
theorem dX4_hint_20 : decode cX4_hint 20 = .ok (.invokevirtual 159, 3) := by decide +kernel
theorem dX4_hint_23 : decode cX4_hint 23 = .ok (.ifCond .eq 33, 3) := by decide +kernel
theorem dX4_hint_26 : decode cX4_hint 26 = .ok (.aload_n 0, 1) := by decide +kernel
theorem dX4_hint_27 : decode cX4_hint 27 = .ok (.getfield 41, 3) := by decide +kernel
theorem dX4_hint_30 : decode cX4_hint 30 = .ok (.aload_n 0, 1) := by decide +kernel
theorem dX4_hint_31 : decode cX4_hint 31 = .ok (.aload_n 0, 1) := by decide +kernel
theorem dX4_hint_32 : decode cX4_hint 32 = .ok (.getfield 120, 3) := by decide +kernel
theorem dX4_hint_35 : decode cX4_hint 35 = .ok (.iload_n 1, 1) := by decide +kernel
theorem dX4_hint_36 : decode cX4_hint 36 = .ok (.invokevirtual 166, 3) := by decide +kernel
theorem dX4_hint_39 : decode cX4_hint 39 = .ok (.laload, 1) := by decide +kernel
theorem dX4_hint_40 : decode cX4_hint 40 = .ok (.lconst 0, 1) := by decide +kernel
theorem dX4_hint_41 : decode cX4_hint 41 = .ok (.lcmp, 1) := by decide +kernel
theorem dX4_hint_42 : decode cX4_hint 42 = .ok (.ifCond .le 14, 3) := by decide +kernel
theorem dX4_hint_45 : decode cX4_hint 45 = .ok (.aload_n 0, 1) := by decide +kernel
theorem dX4_hint_46 : decode cX4_hint 46 = .ok (.iconst 0, 1) := by decide +kernel
theorem dX4_hint_47 : decode cX4_hint 47 = .ok (.putfield 60, 3) := by decide +kernel
theorem dX4_hint_50 : decode cX4_hint 50 = .ok (.aload_n 0, 1) := by decide +kernel
theorem dX4_hint_51 : decode cX4_hint 51 = .ok (.iload_n 1, 1) := by decide +kernel
theorem dX4_hint_52 : decode cX4_hint 52 = .ok (.invokevirtual 191, 3) := by decide +kernel
theorem dX4_hint_55 : decode cX4_hint 55 = .ok (.ireturn, 1) := by decide +kernel
theorem dX4_hint_56 : decode cX4_hint 56 = .ok (.iinc 1 1, 3) := by decide +kernel
theorem dX4_hint_59 : decode cX4_hint 59 = .ok (.goto (-53), 3) := by decide +kernel
theorem dX4_hint_62 : decode cX4_hint 62 = .ok (.aload_n 0, 1) := by decide +kernel
theorem dX4_hint_63 : decode cX4_hint 63 = .ok (.iconst 1, 1) := by decide +kernel
theorem dX4_hint_64 : decode cX4_hint 64 = .ok (.putfield 60, 3) := by decide +kernel
theorem dX4_hint_67 : decode cX4_hint 67 = .ok (.iconst 0, 1) := by decide +kernel
theorem dX4_hint_68 : decode cX4_hint 68 = .ok (.ireturn, 1) := by decide +kernel
def wp_X4_hint_J56 (rec6 : Int32 → Prop) (v1_6 : Int32) : Prop := (rec6 (v1_6 + 1))
def wp_X4_hint_B6 (P : Int32 → SX → Prop) (s1 : SX) (K6 : Prop) (rec6 : Int32 → Prop) (v1_6 : Int32) : Prop := (((s1.1 1) ≤ v1_6 → K6) ∧ (¬ (s1.1 1) ≤ v1_6 → (wp_X4_can s1 (s1.1 2) v1_6 (fun r20 => ((r20 = 0 → wp_X4_hint_J56 rec6 v1_6) ∧ (¬ r20 = 0 → (wp_X4_behind s1 (s1.1 2) v1_6 (fun r36 => (vp_in r36 8192 ∧ (((lg_cmp (s1.2.2 r36.toNatClampNeg) 0) ≤ 0 → wp_X4_hint_J56 rec6 v1_6) ∧ (¬ (lg_cmp (s1.2.2 r36.toNatClampNeg) 0) ≤ 0 → (wp_X4_codeOf (sI s1 5 0) v1_6 (fun r52 => (P r52 (sI s1 5 0)))))))))))))))
def wp_X4_hint_L6 (P : Int32 → SX → Prop) (s1 : SX) (K6 : Prop) : Nat → Int32 → Prop
  | 0, _ => False
  | nn + 1, v1_6 => wp_X4_hint_B6 P s1 K6 (wp_X4_hint_L6 P s1 K6 nn) v1_6
def wp_X4_hint (fu : Nat) (σ : SX) (P : Int32 → SX → Prop) : Prop := (wp_X4_counts fu σ  (fun s1 => (wp_X4_hint_L6 P s1 (P 0 (sI s1 5 1)) fu 0)))
theorem k_X4_hint : KV RX4 yX4_hint cX4_hint 2 (some .int) 0 := ⟨q1423, q1424, q5, q1425, by decide +kernel⟩
set_option maxHeartbeats 4000000 in
set_option maxRecDepth 100000 in
theorem m_X4_hint (l : Launch) (dC : Nat → ClassId) (dI : Nat → Nat → Nat) (h : Nat → Nat) (cy : Nat → ClassId) (sz : Nat) (fu : Nat) (σ : SX) (P : Int32 → SX → Prop) (hF : wp_X4_hint fu σ P) : Met l yX4_hint (ws_ yX4_hint cX4_hint 2 (some .int)) ({ frames := 3, cells := 0, slots := 0, locals := 66 } : Room) (va_Pc [.ref (h 0)] (fun U => U.heap.size = sz ∧ va_P (dC, dI) classes (wC h cy σ) U.heap ∧ kwX dC dI cy U ∧ va_D (fun _ => True) (wC h cy σ))) (va_Qi (fun r u => P r u) (fun (u : SX) t => va_P (dC, dI) classes (wC h cy u) t.heap ∧ kwX dC dI cy t ∧ va_D (va_A (wC h cy σ) sz) (wC h cy u)) (va_A (wC h cy σ) sz)) 0 0 (va_A (wC h cy σ) sz) := by
  refine Met.ofCx (own := RX4) (by decide) rfl (Nat.le_of_ble_eq_true rfl) ?_
  intro p e s m below meth c hC hv ls hl
  obtain ⟨hx, hb, hr, hml, hown, hts, hlocks⟩ := hC
  have hl : lv_has ls 2 [(0, .ref (h 0))] := hl
  obtain ⟨hsz, hP, hK, hD0⟩ := hv
  subst hsz
  have hD := hD0.self (sz := s.heap.size)
  generalize hAe : va_A (wC h cy σ) s.heap.size = A at hD ⊢
  have hA : ∀ q : Nat, s.heap.size ≤ q → A q := fun q h => by rw [← hAe]; exact Or.inr h
  have hS : va_S A s.heap s.heap [] := va_S.rf
  clear hAe
  unfold wp_X4_hint at hF
  refine lv_aload_n hx hb dX4_hint_0 rfl (lv_at hl 0 rfl) ?_
  have hFc := va_free (wc := wC h cy σ) hD hS hA [0, 1, 2, 3, 4, 5, 6, 7, 8, 9] rfl
  refine cwVv (q0 := 0) (As := []) (rest := []) ⟨hx, hb, hr, hml, hown, hts, hlocks⟩ hK hP hD rfl rfl hS hFc (m_X4_counts l dC dI h cy _ fu σ  _ hF) k_X4_counts q1414 ⟨rfl, rfl⟩ ⟨Nat.le_of_ble_eq_true rfl, Nat.le_of_ble_eq_true rfl⟩ hl.1 rfl rfl (Nat.le_of_ble_eq_true rfl) dX4_hint_1 ⟨Nat.le_of_ble_eq_true rfl, Nat.le_of_ble_eq_true rfl⟩ (fun u H1 locs hF hP1 hD1 hk1 hS => ?_)
  obtain ⟨s1, rfl⟩ : ∃ z, z = u := ⟨_, rfl⟩
  have hP := hP1
  have hD := hD1.weaken (fun _ q _ h => hFc q.1 h)
  generalize H1 = H at hP hS ⊢
  have hP : va_P (dC, dI) classes (wC h cy s1) H := hP
  have hD : va_D A (wC h cy s1) := hD
  refine lv_iconst (v := 0) hx hb dX4_hint_4 (by decide) ?_
  refine lv_istore_n (lv' := [(1, .int 0), (0, .ref (h 0))]) hx hb dX4_hint_5 rfl hl (by decide) rfl (fun ls hl => ?_)
  have hX6 : (P 0 (sI s1 5 1)) → ∀ (H : Heap) (locs : List Loc), va_P (dC, dI) classes (wC h cy s1) H → va_D A (wC h cy s1) → va_S A s.heap H locs → ∀ (ls : Array Slot), lv_has ls 2 [(0, .ref (h 0))] → W p l e ({ frames := 3, cells := 0, slots := 0, locals := 66 } : Room) s m ([.ref (h 0)] : List Value).toArray below meth c H locs 0 0 (MQ below (va_Qi (fun r u => P r u) (fun (u : SX) t => va_P (dC, dI) classes (wC h cy u) t.heap ∧ kwX dC dI cy t ∧ va_D A (wC h cy u)) A) ([.ref (h 0)] : List Value).toArray s 0 0 A) (F0 m 62 ls []) := by
    intro hF H locs hP hD hS ls hl
    refine lv_aload_n hx hb dX4_hint_62 rfl (lv_at hl 0 rfl) ?_
    refine lv_iconst (v := 1) hx hb dX4_hint_63 (by decide) ?_
    refine va_put (D := (dC, dI)) (ci := 4) (v := .int 1) (ty := .int) (C := RX4) (T := TX4) (N := 19) hx hb hts in_X4 tyX4 tyX4_ok nmX4 hown hK.1 hP hD hS 0 rfl rfl 18 (by decide) (hts _ q968) (fun _ h9 => h9) rfl (by decide +kernel) rfl rfl (Nat.le_of_ble_eq_true rfl) dX4_hint_64 (fun H locs hP hD hS => ?_)
    have hP : va_P (dC, dI) classes (wC h cy (sI s1 5 1)) H := hP
    have hD : va_D A (wC h cy (sI s1 5 1)) := hD
    refine lv_iconst (v := 0) hx hb dX4_hint_67 (by decide) ?_
    exact W.iret (v := 0) hx hb hr (fun t ht hW => ⟨⟨0, sI s1 5 1, rfl, hF, by rw [ht]; exact hP, hK.warm hW, hD⟩, hS.F ht⟩) hS.2.2 dX4_hint_68
  have hL6 : ∀ (K6 : Prop), (K6 → ∀ (H : Heap) (locs : List Loc), va_P (dC, dI) classes (wC h cy s1) H → va_D A (wC h cy s1) → va_S A s.heap H locs → ∀ (ls : Array Slot), lv_has ls 2 [(0, .ref (h 0))] → W p l e ({ frames := 3, cells := 0, slots := 0, locals := 66 } : Room) s m ([.ref (h 0)] : List Value).toArray below meth c H locs 0 0 (MQ below (va_Qi (fun r u => P r u) (fun (u : SX) t => va_P (dC, dI) classes (wC h cy u) t.heap ∧ kwX dC dI cy t ∧ va_D A (wC h cy u)) A) ([.ref (h 0)] : List Value).toArray s 0 0 A) (F0 m 62 ls [])) → ∀ (nn : Nat), ∀ (v1_6 : Int32), wp_X4_hint_L6 P s1 K6 nn v1_6 → ∀ (H : Heap) (locs : List Loc), va_P (dC, dI) classes (wC h cy s1) H → va_D A (wC h cy s1) → va_S A s.heap H locs → ∀ (ls : Array Slot), lv_has ls 2 [(1, .int v1_6), (0, .ref (h 0))] → W p l e ({ frames := 3, cells := 0, slots := 0, locals := 66 } : Room) s m ([.ref (h 0)] : List Value).toArray below meth c H locs 0 0 (MQ below (va_Qi (fun r u => P r u) (fun (u : SX) t => va_P (dC, dI) classes (wC h cy u) t.heap ∧ kwX dC dI cy t ∧ va_D A (wC h cy u)) A) ([.ref (h 0)] : List Value).toArray s 0 0 A) (F0 m 6 ls []) := by
    intro K6 hX6 nn
    induction nn with
    | zero =>
      intro v1_6 hF
      exact hF.elim
    | succ nn ih =>
      intro v1_6 hF H locs hP hD hS ls hl
      obtain ⟨rec6, hrec⟩ : ∃ z : Int32 → Prop, z = wp_X4_hint_L6 P s1 K6 nn := ⟨_, rfl⟩
      have hF : wp_X4_hint_B6 P s1 K6 rec6 v1_6 := by rw [hrec]; exact hF
      rw [← hrec] at ih
      clear hrec
      unfold wp_X4_hint_B6 at hF
      refine lv_iload_n hx hb dX4_hint_6 rfl (lv_at hl 0 rfl) ?_
      refine lv_aload_n hx hb dX4_hint_7 rfl (lv_at hl 1 rfl) ?_
      refine va_get (D := (dC, dI)) (ci := 4) (v := .int (s1.1 1)) (C := RX4) (T := TX4) (N := 19) hx hb hts in_X4 hown hK.1 hP 0 rfl rfl 14 (by decide) (hts _ q964) (fun _ h9 => h9) rfl dX4_hint_8 ?_
      refine lv_icmp_ge (tgt := 62) hx hb dX4_hint_11 (by decide) (fun cz => ?_) (fun cz => ?_)
      · have hF := hF.1 cz
        exact hX6 hF _ _ hP hD hS _ (lv_sub hl [1] rfl)
      · have hF := hF.2 cz
        refine lv_aload_n hx hb dX4_hint_14 rfl (lv_at hl 1 rfl) ?_
        refine lv_aload_n hx hb dX4_hint_15 rfl (lv_at hl 1 rfl) ?_
        refine va_get (D := (dC, dI)) (ci := 4) (v := .int (s1.1 2)) (C := RX4) (T := TX4) (N := 19) hx hb hts in_X4 hown hK.1 hP 0 rfl rfl 15 (by decide) (hts _ q965) (fun _ h9 => h9) rfl dX4_hint_16 ?_
        refine lv_iload_n hx hb dX4_hint_19 rfl (lv_at hl 0 rfl) ?_
        refine cpVi (q0 := 0) (As := [.int (s1.1 2), .int v1_6]) (rest := []) ⟨hx, hb, hr, hml, hown, hts, hlocks⟩ hK hP rfl rfl (m_X4_can l dC dI h cy s1 (s1.1 2) v1_6 _ hF) k_X4_can q1214 ⟨rfl, rfl⟩ ⟨Nat.le_of_ble_eq_true rfl, Nat.le_of_ble_eq_true rfl⟩ hl.1 rfl rfl (Nat.le_of_ble_eq_true rfl) dX4_hint_20 ⟨Nat.le_of_ble_eq_true rfl, Nat.le_of_ble_eq_true rfl⟩ (fun r20 hF => ?_)
        have hJ56 : wp_X4_hint_J56 rec6 v1_6 → ∀ (H : Heap) (locs : List Loc), va_P (dC, dI) classes (wC h cy s1) H → va_D A (wC h cy s1) → va_S A s.heap H locs → ∀ (ls : Array Slot), lv_has ls 2 [(1, .int v1_6), (0, .ref (h 0))] → W p l e ({ frames := 3, cells := 0, slots := 0, locals := 66 } : Room) s m ([.ref (h 0)] : List Value).toArray below meth c H locs 0 0 (MQ below (va_Qi (fun r u => P r u) (fun (u : SX) t => va_P (dC, dI) classes (wC h cy u) t.heap ∧ kwX dC dI cy t ∧ va_D A (wC h cy u)) A) ([.ref (h 0)] : List Value).toArray s 0 0 A) (F0 m 56 ls []) := by
          intro hF H locs hP hD hS ls hl
          unfold wp_X4_hint_J56 at hF
          refine lv_iinc (v := v1_6 + 1) (lv' := [(1, .int (v1_6 + 1)), (0, .ref (h 0))]) hx hb dX4_hint_56 hl (k := 0) rfl (by rfl) (by decide) rfl (fun ls hl => ?_)
          refine lv_goto (tgt := 6) hx hb dX4_hint_59 (by decide) ?_
          exact ih (v1_6 + 1) hF _ _ hP hD hS _ (lv_sub hl [0, 1] rfl)
        refine lv_if_eq (tgt := 56) hx hb dX4_hint_23 (by decide) (fun cz => ?_) (fun cz => ?_)
        · have hF := hF.1 cz
          exact hJ56 hF _ _ hP hD hS _ (lv_sub hl [0, 1] rfl)
        · have hF := hF.2 cz
          refine lv_aload_n hx hb dX4_hint_26 rfl (lv_at hl 1 rfl) ?_
          refine va_get (D := (dC, dI)) (ci := 4) (v := .ref (h 7)) (C := RX4) (T := TX4) (N := 19) hx hb hts in_X4 hown hK.1 hP 0 rfl rfl 9 (by decide) (hts _ q959) (fun _ h9 => h9) rfl dX4_hint_27 ?_
          refine lv_aload_n hx hb dX4_hint_30 rfl (lv_at hl 1 rfl) ?_
          refine lv_aload_n hx hb dX4_hint_31 rfl (lv_at hl 1 rfl) ?_
          refine va_get (D := (dC, dI)) (ci := 4) (v := .int (s1.1 2)) (C := RX4) (T := TX4) (N := 19) hx hb hts in_X4 hown hK.1 hP 0 rfl rfl 15 (by decide) (hts _ q965) (fun _ h9 => h9) rfl dX4_hint_32 ?_
          refine lv_iload_n hx hb dX4_hint_35 rfl (lv_at hl 0 rfl) ?_
          refine cpVi (q0 := 0) (As := [.int (s1.1 2), .int v1_6]) (rest := [.ref (h 7)]) ⟨hx, hb, hr, hml, hown, hts, hlocks⟩ hK hP rfl rfl (m_X4_behind l dC dI h cy s1 (s1.1 2) v1_6 _ hF) k_X4_behind q1230 ⟨rfl, rfl⟩ ⟨Nat.le_of_ble_eq_true rfl, Nat.le_of_ble_eq_true rfl⟩ hl.1 rfl rfl (Nat.le_of_ble_eq_true rfl) dX4_hint_36 ⟨Nat.le_of_ble_eq_true rfl, Nat.le_of_ble_eq_true rfl⟩ (fun r36 hF => ?_)
          have hI := hF.1
          have hF := hF.2
          refine va_lald hx hb hK.1 hP 7 1 rfl rfl hI dX4_hint_39 ?_
          refine lv_lconst (v := 0) hx hb dX4_hint_40 (by decide) ?_
          refine W.lcmp hx hb dX4_hint_41 ?_
          refine lv_if_le (tgt := 56) hx hb dX4_hint_42 (by decide) (fun cz => ?_) (fun cz => ?_)
          · have hF := hF.1 cz
            exact hJ56 hF _ _ hP hD hS _ (lv_sub hl [0, 1] rfl)
          · have hF := hF.2 cz
            refine lv_aload_n hx hb dX4_hint_45 rfl (lv_at hl 1 rfl) ?_
            refine lv_iconst (v := 0) hx hb dX4_hint_46 (by decide) ?_
            refine va_put (D := (dC, dI)) (ci := 4) (v := .int 0) (ty := .int) (C := RX4) (T := TX4) (N := 19) hx hb hts in_X4 tyX4 tyX4_ok nmX4 hown hK.1 hP hD hS 0 rfl rfl 18 (by decide) (hts _ q968) (fun _ h9 => h9) rfl (by decide +kernel) rfl rfl (Nat.le_of_ble_eq_true rfl) dX4_hint_47 (fun H locs hP hD hS => ?_)
            have hP : va_P (dC, dI) classes (wC h cy (sI s1 5 0)) H := hP
            have hD : va_D A (wC h cy (sI s1 5 0)) := hD
            refine lv_aload_n hx hb dX4_hint_50 rfl (lv_at hl 1 rfl) ?_
            refine lv_iload_n hx hb dX4_hint_51 rfl (lv_at hl 0 rfl) ?_
            refine cpVi (q0 := 0) (As := [.int v1_6]) (rest := []) ⟨hx, hb, hr, hml, hown, hts, hlocks⟩ hK hP rfl rfl (m_X4_codeOf l dC dI h cy (sI s1 5 0) v1_6 _ hF) k_X4_codeOf q1332 ⟨rfl, rfl⟩ ⟨Nat.le_of_ble_eq_true rfl, Nat.le_of_ble_eq_true rfl⟩ hl.1 rfl rfl (Nat.le_of_ble_eq_true rfl) dX4_hint_52 ⟨Nat.le_of_ble_eq_true rfl, Nat.le_of_ble_eq_true rfl⟩ (fun r52 hF => ?_)
            exact W.iret (v := r52) hx hb hr (fun t ht hW => ⟨⟨r52, sI s1 5 0, rfl, hF, by rw [ht]; exact hP, hK.warm hW, hD⟩, hS.F ht⟩) hS.2.2 dX4_hint_55
  exact hL6 _ hX6 fu 0 hF _ _ hP hD hS _ (lv_sub hl [0, 1] rfl)
theorem dX4_isDrilled_0 : decode cX4_isDrilled 0 = .ok (.iconst 0, 1) := by decide +kernel
theorem dX4_isDrilled_1 : decode cX4_isDrilled 1 = .ok (.istore_n 2, 1) := by decide +kernel
theorem dX4_isDrilled_2 : decode cX4_isDrilled 2 = .ok (.iconst 0, 1) := by decide +kernel
theorem dX4_isDrilled_3 : decode cX4_isDrilled 3 = .ok (.istore_n 3, 1) := by decide +kernel
theorem dX4_isDrilled_4 : decode cX4_isDrilled 4 = .ok (.iload_n 3, 1) := by decide +kernel
theorem dX4_isDrilled_5 : decode cX4_isDrilled 5 = .ok (.aload_n 0, 1) := by decide +kernel
theorem dX4_isDrilled_6 : decode cX4_isDrilled 6 = .ok (.getfield 64, 3) := by decide +kernel
theorem dX4_isDrilled_9 : decode cX4_isDrilled 9 = .ok (.if_icmp .ge 27, 3) := by decide +kernel
theorem dX4_isDrilled_12 : decode cX4_isDrilled 12 = .ok (.iload_n 2, 1) := by decide +kernel
theorem dX4_isDrilled_13 : decode cX4_isDrilled 13 = .ok (.aload_n 0, 1) := by decide +kernel
theorem dX4_isDrilled_14 : decode cX4_isDrilled 14 = .ok (.getfield 13, 3) := by decide +kernel
theorem dX4_isDrilled_17 : decode cX4_isDrilled 17 = .ok (.iload_n 3, 1) := by decide +kernel
theorem dX4_isDrilled_18 : decode cX4_isDrilled 18 = .ok (.iaload, 1) := by decide +kernel
theorem dX4_isDrilled_19 : decode cX4_isDrilled 19 = .ok (.iload_n 1, 1) := by decide +kernel
theorem dX4_isDrilled_20 : decode cX4_isDrilled 20 = .ok (.if_icmp .ne 7, 3) := by decide +kernel
theorem dX4_isDrilled_23 : decode cX4_isDrilled 23 = .ok (.iconst 1, 1) := by decide +kernel
theorem dX4_isDrilled_24 : decode cX4_isDrilled 24 = .ok (.goto 4, 3) := by decide +kernel
theorem dX4_isDrilled_27 : decode cX4_isDrilled 27 = .ok (.iconst 0, 1) := by decide +kernel
theorem dX4_isDrilled_28 : decode cX4_isDrilled 28 = .ok (.ior, 1) := by decide +kernel
theorem dX4_isDrilled_29 : decode cX4_isDrilled 29 = .ok (.istore_n 2, 1) := by decide +kernel
theorem dX4_isDrilled_30 : decode cX4_isDrilled 30 = .ok (.iinc 3 1, 3) := by decide +kernel
theorem dX4_isDrilled_33 : decode cX4_isDrilled 33 = .ok (.goto (-29), 3) := by decide +kernel
theorem dX4_isDrilled_36 : decode cX4_isDrilled 36 = .ok (.iload_n 2, 1) := by decide +kernel
theorem dX4_isDrilled_37 : decode cX4_isDrilled 37 = .ok (.ireturn, 1) := by decide +kernel
def wp_X4_isDrilled_J28 (rec4 : Int32 → Int32 → Prop) (v3_4 : Int32) (v2_4 : Int32) (t1_28 : Int32) : Prop := (rec4 (v3_4 + 1) (v2_4 ||| t1_28))
def wp_X4_isDrilled_B4 (σ : SX) (x1 : Int32) (K4 : Int32 → Prop) (rec4 : Int32 → Int32 → Prop) (v3_4 : Int32) (v2_4 : Int32) : Prop := (((σ.1 0) ≤ v3_4 → (K4 v2_4)) ∧ (¬ (σ.1 0) ≤ v3_4 → (vp_in v3_4 13 ∧ ((¬ ((σ.2.1 1) v3_4.toNatClampNeg) = x1 → (wp_X4_isDrilled_J28 rec4 v3_4 v2_4 0)) ∧ (((σ.2.1 1) v3_4.toNatClampNeg) = x1 → (wp_X4_isDrilled_J28 rec4 v3_4 v2_4 1))))))
def wp_X4_isDrilled_L4 (σ : SX) (x1 : Int32) (K4 : Int32 → Prop) : Nat → Int32 → Int32 → Prop
  | 0, _, _ => False
  | nn + 1, v3_4, v2_4 => wp_X4_isDrilled_B4 σ x1 K4 (wp_X4_isDrilled_L4 σ x1 K4 nn) v3_4 v2_4
def wp_X4_isDrilled (fu : Nat) (σ : SX) (x1 : Int32) (P : Int32 → Prop) : Prop := (wp_X4_isDrilled_L4 σ x1 (fun (v2_36 : Int32) => (narrow .boolean (.int v2_36) = .int v2_36 ∧ (P v2_36))) fu 0 0)
theorem k_X4_isDrilled : KV RX4 yX4_isDrilled cX4_isDrilled 4 (some .boolean) 1 := ⟨q1132, qs27, q5, q1133, by decide +kernel⟩
set_option maxHeartbeats 4000000 in
set_option maxRecDepth 100000 in
theorem m_X4_isDrilled (l : Launch) (dC : Nat → ClassId) (dI : Nat → Nat → Nat) (h : Nat → Nat) (cy : Nat → ClassId) (fu : Nat) (σ : SX) (x1 : Int32) (P : Int32 → Prop) (hF : wp_X4_isDrilled fu σ x1 P) : Met l yX4_isDrilled (ws_ yX4_isDrilled cX4_isDrilled 4 (some .boolean)) ({ frames := 0, cells := 0, slots := 0, locals := 0 } : Room) (va_Pc [.ref (h 0), .int x1] (fun U => va_P (dC, dI) classes (wC h cy σ) U.heap ∧ kwX dC dI cy U)) (vp_Si P) 0 0 (fun _ => False) := by
  refine Met.ofCx (own := RX4) (by decide) rfl (Nat.le_of_ble_eq_true rfl) ?_
  intro p e s m below meth c hC hv ls hl
  obtain ⟨hx, hb, hr, hml, hown, hts, hlocks⟩ := hC
  have hl : lv_has ls 4 [(0, .ref (h 0)), (1, .int x1)] := hl
  obtain ⟨hP, hK⟩ := hv
  unfold wp_X4_isDrilled at hF
  refine lv_iconst (v := 0) hx hb dX4_isDrilled_0 (by decide) ?_
  refine lv_istore_n (lv' := [(2, .int 0), (0, .ref (h 0)), (1, .int x1)]) hx hb dX4_isDrilled_1 rfl hl (by decide) rfl (fun ls hl => ?_)
  refine lv_iconst (v := 0) hx hb dX4_isDrilled_2 (by decide) ?_
  refine lv_istore_n (lv' := [(3, .int 0), (2, .int 0), (0, .ref (h 0)), (1, .int x1)]) hx hb dX4_isDrilled_3 rfl hl (by decide) rfl (fun ls hl => ?_)
  have hX4 : ∀ (v2_36 : Int32), (fun (v2_36 : Int32) => (narrow .boolean (.int v2_36) = .int v2_36 ∧ (P v2_36))) v2_36 → ∀ (ls : Array Slot), lv_has ls 4 [(2, .int v2_36)] → W p l e ({ frames := 0, cells := 0, slots := 0, locals := 0 } : Room) s m ([.ref (h 0), .int x1] : List Value).toArray below meth c s.heap [] 0 0 (MQ below (vp_Si P) ([.ref (h 0), .int x1] : List Value).toArray s 0 0 (fun _ => False)) (F0 m 36 ls []) := by
    intro v2_36 hF ls hl
    refine lv_iload_n hx hb dX4_isDrilled_36 rfl (lv_at hl 0 rfl) ?_
    exact W.zret (v := v2_36) hx hb hr hF.1 (fun t ht hW => ⟨v2_36, rfl, hF.2, ht⟩) (fun q hq => absurd hq List.not_mem_nil) dX4_isDrilled_37
  have hL4 : ∀ (K4 : Int32 → Prop), (∀ (v2_36 : Int32), K4 v2_36 → ∀ (ls : Array Slot), lv_has ls 4 [(2, .int v2_36)] → W p l e ({ frames := 0, cells := 0, slots := 0, locals := 0 } : Room) s m ([.ref (h 0), .int x1] : List Value).toArray below meth c s.heap [] 0 0 (MQ below (vp_Si P) ([.ref (h 0), .int x1] : List Value).toArray s 0 0 (fun _ => False)) (F0 m 36 ls [])) → ∀ (nn : Nat), ∀ (v3_4 : Int32), ∀ (v2_4 : Int32), wp_X4_isDrilled_L4 σ x1 K4 nn v3_4 v2_4 → ∀ (ls : Array Slot), lv_has ls 4 [(3, .int v3_4), (2, .int v2_4), (0, .ref (h 0)), (1, .int x1)] → W p l e ({ frames := 0, cells := 0, slots := 0, locals := 0 } : Room) s m ([.ref (h 0), .int x1] : List Value).toArray below meth c s.heap [] 0 0 (MQ below (vp_Si P) ([.ref (h 0), .int x1] : List Value).toArray s 0 0 (fun _ => False)) (F0 m 4 ls []) := by
    intro K4 hX4 nn
    induction nn with
    | zero =>
      intro v3_4 v2_4 hF
      exact hF.elim
    | succ nn ih =>
      intro v3_4 v2_4 hF ls hl
      obtain ⟨rec4, hrec⟩ : ∃ z : Int32 → Int32 → Prop, z = wp_X4_isDrilled_L4 σ x1 K4 nn := ⟨_, rfl⟩
      have hF : wp_X4_isDrilled_B4 σ x1 K4 rec4 v3_4 v2_4 := by rw [hrec]; exact hF
      rw [← hrec] at ih
      clear hrec
      unfold wp_X4_isDrilled_B4 at hF
      refine lv_iload_n hx hb dX4_isDrilled_4 rfl (lv_at hl 0 rfl) ?_
      refine lv_aload_n hx hb dX4_isDrilled_5 rfl (lv_at hl 2 rfl) ?_
      refine va_get (D := (dC, dI)) (ci := 4) (v := .int (σ.1 0)) (C := RX4) (T := TX4) (N := 19) hx hb hts in_X4 hown hK.1 hP 0 rfl rfl 13 (by decide) (hts _ q963) (fun _ h9 => h9) rfl dX4_isDrilled_6 ?_
      refine lv_icmp_ge (tgt := 36) hx hb dX4_isDrilled_9 (by decide) (fun cz => ?_) (fun cz => ?_)
      · have hF := hF.1 cz
        exact hX4 v2_4 hF _ (lv_sub hl [1] rfl)
      · have hF := hF.2 cz
        refine lv_iload_n hx hb dX4_isDrilled_12 rfl (lv_at hl 1 rfl) ?_
        refine lv_aload_n hx hb dX4_isDrilled_13 rfl (lv_at hl 2 rfl) ?_
        refine va_get (D := (dC, dI)) (ci := 4) (v := .ref (h 2)) (C := RX4) (T := TX4) (N := 19) hx hb hts in_X4 hown hK.1 hP 0 rfl rfl 1 (by decide) (hts _ q951) (fun _ h9 => h9) rfl dX4_isDrilled_14 ?_
        refine lv_iload_n hx hb dX4_isDrilled_17 rfl (lv_at hl 0 rfl) ?_
        have hI := hF.1
        have hF := hF.2
        refine va_iald hx hb hK.1 hP 2 0 rfl rfl hI dX4_isDrilled_18 ?_
        refine lv_iload_n hx hb dX4_isDrilled_19 rfl (lv_at hl 3 rfl) ?_
        have hJ28 : ∀ (t1_28 : Int32), wp_X4_isDrilled_J28 rec4 v3_4 v2_4 t1_28 → ∀ (ls : Array Slot), lv_has ls 4 [(3, .int v3_4), (0, .ref (h 0)), (1, .int x1)] → W p l e ({ frames := 0, cells := 0, slots := 0, locals := 0 } : Room) s m ([.ref (h 0), .int x1] : List Value).toArray below meth c s.heap [] 0 0 (MQ below (vp_Si P) ([.ref (h 0), .int x1] : List Value).toArray s 0 0 (fun _ => False)) (F0 m 28 ls [.int t1_28, .int v2_4]) := by
          intro t1_28 hF ls hl
          unfold wp_X4_isDrilled_J28 at hF
          refine lv_ior hx hb dX4_isDrilled_28 ?_
          refine lv_istore_n (lv' := [(2, .int (v2_4 ||| t1_28)), (3, .int v3_4), (0, .ref (h 0)), (1, .int x1)]) hx hb dX4_isDrilled_29 rfl hl (by decide) rfl (fun ls hl => ?_)
          refine lv_iinc (v := v3_4 + 1) (lv' := [(3, .int (v3_4 + 1)), (2, .int (v2_4 ||| t1_28)), (0, .ref (h 0)), (1, .int x1)]) hx hb dX4_isDrilled_30 hl (k := 1) rfl (by rfl) (by decide) rfl (fun ls hl => ?_)
          refine lv_goto (tgt := 4) hx hb dX4_isDrilled_33 (by decide) ?_
          exact ih (v3_4 + 1) (v2_4 ||| t1_28) hF _ (lv_sub hl [0, 1, 2, 3] rfl)
        refine lv_icmp_ne (tgt := 27) hx hb dX4_isDrilled_20 (by decide) (fun cz => ?_) (fun cz => ?_)
        · have hF := hF.1 cz
          refine lv_iconst (v := 0) hx hb dX4_isDrilled_27 (by decide) ?_
          exact hJ28 0 hF _ (lv_sub hl [0, 2, 3] rfl)
        · have hF := hF.2 cz
          refine lv_iconst (v := 1) hx hb dX4_isDrilled_23 (by decide) ?_
          refine lv_goto (tgt := 28) hx hb dX4_isDrilled_24 (by decide) ?_
          exact hJ28 1 hF _ (lv_sub hl [0, 2, 3] rfl)
  exact hL4 _ hX4 fu 0 0 hF _ (lv_sub hl [0, 1, 2, 3] rfl)
theorem dX4_hole_0 : decode cX4_hole 0 = .ok (.aload_n 0, 1) := by decide +kernel
theorem dX4_hole_1 : decode cX4_hole 1 = .ok (.iload_n 1, 1) := by decide +kernel
theorem dX4_hole_2 : decode cX4_hole 2 = .ok (.iconst 0, 1) := by decide +kernel
theorem dX4_hole_3 : decode cX4_hole 3 = .ok (.bipush 24, 2) := by decide +kernel
theorem dX4_hole_5 : decode cX4_hole 5 = .ok (.invokestatic 67, 3) := by decide +kernel
theorem dX4_hole_8 : decode cX4_hole 8 = .ok (.ifCond .ne 7, 3) := by decide +kernel
theorem dX4_hole_11 : decode cX4_hole 11 = .ok (.iconst 1, 1) := by decide +kernel
theorem dX4_hole_12 : decode cX4_hole 12 = .ok (.goto 16, 3) := by decide +kernel
theorem dX4_hole_15 : decode cX4_hole 15 = .ok (.aload_n 0, 1) := by decide +kernel
theorem dX4_hole_16 : decode cX4_hole 16 = .ok (.iload_n 1, 1) := by decide +kernel
theorem dX4_hole_17 : decode cX4_hole 17 = .ok (.invokevirtual 117, 3) := by decide +kernel
theorem dX4_hole_20 : decode cX4_hole 20 = .ok (.ifCond .eq 7, 3) := by decide +kernel
theorem dX4_hole_23 : decode cX4_hole 23 = .ok (.iconst 0, 1) := by decide +kernel
theorem dX4_hole_24 : decode cX4_hole 24 = .ok (.goto 4, 3) := by decide +kernel
theorem dX4_hole_27 : decode cX4_hole 27 = .ok (.iconst 2, 1) := by decide +kernel
theorem dX4_hole_28 : decode cX4_hole 28 = .ok (.invokevirtual 100, 3) := by decide +kernel
theorem dX4_hole_31 : decode cX4_hole 31 = .ok (.ifCond .eq 7, 3) := by decide +kernel
theorem dX4_hole_34 : decode cX4_hole 34 = .ok (.iconst 0, 1) := by decide +kernel
theorem dX4_hole_35 : decode cX4_hole 35 = .ok (.goto 9, 3) := by decide +kernel
theorem dX4_hole_38 : decode cX4_hole 38 = .ok (.aload_n 0, 1) := by decide +kernel
theorem dX4_hole_39 : decode cX4_hole 39 = .ok (.getfield 9, 3) := by decide +kernel
theorem dX4_hole_42 : decode cX4_hole 42 = .ok (.iload_n 1, 1) := by decide +kernel
theorem dX4_hole_43 : decode cX4_hole 43 = .ok (.iaload, 1) := by decide +kernel
theorem dX4_hole_44 : decode cX4_hole 44 = .ok (.ireturn, 1) := by decide +kernel
def wp_X4_hole_J28 (σ : SX) (x1 : Int32) (P : Int32 → SX → Prop) (t1_28 : Int32) : Prop := (wp_X4_fails σ t1_28 (fun r28 s28 => ((r28 = 0 → (vp_in x1 25 ∧ (P ((s28.2.1 0) x1.toNatClampNeg) s28))) ∧ (¬ r28 = 0 → (P 0 s28)))))
def wp_X4_hole (fu : Nat) (σ : SX) (x1 : Int32) (P : Int32 → SX → Prop) : Prop := (wp_X4_in x1 0 24 (fun r5 => ((¬ r5 = 0 → (wp_X4_isDrilled fu σ x1 (fun r17 => ((r17 = 0 → (wp_X4_hole_J28 σ x1 P 2)) ∧ (¬ r17 = 0 → (wp_X4_hole_J28 σ x1 P 0)))))) ∧ (r5 = 0 → (wp_X4_hole_J28 σ x1 P 1)))))
theorem k_X4_hole : KV RX4 yX4_hole cX4_hole 2 (some .int) 1 := ⟨q1152, q1153, q5, q1154, by decide +kernel⟩
set_option maxHeartbeats 4000000 in
set_option maxRecDepth 100000 in
theorem m_X4_hole (l : Launch) (dC : Nat → ClassId) (dI : Nat → Nat → Nat) (h : Nat → Nat) (cy : Nat → ClassId) (sz : Nat) (fu : Nat) (σ : SX) (x1 : Int32) (P : Int32 → SX → Prop) (hF : wp_X4_hole fu σ x1 P) : Met l yX4_hole (ws_ yX4_hole cX4_hole 2 (some .int)) ({ frames := 1, cells := 0, slots := 0, locals := 23 } : Room) (va_Pc [.ref (h 0), .int x1] (fun U => U.heap.size = sz ∧ va_P (dC, dI) classes (wC h cy σ) U.heap ∧ kwX dC dI cy U ∧ va_D (fun _ => True) (wC h cy σ))) (va_Qi (fun r u => P r u) (fun (u : SX) t => va_P (dC, dI) classes (wC h cy u) t.heap ∧ kwX dC dI cy t ∧ va_D (va_A (wC h cy σ) sz) (wC h cy u)) (va_A (wC h cy σ) sz)) 0 0 (va_A (wC h cy σ) sz) := by
  refine Met.ofCx (own := RX4) (by decide) rfl (Nat.le_of_ble_eq_true rfl) ?_
  intro p e s m below meth c hC hv ls hl
  obtain ⟨hx, hb, hr, hml, hown, hts, hlocks⟩ := hC
  have hl : lv_has ls 2 [(0, .ref (h 0)), (1, .int x1)] := hl
  obtain ⟨hsz, hP, hK, hD0⟩ := hv
  subst hsz
  have hD := hD0.self (sz := s.heap.size)
  generalize hAe : va_A (wC h cy σ) s.heap.size = A at hD ⊢
  have hA : ∀ q : Nat, s.heap.size ≤ q → A q := fun q h => by rw [← hAe]; exact Or.inr h
  have hS : va_S A s.heap s.heap [] := va_S.rf
  clear hAe
  unfold wp_X4_hole at hF
  refine lv_aload_n hx hb dX4_hole_0 rfl (lv_at hl 0 rfl) ?_
  refine lv_iload_n hx hb dX4_hole_1 rfl (lv_at hl 1 rfl) ?_
  refine lv_iconst (v := 0) hx hb dX4_hole_2 (by decide) ?_
  refine lv_bipush (v := 24) hx hb dX4_hole_3 (by decide) ?_
  refine cpSi (As := [.int x1, .int 0, .int 24]) (rest := [.ref (h 0)]) ⟨hx, hb, hr, hml, hown, hts, hlocks⟩ (m_X4_in l x1 0 24 _ hF) k_X4_in q937 ⟨rfl, rfl⟩ ⟨Nat.le_of_ble_eq_true rfl, Nat.le_of_ble_eq_true rfl⟩ hl.1 rfl rfl (Nat.le_of_ble_eq_true rfl) dX4_hole_5 ⟨Nat.le_of_ble_eq_true rfl, Nat.le_of_ble_eq_true rfl⟩ (fun r5 hF => ?_)
  have hJ28 : ∀ (t1_28 : Int32), wp_X4_hole_J28 σ x1 P t1_28 → ∀ (H : Heap) (locs : List Loc), va_P (dC, dI) classes (wC h cy σ) H → va_D A (wC h cy σ) → va_S A s.heap H locs → ∀ (ls : Array Slot), lv_has ls 2 [(0, .ref (h 0)), (1, .int x1)] → W p l e ({ frames := 1, cells := 0, slots := 0, locals := 23 } : Room) s m ([.ref (h 0), .int x1] : List Value).toArray below meth c H locs 0 0 (MQ below (va_Qi (fun r u => P r u) (fun (u : SX) t => va_P (dC, dI) classes (wC h cy u) t.heap ∧ kwX dC dI cy t ∧ va_D A (wC h cy u)) A) ([.ref (h 0), .int x1] : List Value).toArray s 0 0 A) (F0 m 28 ls [.int t1_28, .ref (h 0)]) := by
    intro t1_28 hF H locs hP hD hS ls hl
    unfold wp_X4_hole_J28 at hF
    have hFc := va_free (wc := wC h cy σ) hD hS hA [0, 1, 2, 3, 4, 5, 6, 7, 8, 9] rfl
    refine cwVi (q0 := 0) (As := [.int t1_28]) (rest := []) ⟨hx, hb, hr, hml, hown, hts, hlocks⟩ hK hP hD rfl rfl hS hFc (m_X4_fails l dC dI h cy _ σ t1_28 _ hF) k_X4_fails q1102 ⟨rfl, rfl⟩ ⟨Nat.le_of_ble_eq_true rfl, Nat.le_of_ble_eq_true rfl⟩ hl.1 rfl rfl (Nat.le_of_ble_eq_true rfl) dX4_hole_28 ⟨Nat.le_of_ble_eq_true rfl, Nat.le_of_ble_eq_true rfl⟩ (fun r28 u H1 locs hF hP1 hD1 hk1 hS => ?_)
    obtain ⟨s28, rfl⟩ : ∃ z, z = u := ⟨_, rfl⟩
    have hP := hP1
    have hD := hD1.weaken (fun _ q _ h => hFc q.1 h)
    generalize H1 = H at hP hS ⊢
    have hP : va_P (dC, dI) classes (wC h cy s28) H := hP
    have hD : va_D A (wC h cy s28) := hD
    refine lv_if_eq (tgt := 38) hx hb dX4_hole_31 (by decide) (fun cz => ?_) (fun cz => ?_)
    · have hF := hF.1 cz
      refine lv_aload_n hx hb dX4_hole_38 rfl (lv_at hl 0 rfl) ?_
      refine va_get (D := (dC, dI)) (ci := 4) (v := .ref (h 1)) (C := RX4) (T := TX4) (N := 19) hx hb hts in_X4 hown hK.1 hP 0 rfl rfl 0 (by decide) (hts _ q950) (fun _ h9 => h9) rfl dX4_hole_39 ?_
      refine lv_iload_n hx hb dX4_hole_42 rfl (lv_at hl 1 rfl) ?_
      have hI := hF.1
      have hF := hF.2
      refine va_iald hx hb hK.1 hP 1 0 rfl rfl hI dX4_hole_43 ?_
      exact W.iret (v := (s28.2.1 0) x1.toNatClampNeg) hx hb hr (fun t ht hW => ⟨⟨(s28.2.1 0) x1.toNatClampNeg, s28, rfl, hF, by rw [ht]; exact hP, hK.warm hW, hD⟩, hS.F ht⟩) hS.2.2 dX4_hole_44
    · have hF := hF.2 cz
      refine lv_iconst (v := 0) hx hb dX4_hole_34 (by decide) ?_
      refine lv_goto (tgt := 44) hx hb dX4_hole_35 (by decide) ?_
      exact W.iret (v := 0) hx hb hr (fun t ht hW => ⟨⟨0, s28, rfl, hF, by rw [ht]; exact hP, hK.warm hW, hD⟩, hS.F ht⟩) hS.2.2 dX4_hole_44
  refine lv_if_ne (tgt := 15) hx hb dX4_hole_8 (by decide) (fun cz => ?_) (fun cz => ?_)
  · have hF := hF.1 cz
    refine lv_aload_n hx hb dX4_hole_15 rfl (lv_at hl 0 rfl) ?_
    refine lv_iload_n hx hb dX4_hole_16 rfl (lv_at hl 1 rfl) ?_
    refine cpVi (q0 := 0) (As := [.int x1]) (rest := [.ref (h 0)]) ⟨hx, hb, hr, hml, hown, hts, hlocks⟩ hK hP rfl rfl (m_X4_isDrilled l dC dI h cy fu σ x1 _ hF) k_X4_isDrilled q1130 ⟨rfl, rfl⟩ ⟨Nat.le_of_ble_eq_true rfl, Nat.le_of_ble_eq_true rfl⟩ hl.1 rfl rfl (Nat.le_of_ble_eq_true rfl) dX4_hole_17 ⟨Nat.le_of_ble_eq_true rfl, Nat.le_of_ble_eq_true rfl⟩ (fun r17 hF => ?_)
    refine lv_if_eq (tgt := 27) hx hb dX4_hole_20 (by decide) (fun cz => ?_) (fun cz => ?_)
    · have hF := hF.1 cz
      refine lv_iconst (v := 2) hx hb dX4_hole_27 (by decide) ?_
      exact hJ28 2 hF _ _ hP hD hS _ (lv_sub hl [0, 1] rfl)
    · have hF := hF.2 cz
      refine lv_iconst (v := 0) hx hb dX4_hole_23 (by decide) ?_
      refine lv_goto (tgt := 28) hx hb dX4_hole_24 (by decide) ?_
      exact hJ28 0 hF _ _ hP hD hS _ (lv_sub hl [0, 1] rfl)
  · have hF := hF.2 cz
    refine lv_iconst (v := 1) hx hb dX4_hole_11 (by decide) ?_
    refine lv_goto (tgt := 28) hx hb dX4_hole_12 (by decide) ?_
    exact hJ28 1 hF _ _ hP hD hS _ (lv_sub hl [0, 1] rfl)
theorem dX4_holeAt_0 : decode cX4_holeAt 0 = .ok (.aload_n 0, 1) := by decide +kernel
theorem dX4_holeAt_1 : decode cX4_holeAt 1 = .ok (.iload_n 1, 1) := by decide +kernel
theorem dX4_holeAt_2 : decode cX4_holeAt 2 = .ok (.invokevirtual 117, 3) := by decide +kernel
theorem dX4_holeAt_5 : decode cX4_holeAt 5 = .ok (.ifCond .eq 12, 3) := by decide +kernel
theorem dX4_holeAt_8 : decode cX4_holeAt 8 = .ok (.aload_n 0, 1) := by decide +kernel
theorem dX4_holeAt_9 : decode cX4_holeAt 9 = .ok (.getfield 9, 3) := by decide +kernel
theorem dX4_holeAt_12 : decode cX4_holeAt 12 = .ok (.iload_n 1, 1) := by decide +kernel
theorem dX4_holeAt_13 : decode cX4_holeAt 13 = .ok (.iaload, 1) := by decide +kernel
theorem dX4_holeAt_14 : decode cX4_holeAt 14 = .ok (.goto 4, 3) := by decide +kernel
theorem dX4_holeAt_17 : decode cX4_holeAt 17 = .ok (.iconst (-1), 1) := by decide +kernel
theorem dX4_holeAt_18 : decode cX4_holeAt 18 = .ok (.ireturn, 1) := by decide +kernel
def wp_X4_holeAt (fu : Nat) (σ : SX) (x1 : Int32) (P : Int32 → Prop) : Prop := (wp_X4_isDrilled fu σ x1 (fun r2 => ((r2 = 0 → (P (-1))) ∧ (¬ r2 = 0 → (vp_in x1 25 ∧ (P ((σ.2.1 0) x1.toNatClampNeg)))))))
theorem k_X4_holeAt : KV RX4 yX4_holeAt cX4_holeAt 2 (some .int) 1 := ⟨q1180, qs31, q5, q1181, by decide +kernel⟩
set_option maxHeartbeats 4000000 in
set_option maxRecDepth 100000 in
theorem m_X4_holeAt (l : Launch) (dC : Nat → ClassId) (dI : Nat → Nat → Nat) (h : Nat → Nat) (cy : Nat → ClassId) (fu : Nat) (σ : SX) (x1 : Int32) (P : Int32 → Prop) (hF : wp_X4_holeAt fu σ x1 P) : Met l yX4_holeAt (ws_ yX4_holeAt cX4_holeAt 2 (some .int)) ({ frames := 1, cells := 0, slots := 0, locals := 23 } : Room) (va_Pc [.ref (h 0), .int x1] (fun U => va_P (dC, dI) classes (wC h cy σ) U.heap ∧ kwX dC dI cy U)) (vp_Si P) 0 0 (fun _ => False) := by
  refine Met.ofCx (own := RX4) (by decide) rfl (Nat.le_of_ble_eq_true rfl) ?_
  intro p e s m below meth c hC hv ls hl
  obtain ⟨hx, hb, hr, hml, hown, hts, hlocks⟩ := hC
  have hl : lv_has ls 2 [(0, .ref (h 0)), (1, .int x1)] := hl
  obtain ⟨hP, hK⟩ := hv
  unfold wp_X4_holeAt at hF
  refine lv_aload_n hx hb dX4_holeAt_0 rfl (lv_at hl 0 rfl) ?_
  refine lv_iload_n hx hb dX4_holeAt_1 rfl (lv_at hl 1 rfl) ?_
  refine cpVi (q0 := 0) (As := [.int x1]) (rest := []) ⟨hx, hb, hr, hml, hown, hts, hlocks⟩ hK hP rfl rfl (m_X4_isDrilled l dC dI h cy fu σ x1 _ hF) k_X4_isDrilled q1130 ⟨rfl, rfl⟩ ⟨Nat.le_of_ble_eq_true rfl, Nat.le_of_ble_eq_true rfl⟩ hl.1 rfl rfl (Nat.le_of_ble_eq_true rfl) dX4_holeAt_2 ⟨Nat.le_of_ble_eq_true rfl, Nat.le_of_ble_eq_true rfl⟩ (fun r2 hF => ?_)
  refine lv_if_eq (tgt := 17) hx hb dX4_holeAt_5 (by decide) (fun cz => ?_) (fun cz => ?_)
  · have hF := hF.1 cz
    refine lv_iconst (v := (-1)) hx hb dX4_holeAt_17 (by decide) ?_
    exact W.iret (v := (-1)) hx hb hr (fun t ht hW => ⟨(-1), rfl, hF, ht⟩) (fun q hq => absurd hq List.not_mem_nil) dX4_holeAt_18
  · have hF := hF.2 cz
    refine lv_aload_n hx hb dX4_holeAt_8 rfl (lv_at hl 0 rfl) ?_
    refine va_get (D := (dC, dI)) (ci := 4) (v := .ref (h 1)) (C := RX4) (T := TX4) (N := 19) hx hb hts in_X4 hown hK.1 hP 0 rfl rfl 0 (by decide) (hts _ q950) (fun _ h9 => h9) rfl dX4_holeAt_9 ?_
    refine lv_iload_n hx hb dX4_holeAt_12 rfl (lv_at hl 1 rfl) ?_
    have hI := hF.1
    have hF := hF.2
    refine va_iald hx hb hK.1 hP 1 0 rfl rfl hI dX4_holeAt_13 ?_
    refine lv_goto (tgt := 18) hx hb dX4_holeAt_14 (by decide) ?_
    exact W.iret (v := (σ.2.1 0) x1.toNatClampNeg) hx hb hr (fun t ht hW => ⟨(σ.2.1 0) x1.toNatClampNeg, rfl, hF, ht⟩) (fun q hq => absurd hq List.not_mem_nil) dX4_holeAt_18
theorem dX4_weightOf_0 : decode cX4_weightOf 0 = .ok (.iconst 0, 1) := by decide +kernel
theorem dX4_weightOf_1 : decode cX4_weightOf 1 = .ok (.istore_n 2, 1) := by decide +kernel
theorem dX4_weightOf_2 : decode cX4_weightOf 2 = .ok (.iconst 0, 1) := by decide +kernel
theorem dX4_weightOf_3 : decode cX4_weightOf 3 = .ok (.istore_n 3, 1) := by decide +kernel
theorem dX4_weightOf_4 : decode cX4_weightOf 4 = .ok (.iload_n 3, 1) := by decide +kernel
theorem dX4_weightOf_5 : decode cX4_weightOf 5 = .ok (.aload_n 0, 1) := by decide +kernel
theorem dX4_weightOf_6 : decode cX4_weightOf 6 = .ok (.getfield 64, 3) := by decide +kernel
theorem dX4_weightOf_9 : decode cX4_weightOf 9 = .ok (.if_icmp .ge 30, 3) := by decide +kernel
theorem dX4_weightOf_12 : decode cX4_weightOf 12 = .ok (.iload_n 2, 1) := by decide +kernel
theorem dX4_weightOf_13 : decode cX4_weightOf 13 = .ok (.iload_n 1, 1) := by decide +kernel
theorem dX4_weightOf_14 : decode cX4_weightOf 14 = .ok (.iload_n 3, 1) := by decide +kernel
theorem dX4_weightOf_15 : decode cX4_weightOf 15 = .ok (.invokestatic 150, 3) := by decide +kernel
theorem dX4_weightOf_18 : decode cX4_weightOf 18 = .ok (.ifCond .eq 12, 3) := by decide +kernel
theorem dX4_weightOf_21 : decode cX4_weightOf 21 = .ok (.aload_n 0, 1) := by decide +kernel
theorem dX4_weightOf_22 : decode cX4_weightOf 22 = .ok (.getfield 16, 3) := by decide +kernel
theorem dX4_weightOf_25 : decode cX4_weightOf 25 = .ok (.iload_n 3, 1) := by decide +kernel
theorem dX4_weightOf_26 : decode cX4_weightOf 26 = .ok (.iaload, 1) := by decide +kernel
theorem dX4_weightOf_27 : decode cX4_weightOf 27 = .ok (.goto 4, 3) := by decide +kernel
theorem dX4_weightOf_30 : decode cX4_weightOf 30 = .ok (.iconst 0, 1) := by decide +kernel
theorem dX4_weightOf_31 : decode cX4_weightOf 31 = .ok (.iadd, 1) := by decide +kernel
theorem dX4_weightOf_32 : decode cX4_weightOf 32 = .ok (.istore_n 2, 1) := by decide +kernel
theorem dX4_weightOf_33 : decode cX4_weightOf 33 = .ok (.iinc 3 1, 3) := by decide +kernel
theorem dX4_weightOf_36 : decode cX4_weightOf 36 = .ok (.goto (-32), 3) := by decide +kernel
theorem dX4_weightOf_39 : decode cX4_weightOf 39 = .ok (.iload_n 2, 1) := by decide +kernel
theorem dX4_weightOf_40 : decode cX4_weightOf 40 = .ok (.ireturn, 1) := by decide +kernel
def wp_X4_weightOf_J31 (rec4 : Int32 → Int32 → Prop) (v3_4 : Int32) (v2_4 : Int32) (t1_31 : Int32) : Prop := (rec4 (v3_4 + 1) (v2_4 + t1_31))
def wp_X4_weightOf_B4 (σ : SX) (x1 : Int32) (K4 : Int32 → Prop) (rec4 : Int32 → Int32 → Prop) (v3_4 : Int32) (v2_4 : Int32) : Prop := (((σ.1 0) ≤ v3_4 → (K4 v2_4)) ∧ (¬ (σ.1 0) ≤ v3_4 → (wp_X4_has x1 v3_4 (fun r15 => ((r15 = 0 → (wp_X4_weightOf_J31 rec4 v3_4 v2_4 0)) ∧ (¬ r15 = 0 → (vp_in v3_4 13 ∧ (wp_X4_weightOf_J31 rec4 v3_4 v2_4 ((σ.2.1 2) v3_4.toNatClampNeg)))))))))
def wp_X4_weightOf_L4 (σ : SX) (x1 : Int32) (K4 : Int32 → Prop) : Nat → Int32 → Int32 → Prop
  | 0, _, _ => False
  | nn + 1, v3_4, v2_4 => wp_X4_weightOf_B4 σ x1 K4 (wp_X4_weightOf_L4 σ x1 K4 nn) v3_4 v2_4
def wp_X4_weightOf (fu : Nat) (σ : SX) (x1 : Int32) (P : Int32 → Prop) : Prop := (wp_X4_weightOf_L4 σ x1 (fun (v2_39 : Int32) => (P v2_39)) fu 0 0)
theorem k_X4_weightOf : KV RX4 yX4_weightOf cX4_weightOf 4 (some .int) 1 := ⟨q1674, qs49, q5, q1675, by decide +kernel⟩
set_option maxHeartbeats 4000000 in
set_option maxRecDepth 100000 in
theorem m_X4_weightOf (l : Launch) (dC : Nat → ClassId) (dI : Nat → Nat → Nat) (h : Nat → Nat) (cy : Nat → ClassId) (fu : Nat) (σ : SX) (x1 : Int32) (P : Int32 → Prop) (hF : wp_X4_weightOf fu σ x1 P) : Met l yX4_weightOf (ws_ yX4_weightOf cX4_weightOf 4 (some .int)) ({ frames := 1, cells := 0, slots := 0, locals := 21 } : Room) (va_Pc [.ref (h 0), .int x1] (fun U => va_P (dC, dI) classes (wC h cy σ) U.heap ∧ kwX dC dI cy U)) (vp_Si P) 0 0 (fun _ => False) := by
  refine Met.ofCx (own := RX4) (by decide) rfl (Nat.le_of_ble_eq_true rfl) ?_
  intro p e s m below meth c hC hv ls hl
  obtain ⟨hx, hb, hr, hml, hown, hts, hlocks⟩ := hC
  have hl : lv_has ls 4 [(0, .ref (h 0)), (1, .int x1)] := hl
  obtain ⟨hP, hK⟩ := hv
  unfold wp_X4_weightOf at hF
  refine lv_iconst (v := 0) hx hb dX4_weightOf_0 (by decide) ?_
  refine lv_istore_n (lv' := [(2, .int 0), (0, .ref (h 0)), (1, .int x1)]) hx hb dX4_weightOf_1 rfl hl (by decide) rfl (fun ls hl => ?_)
  refine lv_iconst (v := 0) hx hb dX4_weightOf_2 (by decide) ?_
  refine lv_istore_n (lv' := [(3, .int 0), (2, .int 0), (0, .ref (h 0)), (1, .int x1)]) hx hb dX4_weightOf_3 rfl hl (by decide) rfl (fun ls hl => ?_)
  have hX4 : ∀ (v2_39 : Int32), (fun (v2_39 : Int32) => (P v2_39)) v2_39 → ∀ (ls : Array Slot), lv_has ls 4 [(2, .int v2_39)] → W p l e ({ frames := 1, cells := 0, slots := 0, locals := 21 } : Room) s m ([.ref (h 0), .int x1] : List Value).toArray below meth c s.heap [] 0 0 (MQ below (vp_Si P) ([.ref (h 0), .int x1] : List Value).toArray s 0 0 (fun _ => False)) (F0 m 39 ls []) := by
    intro v2_39 hF ls hl
    refine lv_iload_n hx hb dX4_weightOf_39 rfl (lv_at hl 0 rfl) ?_
    exact W.iret (v := v2_39) hx hb hr (fun t ht hW => ⟨v2_39, rfl, hF, ht⟩) (fun q hq => absurd hq List.not_mem_nil) dX4_weightOf_40
  have hL4 : ∀ (K4 : Int32 → Prop), (∀ (v2_39 : Int32), K4 v2_39 → ∀ (ls : Array Slot), lv_has ls 4 [(2, .int v2_39)] → W p l e ({ frames := 1, cells := 0, slots := 0, locals := 21 } : Room) s m ([.ref (h 0), .int x1] : List Value).toArray below meth c s.heap [] 0 0 (MQ below (vp_Si P) ([.ref (h 0), .int x1] : List Value).toArray s 0 0 (fun _ => False)) (F0 m 39 ls [])) → ∀ (nn : Nat), ∀ (v3_4 : Int32), ∀ (v2_4 : Int32), wp_X4_weightOf_L4 σ x1 K4 nn v3_4 v2_4 → ∀ (ls : Array Slot), lv_has ls 4 [(3, .int v3_4), (2, .int v2_4), (0, .ref (h 0)), (1, .int x1)] → W p l e ({ frames := 1, cells := 0, slots := 0, locals := 21 } : Room) s m ([.ref (h 0), .int x1] : List Value).toArray below meth c s.heap [] 0 0 (MQ below (vp_Si P) ([.ref (h 0), .int x1] : List Value).toArray s 0 0 (fun _ => False)) (F0 m 4 ls []) := by
    intro K4 hX4 nn
    induction nn with
    | zero =>
      intro v3_4 v2_4 hF
      exact hF.elim
    | succ nn ih =>
      intro v3_4 v2_4 hF ls hl
      obtain ⟨rec4, hrec⟩ : ∃ z : Int32 → Int32 → Prop, z = wp_X4_weightOf_L4 σ x1 K4 nn := ⟨_, rfl⟩
      have hF : wp_X4_weightOf_B4 σ x1 K4 rec4 v3_4 v2_4 := by rw [hrec]; exact hF
      rw [← hrec] at ih
      clear hrec
      unfold wp_X4_weightOf_B4 at hF
      refine lv_iload_n hx hb dX4_weightOf_4 rfl (lv_at hl 0 rfl) ?_
      refine lv_aload_n hx hb dX4_weightOf_5 rfl (lv_at hl 2 rfl) ?_
      refine va_get (D := (dC, dI)) (ci := 4) (v := .int (σ.1 0)) (C := RX4) (T := TX4) (N := 19) hx hb hts in_X4 hown hK.1 hP 0 rfl rfl 13 (by decide) (hts _ q963) (fun _ h9 => h9) rfl dX4_weightOf_6 ?_
      refine lv_icmp_ge (tgt := 39) hx hb dX4_weightOf_9 (by decide) (fun cz => ?_) (fun cz => ?_)
      · have hF := hF.1 cz
        exact hX4 v2_4 hF _ (lv_sub hl [1] rfl)
      · have hF := hF.2 cz
        refine lv_iload_n hx hb dX4_weightOf_12 rfl (lv_at hl 1 rfl) ?_
        refine lv_iload_n hx hb dX4_weightOf_13 rfl (lv_at hl 3 rfl) ?_
        refine lv_iload_n hx hb dX4_weightOf_14 rfl (lv_at hl 0 rfl) ?_
        refine cpSi (As := [.int x1, .int v3_4]) (rest := [.int v2_4]) ⟨hx, hb, hr, hml, hown, hts, hlocks⟩ (m_X4_has l x1 v3_4 _ hF) k_X4_has q1194 ⟨rfl, rfl⟩ ⟨Nat.le_of_ble_eq_true rfl, Nat.le_of_ble_eq_true rfl⟩ hl.1 rfl rfl (Nat.le_of_ble_eq_true rfl) dX4_weightOf_15 ⟨Nat.le_of_ble_eq_true rfl, Nat.le_of_ble_eq_true rfl⟩ (fun r15 hF => ?_)
        have hJ31 : ∀ (t1_31 : Int32), wp_X4_weightOf_J31 rec4 v3_4 v2_4 t1_31 → ∀ (ls : Array Slot), lv_has ls 4 [(3, .int v3_4), (0, .ref (h 0)), (1, .int x1)] → W p l e ({ frames := 1, cells := 0, slots := 0, locals := 21 } : Room) s m ([.ref (h 0), .int x1] : List Value).toArray below meth c s.heap [] 0 0 (MQ below (vp_Si P) ([.ref (h 0), .int x1] : List Value).toArray s 0 0 (fun _ => False)) (F0 m 31 ls [.int t1_31, .int v2_4]) := by
          intro t1_31 hF ls hl
          unfold wp_X4_weightOf_J31 at hF
          refine lv_iadd hx hb dX4_weightOf_31 ?_
          refine lv_istore_n (lv' := [(2, .int (v2_4 + t1_31)), (3, .int v3_4), (0, .ref (h 0)), (1, .int x1)]) hx hb dX4_weightOf_32 rfl hl (by decide) rfl (fun ls hl => ?_)
          refine lv_iinc (v := v3_4 + 1) (lv' := [(3, .int (v3_4 + 1)), (2, .int (v2_4 + t1_31)), (0, .ref (h 0)), (1, .int x1)]) hx hb dX4_weightOf_33 hl (k := 1) rfl (by rfl) (by decide) rfl (fun ls hl => ?_)
          refine lv_goto (tgt := 4) hx hb dX4_weightOf_36 (by decide) ?_
          exact ih (v3_4 + 1) (v2_4 + t1_31) hF _ (lv_sub hl [0, 1, 2, 3] rfl)
        refine lv_if_eq (tgt := 30) hx hb dX4_weightOf_18 (by decide) (fun cz => ?_) (fun cz => ?_)
        · have hF := hF.1 cz
          refine lv_iconst (v := 0) hx hb dX4_weightOf_30 (by decide) ?_
          exact hJ31 0 hF _ (lv_sub hl [0, 2, 3] rfl)
        · have hF := hF.2 cz
          refine lv_aload_n hx hb dX4_weightOf_21 rfl (lv_at hl 2 rfl) ?_
          refine va_get (D := (dC, dI)) (ci := 4) (v := .ref (h 3)) (C := RX4) (T := TX4) (N := 19) hx hb hts in_X4 hown hK.1 hP 0 rfl rfl 2 (by decide) (hts _ q952) (fun _ h9 => h9) rfl dX4_weightOf_22 ?_
          refine lv_iload_n hx hb dX4_weightOf_25 rfl (lv_at hl 0 rfl) ?_
          have hI := hF.1
          have hF := hF.2
          refine va_iald hx hb hK.1 hP 3 0 rfl rfl hI dX4_weightOf_26 ?_
          refine lv_goto (tgt := 31) hx hb dX4_weightOf_27 (by decide) ?_
          exact hJ31 ((σ.2.1 2) v3_4.toNatClampNeg) hF _ (lv_sub hl [0, 2, 3] rfl)
  exact hL4 _ hX4 fu 0 0 hF _ (lv_sub hl [0, 1, 2, 3] rfl)
theorem dX4_others_0 : decode cX4_others 0 = .ok (.iconst 0, 1) := by decide +kernel
theorem dX4_others_1 : decode cX4_others 1 = .ok (.istore 4, 2) := by decide +kernel
theorem dX4_others_3 : decode cX4_others 3 = .ok (.iconst 0, 1) := by decide +kernel
theorem dX4_others_4 : decode cX4_others 4 = .ok (.istore 5, 2) := by decide +kernel
theorem dX4_others_6 : decode cX4_others 6 = .ok (.iload 5, 2) := by decide +kernel
theorem dX4_others_8 : decode cX4_others 8 = .ok (.aload_n 0, 1) := by decide +kernel
theorem dX4_others_9 : decode cX4_others 9 = .ok (.getfield 64, 3) := by decide +kernel
theorem dX4_others_12 : decode cX4_others 12 = .ok (.if_icmp .ge 39, 3) := by decide +kernel
theorem dX4_others_15 : decode cX4_others 15 = .ok (.iload 4, 2) := by decide +kernel
theorem dX4_others_17 : decode cX4_others 17 = .ok (.iload_n 1, 1) := by decide +kernel
theorem dX4_others_18 : decode cX4_others 18 = .ok (.iload 5, 2) := by decide +kernel
theorem dX4_others_20 : decode cX4_others 20 = .ok (.invokestatic 150, 3) := by decide +kernel
theorem dX4_others_23 : decode cX4_others 23 = .ok (.ifCond .eq 18, 3) := by decide +kernel
theorem dX4_others_26 : decode cX4_others 26 = .ok (.aload_n 0, 1) := by decide +kernel
theorem dX4_others_27 : decode cX4_others 27 = .ok (.iload 5, 2) := by decide +kernel
theorem dX4_others_29 : decode cX4_others 29 = .ok (.iload_n 2, 1) := by decide +kernel
theorem dX4_others_30 : decode cX4_others 30 = .ok (.invokevirtual 237, 3) := by decide +kernel
theorem dX4_others_33 : decode cX4_others 33 = .ok (.iload_n 3, 1) := by decide +kernel
theorem dX4_others_34 : decode cX4_others 34 = .ok (.if_icmp .eq 7, 3) := by decide +kernel
theorem dX4_others_37 : decode cX4_others 37 = .ok (.iconst 1, 1) := by decide +kernel
theorem dX4_others_38 : decode cX4_others 38 = .ok (.goto 4, 3) := by decide +kernel
theorem dX4_others_41 : decode cX4_others 41 = .ok (.iconst 0, 1) := by decide +kernel
theorem dX4_others_42 : decode cX4_others 42 = .ok (.iadd, 1) := by decide +kernel
theorem dX4_others_43 : decode cX4_others 43 = .ok (.istore 4, 2) := by decide +kernel
theorem dX4_others_45 : decode cX4_others 45 = .ok (.iinc 5 1, 3) := by decide +kernel
theorem dX4_others_48 : decode cX4_others 48 = .ok (.goto (-42), 3) := by decide +kernel
theorem dX4_others_51 : decode cX4_others 51 = .ok (.iload 4, 2) := by decide +kernel
theorem dX4_others_53 : decode cX4_others 53 = .ok (.ireturn, 1) := by decide +kernel
def wp_X4_others_J42 (rec6 : Int32 → Int32 → Prop) (v5_6 : Int32) (v4_6 : Int32) (t1_42 : Int32) : Prop := (rec6 (v5_6 + 1) (v4_6 + t1_42))
def wp_X4_others_J41 (rec6 : Int32 → Int32 → Prop) (v5_6 : Int32) (v4_6 : Int32) : Prop := (wp_X4_others_J42 rec6 v5_6 v4_6 0)
def wp_X4_others_B6 (σ : SX) (x1 : Int32) (x2 : Int32) (x3 : Int32) (K6 : Int32 → Prop) (rec6 : Int32 → Int32 → Prop) (v5_6 : Int32) (v4_6 : Int32) : Prop := (((σ.1 0) ≤ v5_6 → (K6 v4_6)) ∧ (¬ (σ.1 0) ≤ v5_6 → (wp_X4_has x1 v5_6 (fun r20 => ((r20 = 0 → wp_X4_others_J41 rec6 v5_6 v4_6) ∧ (¬ r20 = 0 → (wp_X4_colourOf σ v5_6 x2 (fun r30 => ((r30 = x3 → wp_X4_others_J41 rec6 v5_6 v4_6) ∧ (¬ r30 = x3 → (wp_X4_others_J42 rec6 v5_6 v4_6 1)))))))))))
def wp_X4_others_L6 (σ : SX) (x1 : Int32) (x2 : Int32) (x3 : Int32) (K6 : Int32 → Prop) : Nat → Int32 → Int32 → Prop
  | 0, _, _ => False
  | nn + 1, v5_6, v4_6 => wp_X4_others_B6 σ x1 x2 x3 K6 (wp_X4_others_L6 σ x1 x2 x3 K6 nn) v5_6 v4_6
def wp_X4_others (fu : Nat) (σ : SX) (x1 : Int32) (x2 : Int32) (x3 : Int32) (P : Int32 → Prop) : Prop := (wp_X4_others_L6 σ x1 x2 x3 (fun (v4_51 : Int32) => (P v4_51)) fu 0 0)
theorem k_X4_others : KV RX4 yX4_others cX4_others 6 (some .int) 3 := ⟨q1714, qs54, q5, q1715, by decide +kernel⟩
set_option maxHeartbeats 4000000 in
set_option maxRecDepth 100000 in
theorem m_X4_others (l : Launch) (dC : Nat → ClassId) (dI : Nat → Nat → Nat) (h : Nat → Nat) (cy : Nat → ClassId) (fu : Nat) (σ : SX) (x1 : Int32) (x2 : Int32) (x3 : Int32) (P : Int32 → Prop) (hF : wp_X4_others fu σ x1 x2 x3 P) : Met l yX4_others (ws_ yX4_others cX4_others 6 (some .int)) ({ frames := 1, cells := 0, slots := 0, locals := 22 } : Room) (va_Pc [.ref (h 0), .int x1, .int x2, .int x3] (fun U => va_P (dC, dI) classes (wC h cy σ) U.heap ∧ kwX dC dI cy U)) (vp_Si P) 0 0 (fun _ => False) := by
  refine Met.ofCx (own := RX4) (by decide) rfl (Nat.le_of_ble_eq_true rfl) ?_
  intro p e s m below meth c hC hv ls hl
  obtain ⟨hx, hb, hr, hml, hown, hts, hlocks⟩ := hC
  have hl : lv_has ls 6 [(0, .ref (h 0)), (1, .int x1), (2, .int x2), (3, .int x3)] := hl
  obtain ⟨hP, hK⟩ := hv
  unfold wp_X4_others at hF
  refine lv_iconst (v := 0) hx hb dX4_others_0 (by decide) ?_
  refine lv_istore (lv' := [(4, .int 0), (0, .ref (h 0)), (1, .int x1), (2, .int x2), (3, .int x3)]) hx hb dX4_others_1 hl (by decide) rfl (fun ls hl => ?_)
  refine lv_iconst (v := 0) hx hb dX4_others_3 (by decide) ?_
  refine lv_istore (lv' := [(5, .int 0), (4, .int 0), (0, .ref (h 0)), (1, .int x1), (2, .int x2), (3, .int x3)]) hx hb dX4_others_4 hl (by decide) rfl (fun ls hl => ?_)
  have hX6 : ∀ (v4_51 : Int32), (fun (v4_51 : Int32) => (P v4_51)) v4_51 → ∀ (ls : Array Slot), lv_has ls 6 [(4, .int v4_51)] → W p l e ({ frames := 1, cells := 0, slots := 0, locals := 22 } : Room) s m ([.ref (h 0), .int x1, .int x2, .int x3] : List Value).toArray below meth c s.heap [] 0 0 (MQ below (vp_Si P) ([.ref (h 0), .int x1, .int x2, .int x3] : List Value).toArray s 0 0 (fun _ => False)) (F0 m 51 ls []) := by
    intro v4_51 hF ls hl
    refine lv_iload hx hb dX4_others_51 (lv_at hl 0 rfl) ?_
    exact W.iret (v := v4_51) hx hb hr (fun t ht hW => ⟨v4_51, rfl, hF, ht⟩) (fun q hq => absurd hq List.not_mem_nil) dX4_others_53
  have hL6 : ∀ (K6 : Int32 → Prop), (∀ (v4_51 : Int32), K6 v4_51 → ∀ (ls : Array Slot), lv_has ls 6 [(4, .int v4_51)] → W p l e ({ frames := 1, cells := 0, slots := 0, locals := 22 } : Room) s m ([.ref (h 0), .int x1, .int x2, .int x3] : List Value).toArray below meth c s.heap [] 0 0 (MQ below (vp_Si P) ([.ref (h 0), .int x1, .int x2, .int x3] : List Value).toArray s 0 0 (fun _ => False)) (F0 m 51 ls [])) → ∀ (nn : Nat), ∀ (v5_6 : Int32), ∀ (v4_6 : Int32), wp_X4_others_L6 σ x1 x2 x3 K6 nn v5_6 v4_6 → ∀ (ls : Array Slot), lv_has ls 6 [(5, .int v5_6), (4, .int v4_6), (0, .ref (h 0)), (1, .int x1), (2, .int x2), (3, .int x3)] → W p l e ({ frames := 1, cells := 0, slots := 0, locals := 22 } : Room) s m ([.ref (h 0), .int x1, .int x2, .int x3] : List Value).toArray below meth c s.heap [] 0 0 (MQ below (vp_Si P) ([.ref (h 0), .int x1, .int x2, .int x3] : List Value).toArray s 0 0 (fun _ => False)) (F0 m 6 ls []) := by
    intro K6 hX6 nn
    induction nn with
    | zero =>
      intro v5_6 v4_6 hF
      exact hF.elim
    | succ nn ih =>
      intro v5_6 v4_6 hF ls hl
      obtain ⟨rec6, hrec⟩ : ∃ z : Int32 → Int32 → Prop, z = wp_X4_others_L6 σ x1 x2 x3 K6 nn := ⟨_, rfl⟩
      have hF : wp_X4_others_B6 σ x1 x2 x3 K6 rec6 v5_6 v4_6 := by rw [hrec]; exact hF
      rw [← hrec] at ih
      clear hrec
      unfold wp_X4_others_B6 at hF
      refine lv_iload hx hb dX4_others_6 (lv_at hl 0 rfl) ?_
      refine lv_aload_n hx hb dX4_others_8 rfl (lv_at hl 2 rfl) ?_
      refine va_get (D := (dC, dI)) (ci := 4) (v := .int (σ.1 0)) (C := RX4) (T := TX4) (N := 19) hx hb hts in_X4 hown hK.1 hP 0 rfl rfl 13 (by decide) (hts _ q963) (fun _ h9 => h9) rfl dX4_others_9 ?_
      refine lv_icmp_ge (tgt := 51) hx hb dX4_others_12 (by decide) (fun cz => ?_) (fun cz => ?_)
      · have hF := hF.1 cz
        exact hX6 v4_6 hF _ (lv_sub hl [1] rfl)
      · have hF := hF.2 cz
        refine lv_iload hx hb dX4_others_15 (lv_at hl 1 rfl) ?_
        refine lv_iload_n hx hb dX4_others_17 rfl (lv_at hl 3 rfl) ?_
        refine lv_iload hx hb dX4_others_18 (lv_at hl 0 rfl) ?_
        refine cpSi (As := [.int x1, .int v5_6]) (rest := [.int v4_6]) ⟨hx, hb, hr, hml, hown, hts, hlocks⟩ (m_X4_has l x1 v5_6 _ hF) k_X4_has q1194 ⟨rfl, rfl⟩ ⟨Nat.le_of_ble_eq_true rfl, Nat.le_of_ble_eq_true rfl⟩ hl.1 rfl rfl (Nat.le_of_ble_eq_true rfl) dX4_others_20 ⟨Nat.le_of_ble_eq_true rfl, Nat.le_of_ble_eq_true rfl⟩ (fun r20 hF => ?_)
        have hJ42 : ∀ (t1_42 : Int32), wp_X4_others_J42 rec6 v5_6 v4_6 t1_42 → ∀ (ls : Array Slot), lv_has ls 6 [(5, .int v5_6), (0, .ref (h 0)), (1, .int x1), (2, .int x2), (3, .int x3)] → W p l e ({ frames := 1, cells := 0, slots := 0, locals := 22 } : Room) s m ([.ref (h 0), .int x1, .int x2, .int x3] : List Value).toArray below meth c s.heap [] 0 0 (MQ below (vp_Si P) ([.ref (h 0), .int x1, .int x2, .int x3] : List Value).toArray s 0 0 (fun _ => False)) (F0 m 42 ls [.int t1_42, .int v4_6]) := by
          intro t1_42 hF ls hl
          unfold wp_X4_others_J42 at hF
          refine lv_iadd hx hb dX4_others_42 ?_
          refine lv_istore (lv' := [(4, .int (v4_6 + t1_42)), (5, .int v5_6), (0, .ref (h 0)), (1, .int x1), (2, .int x2), (3, .int x3)]) hx hb dX4_others_43 hl (by decide) rfl (fun ls hl => ?_)
          refine lv_iinc (v := v5_6 + 1) (lv' := [(5, .int (v5_6 + 1)), (4, .int (v4_6 + t1_42)), (0, .ref (h 0)), (1, .int x1), (2, .int x2), (3, .int x3)]) hx hb dX4_others_45 hl (k := 1) rfl (by rfl) (by decide) rfl (fun ls hl => ?_)
          refine lv_goto (tgt := 6) hx hb dX4_others_48 (by decide) ?_
          exact ih (v5_6 + 1) (v4_6 + t1_42) hF _ (lv_sub hl [0, 1, 2, 3, 4, 5] rfl)
        have hJ41 : wp_X4_others_J41 rec6 v5_6 v4_6 → ∀ (ls : Array Slot), lv_has ls 6 [(5, .int v5_6), (0, .ref (h 0)), (1, .int x1), (2, .int x2), (3, .int x3)] → W p l e ({ frames := 1, cells := 0, slots := 0, locals := 22 } : Room) s m ([.ref (h 0), .int x1, .int x2, .int x3] : List Value).toArray below meth c s.heap [] 0 0 (MQ below (vp_Si P) ([.ref (h 0), .int x1, .int x2, .int x3] : List Value).toArray s 0 0 (fun _ => False)) (F0 m 41 ls [.int v4_6]) := by
          intro hF ls hl
          unfold wp_X4_others_J41 at hF
          refine lv_iconst (v := 0) hx hb dX4_others_41 (by decide) ?_
          exact hJ42 0 hF _ (lv_sub hl [0, 1, 2, 3, 4] rfl)
        refine lv_if_eq (tgt := 41) hx hb dX4_others_23 (by decide) (fun cz => ?_) (fun cz => ?_)
        · have hF := hF.1 cz
          exact hJ41 hF _ (lv_sub hl [0, 2, 3, 4, 5] rfl)
        · have hF := hF.2 cz
          refine lv_aload_n hx hb dX4_others_26 rfl (lv_at hl 2 rfl) ?_
          refine lv_iload hx hb dX4_others_27 (lv_at hl 0 rfl) ?_
          refine lv_iload_n hx hb dX4_others_29 rfl (lv_at hl 4 rfl) ?_
          refine cpVi (q0 := 0) (As := [.int v5_6, .int x2]) (rest := [.int v4_6]) ⟨hx, hb, hr, hml, hown, hts, hlocks⟩ hK hP rfl rfl (m_X4_colourOf l dC dI h cy σ v5_6 x2 _ hF) k_X4_colourOf q1696 ⟨rfl, rfl⟩ ⟨Nat.le_of_ble_eq_true rfl, Nat.le_of_ble_eq_true rfl⟩ hl.1 rfl rfl (Nat.le_of_ble_eq_true rfl) dX4_others_30 ⟨Nat.le_of_ble_eq_true rfl, Nat.le_of_ble_eq_true rfl⟩ (fun r30 hF => ?_)
          refine lv_iload_n hx hb dX4_others_33 rfl (lv_at hl 5 rfl) ?_
          refine lv_icmp_eq (tgt := 41) hx hb dX4_others_34 (by decide) (fun cz => ?_) (fun cz => ?_)
          · have hF := hF.1 cz
            exact hJ41 hF _ (lv_sub hl [0, 2, 3, 4, 5] rfl)
          · have hF := hF.2 cz
            refine lv_iconst (v := 1) hx hb dX4_others_37 (by decide) ?_
            refine lv_goto (tgt := 42) hx hb dX4_others_38 (by decide) ?_
            exact hJ42 1 hF _ (lv_sub hl [0, 2, 3, 4, 5] rfl)
  exact hL6 _ hX6 fu 0 0 hF _ (lv_sub hl [0, 1, 2, 3, 4, 5] rfl)
theorem dX4_isBarred_0 : decode cX4_isBarred 0 = .ok (.aload_n 0, 1) := by decide +kernel
theorem dX4_isBarred_1 : decode cX4_isBarred 1 = .ok (.iconst 0, 1) := by decide +kernel
theorem dX4_isBarred_2 : decode cX4_isBarred 2 = .ok (.putfield 60, 3) := by decide +kernel
theorem dX4_isBarred_5 : decode cX4_isBarred 5 = .ok (.iload_n 1, 1) := by decide +kernel
theorem dX4_isBarred_6 : decode cX4_isBarred 6 = .ok (.ifCond .eq 36, 3) := by decide +kernel
theorem dX4_isBarred_9 : decode cX4_isBarred 9 = .ok (.aload_n 0, 1) := by decide +kernel
theorem dX4_isBarred_10 : decode cX4_isBarred 10 = .ok (.invokevirtual 234, 3) := by decide +kernel
theorem dX4_isBarred_13 : decode cX4_isBarred 13 = .ok (.iconst (-1), 1) := by decide +kernel
theorem dX4_isBarred_14 : decode cX4_isBarred 14 = .ok (.if_icmp .ne 26, 3) := by decide +kernel
theorem dX4_isBarred_17 : decode cX4_isBarred 17 = .ok (.aload_n 0, 1) := by decide +kernel
theorem dX4_isBarred_18 : decode cX4_isBarred 18 = .ok (.aload_n 0, 1) := by decide +kernel
theorem dX4_isBarred_19 : decode cX4_isBarred 19 = .ok (.getfield 114, 3) := by decide +kernel
theorem dX4_isBarred_22 : decode cX4_isBarred 22 = .ok (.invokevirtual 228, 3) := by decide +kernel
theorem dX4_isBarred_25 : decode cX4_isBarred 25 = .ok (.aload_n 0, 1) := by decide +kernel
theorem dX4_isBarred_26 : decode cX4_isBarred 26 = .ok (.aload_n 0, 1) := by decide +kernel
theorem dX4_isBarred_27 : decode cX4_isBarred 27 = .ok (.getfield 120, 3) := by decide +kernel
theorem dX4_isBarred_30 : decode cX4_isBarred 30 = .ok (.invokevirtual 228, 3) := by decide +kernel
theorem dX4_isBarred_33 : decode cX4_isBarred 33 = .ok (.if_icmp .le 7, 3) := by decide +kernel
theorem dX4_isBarred_36 : decode cX4_isBarred 36 = .ok (.iconst 1, 1) := by decide +kernel
theorem dX4_isBarred_37 : decode cX4_isBarred 37 = .ok (.goto 4, 3) := by decide +kernel
theorem dX4_isBarred_40 : decode cX4_isBarred 40 = .ok (.iconst 0, 1) := by decide +kernel
theorem dX4_isBarred_41 : decode cX4_isBarred 41 = .ok (.ireturn, 1) := by decide +kernel
theorem dX4_isBarred_42 : decode cX4_isBarred 42 = .ok (.iconst 0, 1) := by decide +kernel
theorem dX4_isBarred_43 : decode cX4_isBarred 43 = .ok (.istore_n 2, 1) := by decide +kernel
theorem dX4_isBarred_44 : decode cX4_isBarred 44 = .ok (.iconst 0, 1) := by decide +kernel
theorem dX4_isBarred_45 : decode cX4_isBarred 45 = .ok (.istore_n 3, 1) := by decide +kernel
theorem dX4_isBarred_46 : decode cX4_isBarred 46 = .ok (.iload_n 3, 1) := by decide +kernel
theorem dX4_isBarred_47 : decode cX4_isBarred 47 = .ok (.iconst 2, 1) := by decide +kernel
theorem dX4_isBarred_48 : decode cX4_isBarred 48 = .ok (.if_icmp .ge 69, 3) := by decide +kernel
theorem dX4_isBarred_51 : decode cX4_isBarred 51 = .ok (.iconst 0, 1) := by decide +kernel
theorem dX4_isBarred_52 : decode cX4_isBarred 52 = .ok (.istore 4, 2) := by decide +kernel
theorem dX4_isBarred_54 : decode cX4_isBarred 54 = .ok (.iload 4, 2) := by decide +kernel
theorem dX4_isBarred_56 : decode cX4_isBarred 56 = .ok (.iconst 3, 1) := by decide +kernel
theorem dX4_isBarred_57 : decode cX4_isBarred 57 = .ok (.if_icmp .ge 54, 3) := by decide +kernel
theorem dX4_isBarred_60 : decode cX4_isBarred 60 = .ok (.iload_n 2, 1) := by decide +kernel
theorem dX4_isBarred_61 : decode cX4_isBarred 61 = .ok (.aload_n 0, 1) := by decide +kernel
theorem dX4_isBarred_62 : decode cX4_isBarred 62 = .ok (.iload_n 3, 1) := by decide +kernel
theorem dX4_isBarred_63 : decode cX4_isBarred 63 = .ok (.invokevirtual 240, 3) := by decide +kernel
theorem dX4_isBarred_66 : decode cX4_isBarred 66 = .ok (.ifCond .eq 36, 3) := by decide +kernel
theorem dX4_isBarred_69 : decode cX4_isBarred 69 = .ok (.aload_n 0, 1) := by decide +kernel
theorem dX4_isBarred_70 : decode cX4_isBarred 70 = .ok (.aload_n 0, 1) := by decide +kernel
theorem dX4_isBarred_71 : decode cX4_isBarred 71 = .ok (.getfield 120, 3) := by decide +kernel
theorem dX4_isBarred_74 : decode cX4_isBarred 74 = .ok (.iload_n 3, 1) := by decide +kernel
theorem dX4_isBarred_75 : decode cX4_isBarred 75 = .ok (.iload 4, 2) := by decide +kernel
theorem dX4_isBarred_77 : decode cX4_isBarred 77 = .ok (.invokevirtual 243, 3) := by decide +kernel
theorem dX4_isBarred_80 : decode cX4_isBarred 80 = .ok (.iconst 2, 1) := by decide +kernel
theorem dX4_isBarred_81 : decode cX4_isBarred 81 = .ok (.irem, 1) := by decide +kernel
theorem dX4_isBarred_82 : decode cX4_isBarred 82 = .ok (.aload_n 0, 1) := by decide +kernel
theorem dX4_isBarred_83 : decode cX4_isBarred 83 = .ok (.aload_n 0, 1) := by decide +kernel
theorem dX4_isBarred_84 : decode cX4_isBarred 84 = .ok (.getfield 114, 3) := by decide +kernel
theorem dX4_isBarred_87 : decode cX4_isBarred 87 = .ok (.iload_n 3, 1) := by decide +kernel
theorem dX4_isBarred_88 : decode cX4_isBarred 88 = .ok (.iload 4, 2) := by decide +kernel
theorem dX4_isBarred_90 : decode cX4_isBarred 90 = .ok (.invokevirtual 243, 3) := by decide +kernel
theorem dX4_isBarred_93 : decode cX4_isBarred 93 = .ok (.iconst 2, 1) := by decide +kernel
theorem dX4_isBarred_94 : decode cX4_isBarred 94 = .ok (.irem, 1) := by decide +kernel
theorem dX4_isBarred_95 : decode cX4_isBarred 95 = .ok (.if_icmp .eq 7, 3) := by decide +kernel
theorem dX4_isBarred_98 : decode cX4_isBarred 98 = .ok (.iconst 1, 1) := by decide +kernel
theorem dX4_isBarred_99 : decode cX4_isBarred 99 = .ok (.goto 4, 3) := by decide +kernel
theorem dX4_isBarred_102 : decode cX4_isBarred 102 = .ok (.iconst 0, 1) := by decide +kernel
theorem dX4_isBarred_103 : decode cX4_isBarred 103 = .ok (.ior, 1) := by decide +kernel
theorem dX4_isBarred_104 : decode cX4_isBarred 104 = .ok (.istore_n 2, 1) := by decide +kernel
theorem dX4_isBarred_105 : decode cX4_isBarred 105 = .ok (.iinc 4 1, 3) := by decide +kernel
theorem dX4_isBarred_108 : decode cX4_isBarred 108 = .ok (.goto (-54), 3) := by decide +kernel
theorem dX4_isBarred_111 : decode cX4_isBarred 111 = .ok (.iinc 3 1, 3) := by decide +kernel
theorem dX4_isBarred_114 : decode cX4_isBarred 114 = .ok (.goto (-68), 3) := by decide +kernel
theorem dX4_isBarred_117 : decode cX4_isBarred 117 = .ok (.iload_n 2, 1) := by decide +kernel
theorem dX4_isBarred_118 : decode cX4_isBarred 118 = .ok (.ireturn, 1) := by decide +kernel
def wp_X4_isBarred_J103 (rec54 : Int32 → Int32 → Prop) (v4_54 : Int32) (v2_54 : Int32) (t1_103 : Int32) : Prop := (rec54 (v4_54 + 1) (v2_54 ||| t1_103))
def wp_X4_isBarred_J102 (rec54 : Int32 → Int32 → Prop) (v4_54 : Int32) (v2_54 : Int32) : Prop := (wp_X4_isBarred_J103 rec54 v4_54 v2_54 0)
def wp_X4_isBarred_B54 (fu : Nat) (σ : SX) (v3_46 : Int32) (K54 : Int32 → Prop) (rec54 : Int32 → Int32 → Prop) (v4_54 : Int32) (v2_54 : Int32) : Prop := ((3 ≤ v4_54 → (K54 v2_54)) ∧ (¬ 3 ≤ v4_54 → (wp_X4_fits fu (sI σ 5 0) v3_46 (fun r63 => ((r63 = 0 → wp_X4_isBarred_J102 rec54 v4_54 v2_54) ∧ (¬ r63 = 0 → (wp_X4_others fu (sI σ 5 0) (σ.1 2) v3_46 v4_54 (fun r77 => (wp_X4_others fu (sI σ 5 0) (σ.1 3) v3_46 v4_54 (fun r90 => (((r77 - r77 / 2 * 2) = (r90 - r90 / 2 * 2) → wp_X4_isBarred_J102 rec54 v4_54 v2_54) ∧ (¬ (r77 - r77 / 2 * 2) = (r90 - r90 / 2 * 2) → (wp_X4_isBarred_J103 rec54 v4_54 v2_54 1)))))))))))))
def wp_X4_isBarred_L54 (fu : Nat) (σ : SX) (v3_46 : Int32) (K54 : Int32 → Prop) : Nat → Int32 → Int32 → Prop
  | 0, _, _ => False
  | nn + 1, v4_54, v2_54 => wp_X4_isBarred_B54 fu σ v3_46 K54 (wp_X4_isBarred_L54 fu σ v3_46 K54 nn) v4_54 v2_54
def wp_X4_isBarred_B46 (fu : Nat) (σ : SX) (K46 : Int32 → Prop) (rec46 : Int32 → Int32 → Prop) (v3_46 : Int32) (v2_46 : Int32) : Prop := ((2 ≤ v3_46 → (K46 v2_46)) ∧ (¬ 2 ≤ v3_46 → (wp_X4_isBarred_L54 fu σ v3_46 (fun (v2_111 : Int32) => (rec46 (v3_46 + 1) v2_111)) fu 0 v2_46)))
def wp_X4_isBarred_L46 (fu : Nat) (σ : SX) (K46 : Int32 → Prop) : Nat → Int32 → Int32 → Prop
  | 0, _, _ => False
  | nn + 1, v3_46, v2_46 => wp_X4_isBarred_B46 fu σ K46 (wp_X4_isBarred_L46 fu σ K46 nn) v3_46 v2_46
def wp_X4_isBarred (fu : Nat) (σ : SX) (x1 : Int32) (P : Int32 → SX → Prop) : Prop := ((x1 = 0 → (wp_X4_isBarred_L46 fu σ (fun (v2_117 : Int32) => (narrow .boolean (.int v2_117) = .int v2_117 ∧ (P v2_117 (sI σ 5 0)))) fu 0 0)) ∧ (¬ x1 = 0 → (wp_X4_worst fu (sI σ 5 0)  (fun r10 => ((¬ r10 = (-1) → (P 0 (sI σ 5 0))) ∧ (r10 = (-1) → (wp_X4_weightOf fu (sI σ 5 0) (σ.1 3) (fun r22 => (wp_X4_weightOf fu (sI σ 5 0) (σ.1 2) (fun r30 => ((r22 ≤ r30 → (P 0 (sI σ 5 0))) ∧ (¬ r22 ≤ r30 → (P 1 (sI σ 5 0))))))))))))))
theorem k_X4_isBarred : KV RX4 yX4_isBarred cX4_isBarred 5 (some .boolean) 1 := ⟨q1709, q1710, q5, q1711, by decide +kernel⟩
set_option maxHeartbeats 4000000 in
set_option maxRecDepth 100000 in
theorem m_X4_isBarred (l : Launch) (dC : Nat → ClassId) (dI : Nat → Nat → Nat) (h : Nat → Nat) (cy : Nat → ClassId) (sz : Nat) (fu : Nat) (σ : SX) (x1 : Int32) (P : Int32 → SX → Prop) (hF : wp_X4_isBarred fu σ x1 P) : Met l yX4_isBarred (ws_ yX4_isBarred cX4_isBarred 5 (some .boolean)) ({ frames := 2, cells := 0, slots := 0, locals := 47 } : Room) (va_Pc [.ref (h 0), .int x1] (fun U => U.heap.size = sz ∧ va_P (dC, dI) classes (wC h cy σ) U.heap ∧ kwX dC dI cy U ∧ va_D (fun _ => True) (wC h cy σ))) (va_Qi (fun r u => P r u) (fun (u : SX) t => va_P (dC, dI) classes (wC h cy u) t.heap ∧ kwX dC dI cy t ∧ va_D (va_A (wC h cy σ) sz) (wC h cy u)) (va_A (wC h cy σ) sz)) 0 0 (va_A (wC h cy σ) sz) := by
  refine Met.ofCx (own := RX4) (by decide) rfl (Nat.le_of_ble_eq_true rfl) ?_
  intro p e s m below meth c hC hv ls hl
  obtain ⟨hx, hb, hr, hml, hown, hts, hlocks⟩ := hC
  have hl : lv_has ls 5 [(0, .ref (h 0)), (1, .int x1)] := hl
  obtain ⟨hsz, hP, hK, hD0⟩ := hv
  subst hsz
  have hD := hD0.self (sz := s.heap.size)
  generalize hAe : va_A (wC h cy σ) s.heap.size = A at hD ⊢
  have hA : ∀ q : Nat, s.heap.size ≤ q → A q := fun q h => by rw [← hAe]; exact Or.inr h
  have hS : va_S A s.heap s.heap [] := va_S.rf
  clear hAe
  unfold wp_X4_isBarred at hF
  refine lv_aload_n hx hb dX4_isBarred_0 rfl (lv_at hl 0 rfl) ?_
  refine lv_iconst (v := 0) hx hb dX4_isBarred_1 (by decide) ?_
  refine va_put (D := (dC, dI)) (ci := 4) (v := .int 0) (ty := .int) (C := RX4) (T := TX4) (N := 19) hx hb hts in_X4 tyX4 tyX4_ok nmX4 hown hK.1 hP hD hS 0 rfl rfl 18 (by decide) (hts _ q968) (fun _ h9 => h9) rfl (by decide +kernel) rfl rfl (Nat.le_of_ble_eq_true rfl) dX4_isBarred_2 (fun H locs hP hD hS => ?_)
  have hP : va_P (dC, dI) classes (wC h cy (sI σ 5 0)) H := hP
  have hD : va_D A (wC h cy (sI σ 5 0)) := hD
  refine lv_iload_n hx hb dX4_isBarred_5 rfl (lv_at hl 1 rfl) ?_
  refine lv_if_eq (tgt := 42) hx hb dX4_isBarred_6 (by decide) (fun cz => ?_) (fun cz => ?_)
  · have hF := hF.1 cz
    refine lv_iconst (v := 0) hx hb dX4_isBarred_42 (by decide) ?_
    refine lv_istore_n (lv' := [(2, .int 0), (0, .ref (h 0)), (1, .int x1)]) hx hb dX4_isBarred_43 rfl hl (by decide) rfl (fun ls hl => ?_)
    refine lv_iconst (v := 0) hx hb dX4_isBarred_44 (by decide) ?_
    refine lv_istore_n (lv' := [(3, .int 0), (2, .int 0), (0, .ref (h 0)), (1, .int x1)]) hx hb dX4_isBarred_45 rfl hl (by decide) rfl (fun ls hl => ?_)
    have hX46 : ∀ (v2_117 : Int32), (fun (v2_117 : Int32) => (narrow .boolean (.int v2_117) = .int v2_117 ∧ (P v2_117 (sI σ 5 0)))) v2_117 → ∀ (H : Heap) (locs : List Loc), va_P (dC, dI) classes (wC h cy (sI σ 5 0)) H → va_D A (wC h cy (sI σ 5 0)) → va_S A s.heap H locs → ∀ (ls : Array Slot), lv_has ls 5 [(2, .int v2_117)] → W p l e ({ frames := 2, cells := 0, slots := 0, locals := 47 } : Room) s m ([.ref (h 0), .int x1] : List Value).toArray below meth c H locs 0 0 (MQ below (va_Qi (fun r u => P r u) (fun (u : SX) t => va_P (dC, dI) classes (wC h cy u) t.heap ∧ kwX dC dI cy t ∧ va_D A (wC h cy u)) A) ([.ref (h 0), .int x1] : List Value).toArray s 0 0 A) (F0 m 117 ls []) := by
      intro v2_117 hF H locs hP hD hS ls hl
      refine lv_iload_n hx hb dX4_isBarred_117 rfl (lv_at hl 0 rfl) ?_
      exact W.zret (v := v2_117) hx hb hr hF.1 (fun t ht hW => ⟨⟨v2_117, sI σ 5 0, rfl, hF.2, by rw [ht]; exact hP, hK.warm hW, hD⟩, hS.F ht⟩) hS.2.2 dX4_isBarred_118
    have hL46 : ∀ (K46 : Int32 → Prop), (∀ (v2_117 : Int32), K46 v2_117 → ∀ (H : Heap) (locs : List Loc), va_P (dC, dI) classes (wC h cy (sI σ 5 0)) H → va_D A (wC h cy (sI σ 5 0)) → va_S A s.heap H locs → ∀ (ls : Array Slot), lv_has ls 5 [(2, .int v2_117)] → W p l e ({ frames := 2, cells := 0, slots := 0, locals := 47 } : Room) s m ([.ref (h 0), .int x1] : List Value).toArray below meth c H locs 0 0 (MQ below (va_Qi (fun r u => P r u) (fun (u : SX) t => va_P (dC, dI) classes (wC h cy u) t.heap ∧ kwX dC dI cy t ∧ va_D A (wC h cy u)) A) ([.ref (h 0), .int x1] : List Value).toArray s 0 0 A) (F0 m 117 ls [])) → ∀ (nn : Nat), ∀ (v3_46 : Int32), ∀ (v2_46 : Int32), wp_X4_isBarred_L46 fu σ K46 nn v3_46 v2_46 → ∀ (H : Heap) (locs : List Loc), va_P (dC, dI) classes (wC h cy (sI σ 5 0)) H → va_D A (wC h cy (sI σ 5 0)) → va_S A s.heap H locs → ∀ (ls : Array Slot), lv_has ls 5 [(3, .int v3_46), (2, .int v2_46), (0, .ref (h 0))] → W p l e ({ frames := 2, cells := 0, slots := 0, locals := 47 } : Room) s m ([.ref (h 0), .int x1] : List Value).toArray below meth c H locs 0 0 (MQ below (va_Qi (fun r u => P r u) (fun (u : SX) t => va_P (dC, dI) classes (wC h cy u) t.heap ∧ kwX dC dI cy t ∧ va_D A (wC h cy u)) A) ([.ref (h 0), .int x1] : List Value).toArray s 0 0 A) (F0 m 46 ls []) := by
      intro K46 hX46 nn
      induction nn with
      | zero =>
        intro v3_46 v2_46 hF
        exact hF.elim
      | succ nn ih =>
        intro v3_46 v2_46 hF H locs hP hD hS ls hl
        obtain ⟨rec46, hrec⟩ : ∃ z : Int32 → Int32 → Prop, z = wp_X4_isBarred_L46 fu σ K46 nn := ⟨_, rfl⟩
        have hF : wp_X4_isBarred_B46 fu σ K46 rec46 v3_46 v2_46 := by rw [hrec]; exact hF
        rw [← hrec] at ih
        clear hrec
        unfold wp_X4_isBarred_B46 at hF
        refine lv_iload_n hx hb dX4_isBarred_46 rfl (lv_at hl 0 rfl) ?_
        refine lv_iconst (v := 2) hx hb dX4_isBarred_47 (by decide) ?_
        refine lv_icmp_ge (tgt := 117) hx hb dX4_isBarred_48 (by decide) (fun cz => ?_) (fun cz => ?_)
        · have hF := hF.1 cz
          exact hX46 v2_46 hF _ _ hP hD hS _ (lv_sub hl [1] rfl)
        · have hF := hF.2 cz
          refine lv_iconst (v := 0) hx hb dX4_isBarred_51 (by decide) ?_
          refine lv_istore (lv' := [(4, .int 0), (3, .int v3_46), (2, .int v2_46), (0, .ref (h 0))]) hx hb dX4_isBarred_52 hl (by decide) rfl (fun ls hl => ?_)
          have hX54 : ∀ (v2_111 : Int32), (fun (v2_111 : Int32) => (rec46 (v3_46 + 1) v2_111)) v2_111 → ∀ (H : Heap) (locs : List Loc), va_P (dC, dI) classes (wC h cy (sI σ 5 0)) H → va_D A (wC h cy (sI σ 5 0)) → va_S A s.heap H locs → ∀ (ls : Array Slot), lv_has ls 5 [(3, .int v3_46), (2, .int v2_111), (0, .ref (h 0))] → W p l e ({ frames := 2, cells := 0, slots := 0, locals := 47 } : Room) s m ([.ref (h 0), .int x1] : List Value).toArray below meth c H locs 0 0 (MQ below (va_Qi (fun r u => P r u) (fun (u : SX) t => va_P (dC, dI) classes (wC h cy u) t.heap ∧ kwX dC dI cy t ∧ va_D A (wC h cy u)) A) ([.ref (h 0), .int x1] : List Value).toArray s 0 0 A) (F0 m 111 ls []) := by
            intro v2_111 hF H locs hP hD hS ls hl
            refine lv_iinc (v := v3_46 + 1) (lv' := [(3, .int (v3_46 + 1)), (2, .int v2_111), (0, .ref (h 0))]) hx hb dX4_isBarred_111 hl (k := 0) rfl (by rfl) (by decide) rfl (fun ls hl => ?_)
            refine lv_goto (tgt := 46) hx hb dX4_isBarred_114 (by decide) ?_
            exact ih (v3_46 + 1) v2_111 hF _ _ hP hD hS _ (lv_sub hl [0, 1, 2] rfl)
          have hL54 : ∀ (K54 : Int32 → Prop), (∀ (v2_111 : Int32), K54 v2_111 → ∀ (H : Heap) (locs : List Loc), va_P (dC, dI) classes (wC h cy (sI σ 5 0)) H → va_D A (wC h cy (sI σ 5 0)) → va_S A s.heap H locs → ∀ (ls : Array Slot), lv_has ls 5 [(3, .int v3_46), (2, .int v2_111), (0, .ref (h 0))] → W p l e ({ frames := 2, cells := 0, slots := 0, locals := 47 } : Room) s m ([.ref (h 0), .int x1] : List Value).toArray below meth c H locs 0 0 (MQ below (va_Qi (fun r u => P r u) (fun (u : SX) t => va_P (dC, dI) classes (wC h cy u) t.heap ∧ kwX dC dI cy t ∧ va_D A (wC h cy u)) A) ([.ref (h 0), .int x1] : List Value).toArray s 0 0 A) (F0 m 111 ls [])) → ∀ (nn : Nat), ∀ (v4_54 : Int32), ∀ (v2_54 : Int32), wp_X4_isBarred_L54 fu σ v3_46 K54 nn v4_54 v2_54 → ∀ (H : Heap) (locs : List Loc), va_P (dC, dI) classes (wC h cy (sI σ 5 0)) H → va_D A (wC h cy (sI σ 5 0)) → va_S A s.heap H locs → ∀ (ls : Array Slot), lv_has ls 5 [(4, .int v4_54), (3, .int v3_46), (2, .int v2_54), (0, .ref (h 0))] → W p l e ({ frames := 2, cells := 0, slots := 0, locals := 47 } : Room) s m ([.ref (h 0), .int x1] : List Value).toArray below meth c H locs 0 0 (MQ below (va_Qi (fun r u => P r u) (fun (u : SX) t => va_P (dC, dI) classes (wC h cy u) t.heap ∧ kwX dC dI cy t ∧ va_D A (wC h cy u)) A) ([.ref (h 0), .int x1] : List Value).toArray s 0 0 A) (F0 m 54 ls []) := by
            intro K54 hX54 nn
            induction nn with
            | zero =>
              intro v4_54 v2_54 hF
              exact hF.elim
            | succ nn ih =>
              intro v4_54 v2_54 hF H locs hP hD hS ls hl
              obtain ⟨rec54, hrec⟩ : ∃ z : Int32 → Int32 → Prop, z = wp_X4_isBarred_L54 fu σ v3_46 K54 nn := ⟨_, rfl⟩
              have hF : wp_X4_isBarred_B54 fu σ v3_46 K54 rec54 v4_54 v2_54 := by rw [hrec]; exact hF
              rw [← hrec] at ih
              clear hrec
              unfold wp_X4_isBarred_B54 at hF
              refine lv_iload hx hb dX4_isBarred_54 (lv_at hl 0 rfl) ?_
              refine lv_iconst (v := 3) hx hb dX4_isBarred_56 (by decide) ?_
              refine lv_icmp_ge (tgt := 111) hx hb dX4_isBarred_57 (by decide) (fun cz => ?_) (fun cz => ?_)
              · have hF := hF.1 cz
                exact hX54 v2_54 hF _ _ hP hD hS _ (lv_sub hl [1, 2, 3] rfl)
              · have hF := hF.2 cz
                refine lv_iload_n hx hb dX4_isBarred_60 rfl (lv_at hl 2 rfl) ?_
                refine lv_aload_n hx hb dX4_isBarred_61 rfl (lv_at hl 3 rfl) ?_
                refine lv_iload_n hx hb dX4_isBarred_62 rfl (lv_at hl 1 rfl) ?_
                refine cpVi (q0 := 0) (As := [.int v3_46]) (rest := [.int v2_54]) ⟨hx, hb, hr, hml, hown, hts, hlocks⟩ hK hP rfl rfl (m_X4_fits l dC dI h cy fu (sI σ 5 0) v3_46 _ hF) k_X4_fits q1704 ⟨rfl, rfl⟩ ⟨Nat.le_of_ble_eq_true rfl, Nat.le_of_ble_eq_true rfl⟩ hl.1 rfl rfl (Nat.le_of_ble_eq_true rfl) dX4_isBarred_63 ⟨Nat.le_of_ble_eq_true rfl, Nat.le_of_ble_eq_true rfl⟩ (fun r63 hF => ?_)
                have hJ103 : ∀ (t1_103 : Int32), wp_X4_isBarred_J103 rec54 v4_54 v2_54 t1_103 → ∀ (H : Heap) (locs : List Loc), va_P (dC, dI) classes (wC h cy (sI σ 5 0)) H → va_D A (wC h cy (sI σ 5 0)) → va_S A s.heap H locs → ∀ (ls : Array Slot), lv_has ls 5 [(4, .int v4_54), (3, .int v3_46), (0, .ref (h 0))] → W p l e ({ frames := 2, cells := 0, slots := 0, locals := 47 } : Room) s m ([.ref (h 0), .int x1] : List Value).toArray below meth c H locs 0 0 (MQ below (va_Qi (fun r u => P r u) (fun (u : SX) t => va_P (dC, dI) classes (wC h cy u) t.heap ∧ kwX dC dI cy t ∧ va_D A (wC h cy u)) A) ([.ref (h 0), .int x1] : List Value).toArray s 0 0 A) (F0 m 103 ls [.int t1_103, .int v2_54]) := by
                  intro t1_103 hF H locs hP hD hS ls hl
                  unfold wp_X4_isBarred_J103 at hF
                  refine lv_ior hx hb dX4_isBarred_103 ?_
                  refine lv_istore_n (lv' := [(2, .int (v2_54 ||| t1_103)), (4, .int v4_54), (3, .int v3_46), (0, .ref (h 0))]) hx hb dX4_isBarred_104 rfl hl (by decide) rfl (fun ls hl => ?_)
                  refine lv_iinc (v := v4_54 + 1) (lv' := [(4, .int (v4_54 + 1)), (2, .int (v2_54 ||| t1_103)), (3, .int v3_46), (0, .ref (h 0))]) hx hb dX4_isBarred_105 hl (k := 1) rfl (by rfl) (by decide) rfl (fun ls hl => ?_)
                  refine lv_goto (tgt := 54) hx hb dX4_isBarred_108 (by decide) ?_
                  exact ih (v4_54 + 1) (v2_54 ||| t1_103) hF _ _ hP hD hS _ (lv_sub hl [0, 2, 1, 3] rfl)
                have hJ102 : wp_X4_isBarred_J102 rec54 v4_54 v2_54 → ∀ (H : Heap) (locs : List Loc), va_P (dC, dI) classes (wC h cy (sI σ 5 0)) H → va_D A (wC h cy (sI σ 5 0)) → va_S A s.heap H locs → ∀ (ls : Array Slot), lv_has ls 5 [(4, .int v4_54), (3, .int v3_46), (0, .ref (h 0))] → W p l e ({ frames := 2, cells := 0, slots := 0, locals := 47 } : Room) s m ([.ref (h 0), .int x1] : List Value).toArray below meth c H locs 0 0 (MQ below (va_Qi (fun r u => P r u) (fun (u : SX) t => va_P (dC, dI) classes (wC h cy u) t.heap ∧ kwX dC dI cy t ∧ va_D A (wC h cy u)) A) ([.ref (h 0), .int x1] : List Value).toArray s 0 0 A) (F0 m 102 ls [.int v2_54]) := by
                  intro hF H locs hP hD hS ls hl
                  unfold wp_X4_isBarred_J102 at hF
                  refine lv_iconst (v := 0) hx hb dX4_isBarred_102 (by decide) ?_
                  exact hJ103 0 hF _ _ hP hD hS _ (lv_sub hl [0, 1, 2] rfl)
                refine lv_if_eq (tgt := 102) hx hb dX4_isBarred_66 (by decide) (fun cz => ?_) (fun cz => ?_)
                · have hF := hF.1 cz
                  exact hJ102 hF _ _ hP hD hS _ (lv_sub hl [0, 1, 3] rfl)
                · have hF := hF.2 cz
                  refine lv_aload_n hx hb dX4_isBarred_69 rfl (lv_at hl 3 rfl) ?_
                  refine lv_aload_n hx hb dX4_isBarred_70 rfl (lv_at hl 3 rfl) ?_
                  refine va_get (D := (dC, dI)) (ci := 4) (v := .int (σ.1 2)) (C := RX4) (T := TX4) (N := 19) hx hb hts in_X4 hown hK.1 hP 0 rfl rfl 15 (by decide) (hts _ q965) (fun _ h9 => h9) rfl dX4_isBarred_71 ?_
                  refine lv_iload_n hx hb dX4_isBarred_74 rfl (lv_at hl 1 rfl) ?_
                  refine lv_iload hx hb dX4_isBarred_75 (lv_at hl 0 rfl) ?_
                  refine cpVi (q0 := 0) (As := [.int (σ.1 2), .int v3_46, .int v4_54]) (rest := [.int v2_54]) ⟨hx, hb, hr, hml, hown, hts, hlocks⟩ hK hP rfl rfl (m_X4_others l dC dI h cy fu (sI σ 5 0) (σ.1 2) v3_46 v4_54 _ hF) k_X4_others q1712 ⟨rfl, rfl⟩ ⟨Nat.le_of_ble_eq_true rfl, Nat.le_of_ble_eq_true rfl⟩ hl.1 rfl rfl (Nat.le_of_ble_eq_true rfl) dX4_isBarred_77 ⟨Nat.le_of_ble_eq_true rfl, Nat.le_of_ble_eq_true rfl⟩ (fun r77 hF => ?_)
                  refine lv_iconst (v := 2) hx hb dX4_isBarred_80 (by decide) ?_
                  refine lv_irem hx hb dX4_isBarred_81 (by decide) ?_
                  refine lv_aload_n hx hb dX4_isBarred_82 rfl (lv_at hl 3 rfl) ?_
                  refine lv_aload_n hx hb dX4_isBarred_83 rfl (lv_at hl 3 rfl) ?_
                  refine va_get (D := (dC, dI)) (ci := 4) (v := .int (σ.1 3)) (C := RX4) (T := TX4) (N := 19) hx hb hts in_X4 hown hK.1 hP 0 rfl rfl 16 (by decide) (hts _ q966) (fun _ h9 => h9) rfl dX4_isBarred_84 ?_
                  refine lv_iload_n hx hb dX4_isBarred_87 rfl (lv_at hl 1 rfl) ?_
                  refine lv_iload hx hb dX4_isBarred_88 (lv_at hl 0 rfl) ?_
                  refine cpVi (q0 := 0) (As := [.int (σ.1 3), .int v3_46, .int v4_54]) (rest := [.int (r77 - r77 / 2 * 2), .int v2_54]) ⟨hx, hb, hr, hml, hown, hts, hlocks⟩ hK hP rfl rfl (m_X4_others l dC dI h cy fu (sI σ 5 0) (σ.1 3) v3_46 v4_54 _ hF) k_X4_others q1712 ⟨rfl, rfl⟩ ⟨Nat.le_of_ble_eq_true rfl, Nat.le_of_ble_eq_true rfl⟩ hl.1 rfl rfl (Nat.le_of_ble_eq_true rfl) dX4_isBarred_90 ⟨Nat.le_of_ble_eq_true rfl, Nat.le_of_ble_eq_true rfl⟩ (fun r90 hF => ?_)
                  refine lv_iconst (v := 2) hx hb dX4_isBarred_93 (by decide) ?_
                  refine lv_irem hx hb dX4_isBarred_94 (by decide) ?_
                  refine lv_icmp_eq (tgt := 102) hx hb dX4_isBarred_95 (by decide) (fun cz => ?_) (fun cz => ?_)
                  · have hF := hF.1 cz
                    exact hJ102 hF _ _ hP hD hS _ (lv_sub hl [0, 1, 3] rfl)
                  · have hF := hF.2 cz
                    refine lv_iconst (v := 1) hx hb dX4_isBarred_98 (by decide) ?_
                    refine lv_goto (tgt := 103) hx hb dX4_isBarred_99 (by decide) ?_
                    exact hJ103 1 hF _ _ hP hD hS _ (lv_sub hl [0, 1, 3] rfl)
          exact hL54 _ hX54 fu 0 v2_46 hF _ _ hP hD hS _ (lv_sub hl [0, 1, 2, 3] rfl)
    exact hL46 _ hX46 fu 0 0 hF _ _ hP hD hS _ (lv_sub hl [0, 1, 2] rfl)
  · have hF := hF.2 cz
    refine lv_aload_n hx hb dX4_isBarred_9 rfl (lv_at hl 0 rfl) ?_
    refine cpVi (q0 := 0) (As := []) (rest := []) ⟨hx, hb, hr, hml, hown, hts, hlocks⟩ hK hP rfl rfl (m_X4_worst l dC dI h cy fu (sI σ 5 0)  _ hF) k_X4_worst q1680 ⟨rfl, rfl⟩ ⟨Nat.le_of_ble_eq_true rfl, Nat.le_of_ble_eq_true rfl⟩ hl.1 rfl rfl (Nat.le_of_ble_eq_true rfl) dX4_isBarred_10 ⟨Nat.le_of_ble_eq_true rfl, Nat.le_of_ble_eq_true rfl⟩ (fun r10 hF => ?_)
    refine lv_iconst (v := (-1)) hx hb dX4_isBarred_13 (by decide) ?_
    refine lv_icmp_ne (tgt := 40) hx hb dX4_isBarred_14 (by decide) (fun cz => ?_) (fun cz => ?_)
    · have hF := hF.1 cz
      refine lv_iconst (v := 0) hx hb dX4_isBarred_40 (by decide) ?_
      exact W.zret (v := 0) hx hb hr rfl (fun t ht hW => ⟨⟨0, sI σ 5 0, rfl, hF, by rw [ht]; exact hP, hK.warm hW, hD⟩, hS.F ht⟩) hS.2.2 dX4_isBarred_41
    · have hF := hF.2 cz
      refine lv_aload_n hx hb dX4_isBarred_17 rfl (lv_at hl 0 rfl) ?_
      refine lv_aload_n hx hb dX4_isBarred_18 rfl (lv_at hl 0 rfl) ?_
      refine va_get (D := (dC, dI)) (ci := 4) (v := .int (σ.1 3)) (C := RX4) (T := TX4) (N := 19) hx hb hts in_X4 hown hK.1 hP 0 rfl rfl 16 (by decide) (hts _ q966) (fun _ h9 => h9) rfl dX4_isBarred_19 ?_
      refine cpVi (q0 := 0) (As := [.int (σ.1 3)]) (rest := []) ⟨hx, hb, hr, hml, hown, hts, hlocks⟩ hK hP rfl rfl (m_X4_weightOf l dC dI h cy fu (sI σ 5 0) (σ.1 3) _ hF) k_X4_weightOf q1672 ⟨rfl, rfl⟩ ⟨Nat.le_of_ble_eq_true rfl, Nat.le_of_ble_eq_true rfl⟩ hl.1 rfl rfl (Nat.le_of_ble_eq_true rfl) dX4_isBarred_22 ⟨Nat.le_of_ble_eq_true rfl, Nat.le_of_ble_eq_true rfl⟩ (fun r22 hF => ?_)
      refine lv_aload_n hx hb dX4_isBarred_25 rfl (lv_at hl 0 rfl) ?_
      refine lv_aload_n hx hb dX4_isBarred_26 rfl (lv_at hl 0 rfl) ?_
      refine va_get (D := (dC, dI)) (ci := 4) (v := .int (σ.1 2)) (C := RX4) (T := TX4) (N := 19) hx hb hts in_X4 hown hK.1 hP 0 rfl rfl 15 (by decide) (hts _ q965) (fun _ h9 => h9) rfl dX4_isBarred_27 ?_
      refine cpVi (q0 := 0) (As := [.int (σ.1 2)]) (rest := [.int r22]) ⟨hx, hb, hr, hml, hown, hts, hlocks⟩ hK hP rfl rfl (m_X4_weightOf l dC dI h cy fu (sI σ 5 0) (σ.1 2) _ hF) k_X4_weightOf q1672 ⟨rfl, rfl⟩ ⟨Nat.le_of_ble_eq_true rfl, Nat.le_of_ble_eq_true rfl⟩ hl.1 rfl rfl (Nat.le_of_ble_eq_true rfl) dX4_isBarred_30 ⟨Nat.le_of_ble_eq_true rfl, Nat.le_of_ble_eq_true rfl⟩ (fun r30 hF => ?_)
      refine lv_icmp_le (tgt := 40) hx hb dX4_isBarred_33 (by decide) (fun cz => ?_) (fun cz => ?_)
      · have hF := hF.1 cz
        refine lv_iconst (v := 0) hx hb dX4_isBarred_40 (by decide) ?_
        exact W.zret (v := 0) hx hb hr rfl (fun t ht hW => ⟨⟨0, sI σ 5 0, rfl, hF, by rw [ht]; exact hP, hK.warm hW, hD⟩, hS.F ht⟩) hS.2.2 dX4_isBarred_41
      · have hF := hF.2 cz
        refine lv_iconst (v := 1) hx hb dX4_isBarred_36 (by decide) ?_
        refine lv_goto (tgt := 41) hx hb dX4_isBarred_37 (by decide) ?_
        exact W.zret (v := 1) hx hb hr rfl (fun t ht hW => ⟨⟨1, sI σ 5 0, rfl, hF, by rw [ht]; exact hP, hK.warm hW, hD⟩, hS.F ht⟩) hS.2.2 dX4_isBarred_41
