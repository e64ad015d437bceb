theorem dX4_isFit_0 : decode cX4_isFit 0 = .ok (.aload_n 0, 1) := by decide +kernel
theorem dX4_isFit_1 : decode cX4_isFit 1 = .ok (.iload_n 1, 1) := by decide +kernel
theorem dX4_isFit_2 : decode cX4_isFit 2 = .ok (.iconst 0, 1) := by decide +kernel
theorem dX4_isFit_3 : decode cX4_isFit 3 = .ok (.iconst 1, 1) := by decide +kernel
theorem dX4_isFit_4 : decode cX4_isFit 4 = .ok (.invokestatic 67, 3) := by decide +kernel
theorem dX4_isFit_7 : decode cX4_isFit 7 = .ok (.ifCond .eq 7, 3) := by decide +kernel
theorem dX4_isFit_10 : decode cX4_isFit 10 = .ok (.iconst 0, 1) := by decide +kernel
theorem dX4_isFit_11 : decode cX4_isFit 11 = .ok (.goto 4, 3) := by decide +kernel
theorem dX4_isFit_14 : decode cX4_isFit 14 = .ok (.iconst 1, 1) := by decide +kernel
theorem dX4_isFit_15 : decode cX4_isFit 15 = .ok (.invokevirtual 100, 3) := by decide +kernel
theorem dX4_isFit_18 : decode cX4_isFit 18 = .ok (.ifCond .ne 15, 3) := by decide +kernel
theorem dX4_isFit_21 : decode cX4_isFit 21 = .ok (.aload_n 0, 1) := by decide +kernel
theorem dX4_isFit_22 : decode cX4_isFit 22 = .ok (.iload_n 1, 1) := by decide +kernel
theorem dX4_isFit_23 : decode cX4_isFit 23 = .ok (.invokevirtual 240, 3) := by decide +kernel
theorem dX4_isFit_26 : decode cX4_isFit 26 = .ok (.ifCond .eq 7, 3) := by decide +kernel
theorem dX4_isFit_29 : decode cX4_isFit 29 = .ok (.iconst 1, 1) := by decide +kernel
theorem dX4_isFit_30 : decode cX4_isFit 30 = .ok (.goto 4, 3) := by decide +kernel
theorem dX4_isFit_33 : decode cX4_isFit 33 = .ok (.iconst 0, 1) := by decide +kernel
theorem dX4_isFit_34 : decode cX4_isFit 34 = .ok (.ireturn, 1) := by decide +kernel
def wp_X4_isFit_J15 (fu : Nat) (σ : SX) (x1 : Int32) (P : Int32 → SX → Prop) (t1_15 : Int32) : Prop := (wp_X4_fails σ t1_15 (fun r15 s15 => ((¬ r15 = 0 → (P 0 s15)) ∧ (r15 = 0 → (wp_X4_fits fu s15 x1 (fun r23 => ((r23 = 0 → (P 0 s15)) ∧ (¬ r23 = 0 → (P 1 s15)))))))))
def wp_X4_isFit (fu : Nat) (σ : SX) (x1 : Int32) (P : Int32 → SX → Prop) : Prop := (wp_X4_in x1 0 1 (fun r4 => ((r4 = 0 → (wp_X4_isFit_J15 fu σ x1 P 1)) ∧ (¬ r4 = 0 → (wp_X4_isFit_J15 fu σ x1 P 0)))))
theorem k_X4_isFit : KV RX4 yX4_isFit cX4_isFit 2 (some .boolean) 1 := ⟨q1701, q1702, q5, q1703, by decide +kernel⟩
set_option maxHeartbeats 4000000 in
set_option maxRecDepth 100000 in
theorem m_X4_isFit (l : Launch) (dC : Nat → ClassId) (dI : Nat → Nat → Nat) (h : Nat → Nat) (cy : Nat → ClassId) (sz : Nat) (fu : Nat) (σ : SX) (x1 : Int32) (P : Int32 → SX → Prop) (hF : wp_X4_isFit fu σ x1 P) : Met l yX4_isFit (ws_ yX4_isFit cX4_isFit 2 (some .boolean)) ({ frames := 2, cells := 0, slots := 0, locals := 45 } : Room) (va_Pc [.ref (h 0), .int x1] (fun U => U.heap.size = sz ∧ va_P (dC, dI) classes (wC h cy σ) U.heap ∧ kwX dC dI cy U ∧ va_D (fun _ => True) (wC h cy σ))) (va_Qi (fun r u => P r u) (fun (u : SX) t => va_P (dC, dI) classes (wC h cy u) t.heap ∧ kwX dC dI cy t ∧ va_D (va_A (wC h cy σ) sz) (wC h cy u)) (va_A (wC h cy σ) sz)) 0 0 (va_A (wC h cy σ) sz) := by
  refine Met.ofCx (own := RX4) (by decide) rfl (Nat.le_of_ble_eq_true rfl) ?_
  intro p e s m below meth c hC hv ls hl
  obtain ⟨hx, hb, hr, hml, hown, hts, hlocks⟩ := hC
  have hl : lv_has ls 2 [(0, .ref (h 0)), (1, .int x1)] := hl
  obtain ⟨hsz, hP, hK, hD0⟩ := hv
  subst hsz
  have hD := hD0.self (sz := s.heap.size)
  generalize hAe : va_A (wC h cy σ) s.heap.size = A at hD ⊢
  have hA : ∀ q : Nat, s.heap.size ≤ q → A q := fun q h => by rw [← hAe]; exact Or.inr h
  have hS : va_S A s.heap s.heap [] := va_S.rf
  clear hAe
  unfold wp_X4_isFit at hF
  refine lv_aload_n hx hb dX4_isFit_0 rfl (lv_at hl 0 rfl) ?_
  refine lv_iload_n hx hb dX4_isFit_1 rfl (lv_at hl 1 rfl) ?_
  refine lv_iconst (v := 0) hx hb dX4_isFit_2 (by decide) ?_
  refine lv_iconst (v := 1) hx hb dX4_isFit_3 (by decide) ?_
  refine cpSi (As := [.int x1, .int 0, .int 1]) (rest := [.ref (h 0)]) ⟨hx, hb, hr, hml, hown, hts, hlocks⟩ (m_X4_in l x1 0 1 _ hF) k_X4_in q937 ⟨rfl, rfl⟩ ⟨Nat.le_of_ble_eq_true rfl, Nat.le_of_ble_eq_true rfl⟩ hl.1 rfl rfl (Nat.le_of_ble_eq_true rfl) dX4_isFit_4 ⟨Nat.le_of_ble_eq_true rfl, Nat.le_of_ble_eq_true rfl⟩ (fun r4 hF => ?_)
  have hJ15 : ∀ (t1_15 : Int32), wp_X4_isFit_J15 fu σ x1 P t1_15 → ∀ (H : Heap) (locs : List Loc), va_P (dC, dI) classes (wC h cy σ) H → va_D A (wC h cy σ) → va_S A s.heap H locs → ∀ (ls : Array Slot), lv_has ls 2 [(0, .ref (h 0)), (1, .int x1)] → W p l e ({ frames := 2, cells := 0, slots := 0, locals := 45 } : Room) s m ([.ref (h 0), .int x1] : List Value).toArray below meth c H locs 0 0 (MQ below (va_Qi (fun r u => P r u) (fun (u : SX) t => va_P (dC, dI) classes (wC h cy u) t.heap ∧ kwX dC dI cy t ∧ va_D A (wC h cy u)) A) ([.ref (h 0), .int x1] : List Value).toArray s 0 0 A) (F0 m 15 ls [.int t1_15, .ref (h 0)]) := by
    intro t1_15 hF H locs hP hD hS ls hl
    unfold wp_X4_isFit_J15 at hF
    have hFc := va_free (wc := wC h cy σ) hD hS hA [0, 1, 2, 3, 4, 5, 6, 7, 8, 9] rfl
    refine cwVi (q0 := 0) (As := [.int t1_15]) (rest := []) ⟨hx, hb, hr, hml, hown, hts, hlocks⟩ hK hP hD rfl rfl hS hFc (m_X4_fails l dC dI h cy _ σ t1_15 _ hF) k_X4_fails q1102 ⟨rfl, rfl⟩ ⟨Nat.le_of_ble_eq_true rfl, Nat.le_of_ble_eq_true rfl⟩ hl.1 rfl rfl (Nat.le_of_ble_eq_true rfl) dX4_isFit_15 ⟨Nat.le_of_ble_eq_true rfl, Nat.le_of_ble_eq_true rfl⟩ (fun r15 u H1 locs hF hP1 hD1 hk1 hS => ?_)
    obtain ⟨s15, rfl⟩ : ∃ z, z = u := ⟨_, rfl⟩
    have hP := hP1
    have hD := hD1.weaken (fun _ q _ h => hFc q.1 h)
    generalize H1 = H at hP hS ⊢
    have hP : va_P (dC, dI) classes (wC h cy s15) H := hP
    have hD : va_D A (wC h cy s15) := hD
    refine lv_if_ne (tgt := 33) hx hb dX4_isFit_18 (by decide) (fun cz => ?_) (fun cz => ?_)
    · have hF := hF.1 cz
      refine lv_iconst (v := 0) hx hb dX4_isFit_33 (by decide) ?_
      exact W.zret (v := 0) hx hb hr rfl (fun t ht hW => ⟨⟨0, s15, rfl, hF, by rw [ht]; exact hP, hK.warm hW, hD⟩, hS.F ht⟩) hS.2.2 dX4_isFit_34
    · have hF := hF.2 cz
      refine lv_aload_n hx hb dX4_isFit_21 rfl (lv_at hl 0 rfl) ?_
      refine lv_iload_n hx hb dX4_isFit_22 rfl (lv_at hl 1 rfl) ?_
      refine cpVi (q0 := 0) (As := [.int x1]) (rest := []) ⟨hx, hb, hr, hml, hown, hts, hlocks⟩ hK hP rfl rfl (m_X4_fits l dC dI h cy fu s15 x1 _ hF) k_X4_fits q1704 ⟨rfl, rfl⟩ ⟨Nat.le_of_ble_eq_true rfl, Nat.le_of_ble_eq_true rfl⟩ hl.1 rfl rfl (Nat.le_of_ble_eq_true rfl) dX4_isFit_23 ⟨Nat.le_of_ble_eq_true rfl, Nat.le_of_ble_eq_true rfl⟩ (fun r23 hF => ?_)
      refine lv_if_eq (tgt := 33) hx hb dX4_isFit_26 (by decide) (fun cz => ?_) (fun cz => ?_)
      · have hF := hF.1 cz
        refine lv_iconst (v := 0) hx hb dX4_isFit_33 (by decide) ?_
        exact W.zret (v := 0) hx hb hr rfl (fun t ht hW => ⟨⟨0, s15, rfl, hF, by rw [ht]; exact hP, hK.warm hW, hD⟩, hS.F ht⟩) hS.2.2 dX4_isFit_34
      · have hF := hF.2 cz
        refine lv_iconst (v := 1) hx hb dX4_isFit_29 (by decide) ?_
        refine lv_goto (tgt := 34) hx hb dX4_isFit_30 (by decide) ?_
        exact W.zret (v := 1) hx hb hr rfl (fun t ht hW => ⟨⟨1, s15, rfl, hF, by rw [ht]; exact hP, hK.warm hW, hD⟩, hS.F ht⟩) hS.2.2 dX4_isFit_34
  refine lv_if_eq (tgt := 14) hx hb dX4_isFit_7 (by decide) (fun cz => ?_) (fun cz => ?_)
  · have hF := hF.1 cz
    refine lv_iconst (v := 1) hx hb dX4_isFit_14 (by decide) ?_
    exact hJ15 1 hF _ _ hP hD hS _ (lv_sub hl [0, 1] rfl)
  · have hF := hF.2 cz
    refine lv_iconst (v := 0) hx hb dX4_isFit_10 (by decide) ?_
    refine lv_goto (tgt := 15) hx hb dX4_isFit_11 (by decide) ?_
    exact hJ15 0 hF _ _ hP hD hS _ (lv_sub hl [0, 1] rfl)
theorem dX4_isJump_0 : decode cX4_isJump 0 = .ok (.iconst 0, 1) := by decide +kernel
theorem dX4_isJump_1 : decode cX4_isJump 1 = .ok (.istore 4, 2) := by decide +kernel
theorem dX4_isJump_3 : decode cX4_isJump 3 = .ok (.iconst 0, 1) := by decide +kernel
theorem dX4_isJump_4 : decode cX4_isJump 4 = .ok (.istore 5, 2) := by decide +kernel
theorem dX4_isJump_6 : decode cX4_isJump 6 = .ok (.iload 5, 2) := by decide +kernel
theorem dX4_isJump_8 : decode cX4_isJump 8 = .ok (.aload_n 0, 1) := by decide +kernel
theorem dX4_isJump_9 : decode cX4_isJump 9 = .ok (.getfield 71, 3) := by decide +kernel
theorem dX4_isJump_12 : decode cX4_isJump 12 = .ok (.if_icmp .ge 52, 3) := by decide +kernel
theorem dX4_isJump_15 : decode cX4_isJump 15 = .ok (.iload 4, 2) := by decide +kernel
theorem dX4_isJump_17 : decode cX4_isJump 17 = .ok (.aload_n 0, 1) := by decide +kernel
theorem dX4_isJump_18 : decode cX4_isJump 18 = .ok (.getfield 19, 3) := by decide +kernel
theorem dX4_isJump_21 : decode cX4_isJump 21 = .ok (.iload 5, 2) := by decide +kernel
theorem dX4_isJump_23 : decode cX4_isJump 23 = .ok (.iaload, 1) := by decide +kernel
theorem dX4_isJump_24 : decode cX4_isJump 24 = .ok (.iload_n 1, 1) := by decide +kernel
theorem dX4_isJump_25 : decode cX4_isJump 25 = .ok (.if_icmp .ne 29, 3) := by decide +kernel
theorem dX4_isJump_28 : decode cX4_isJump 28 = .ok (.aload_n 0, 1) := by decide +kernel
theorem dX4_isJump_29 : decode cX4_isJump 29 = .ok (.getfield 22, 3) := by decide +kernel
theorem dX4_isJump_32 : decode cX4_isJump 32 = .ok (.iload 5, 2) := by decide +kernel
theorem dX4_isJump_34 : decode cX4_isJump 34 = .ok (.iaload, 1) := by decide +kernel
theorem dX4_isJump_35 : decode cX4_isJump 35 = .ok (.iload_n 2, 1) := by decide +kernel
theorem dX4_isJump_36 : decode cX4_isJump 36 = .ok (.if_icmp .ne 18, 3) := by decide +kernel
theorem dX4_isJump_39 : decode cX4_isJump 39 = .ok (.aload_n 0, 1) := by decide +kernel
theorem dX4_isJump_40 : decode cX4_isJump 40 = .ok (.getfield 25, 3) := by decide +kernel
theorem dX4_isJump_43 : decode cX4_isJump 43 = .ok (.iload 5, 2) := by decide +kernel
theorem dX4_isJump_45 : decode cX4_isJump 45 = .ok (.iaload, 1) := by decide +kernel
theorem dX4_isJump_46 : decode cX4_isJump 46 = .ok (.iload_n 3, 1) := by decide +kernel
theorem dX4_isJump_47 : decode cX4_isJump 47 = .ok (.if_icmp .ne 7, 3) := by decide +kernel
theorem dX4_isJump_50 : decode cX4_isJump 50 = .ok (.iconst 1, 1) := by decide +kernel
theorem dX4_isJump_51 : decode cX4_isJump 51 = .ok (.goto 4, 3) := by decide +kernel
theorem dX4_isJump_54 : decode cX4_isJump 54 = .ok (.iconst 0, 1) := by decide +kernel
theorem dX4_isJump_55 : decode cX4_isJump 55 = .ok (.ior, 1) := by decide +kernel
theorem dX4_isJump_56 : decode cX4_isJump 56 = .ok (.istore 4, 2) := by decide +kernel
theorem dX4_isJump_58 : decode cX4_isJump 58 = .ok (.iinc 5 1, 3) := by decide +kernel
theorem dX4_isJump_61 : decode cX4_isJump 61 = .ok (.goto (-55), 3) := by decide +kernel
theorem dX4_isJump_64 : decode cX4_isJump 64 = .ok (.iload 4, 2) := by decide +kernel
theorem dX4_isJump_66 : decode cX4_isJump 66 = .ok (.ireturn, 1) := by decide +kernel
def wp_X4_isJump_J55 (rec6 : Int32 → Int32 → Prop) (v5_6 : Int32) (v4_6 : Int32) (t1_55 : Int32) : Prop := (rec6 (v5_6 + 1) (v4_6 ||| t1_55))
def wp_X4_isJump_J54 (rec6 : Int32 → Int32 → Prop) (v5_6 : Int32) (v4_6 : Int32) : Prop := (wp_X4_isJump_J55 rec6 v5_6 v4_6 0)
def wp_X4_isJump_B6 (σ : SX) (x1 : Int32) (x2 : Int32) (x3 : Int32) (K6 : Int32 → Prop) (rec6 : Int32 → Int32 → Prop) (v5_6 : Int32) (v4_6 : Int32) : Prop := (((σ.1 1) ≤ v5_6 → (K6 v4_6)) ∧ (¬ (σ.1 1) ≤ v5_6 → (vp_in v5_6 104 ∧ ((¬ ((σ.2.1 3) v5_6.toNatClampNeg) = x1 → wp_X4_isJump_J54 rec6 v5_6 v4_6) ∧ (((σ.2.1 3) v5_6.toNatClampNeg) = x1 → (vp_in v5_6 104 ∧ ((¬ ((σ.2.1 4) v5_6.toNatClampNeg) = x2 → wp_X4_isJump_J54 rec6 v5_6 v4_6) ∧ (((σ.2.1 4) v5_6.toNatClampNeg) = x2 → (vp_in v5_6 104 ∧ ((¬ ((σ.2.1 5) v5_6.toNatClampNeg) = x3 → wp_X4_isJump_J54 rec6 v5_6 v4_6) ∧ (((σ.2.1 5) v5_6.toNatClampNeg) = x3 → (wp_X4_isJump_J55 rec6 v5_6 v4_6 1))))))))))))
def wp_X4_isJump_L6 (σ : SX) (x1 : Int32) (x2 : Int32) (x3 : Int32) (K6 : Int32 → Prop) : Nat → Int32 → Int32 → Prop
  | 0, _, _ => False
  | nn + 1, v5_6, v4_6 => wp_X4_isJump_B6 σ x1 x2 x3 K6 (wp_X4_isJump_L6 σ x1 x2 x3 K6 nn) v5_6 v4_6
def wp_X4_isJump (fu : Nat) (σ : SX) (x1 : Int32) (x2 : Int32) (x3 : Int32) (P : Int32 → Prop) : Prop := (wp_X4_isJump_L6 σ x1 x2 x3 (fun (v4_64 : Int32) => (narrow .boolean (.int v4_64) = .int v4_64 ∧ (P v4_64))) fu 0 0)
theorem k_X4_isJump : KV RX4 yX4_isJump cX4_isJump 6 (some .boolean) 3 := ⟨q1184, qs32, q5, q1185, by decide +kernel⟩
set_option maxHeartbeats 4000000 in
set_option maxRecDepth 100000 in
theorem m_X4_isJump (l : Launch) (dC : Nat → ClassId) (dI : Nat → Nat → Nat) (h : Nat → Nat) (cy : Nat → ClassId) (fu : Nat) (σ : SX) (x1 : Int32) (x2 : Int32) (x3 : Int32) (P : Int32 → Prop) (hF : wp_X4_isJump fu σ x1 x2 x3 P) : Met l yX4_isJump (ws_ yX4_isJump cX4_isJump 6 (some .boolean)) ({ frames := 0, cells := 0, slots := 0, locals := 0 } : Room) (va_Pc [.ref (h 0), .int x1, .int x2, .int x3] (fun U => va_P (dC, dI) classes (wC h cy σ) U.heap ∧ kwX dC dI cy U)) (vp_Si P) 0 0 (fun _ => False) := by
  refine Met.ofCx (own := RX4) (by decide) rfl (Nat.le_of_ble_eq_true rfl) ?_
  intro p e s m below meth c hC hv ls hl
  obtain ⟨hx, hb, hr, hml, hown, hts, hlocks⟩ := hC
  have hl : lv_has ls 6 [(0, .ref (h 0)), (1, .int x1), (2, .int x2), (3, .int x3)] := hl
  obtain ⟨hP, hK⟩ := hv
  unfold wp_X4_isJump at hF
  refine lv_iconst (v := 0) hx hb dX4_isJump_0 (by decide) ?_
  refine lv_istore (lv' := [(4, .int 0), (0, .ref (h 0)), (1, .int x1), (2, .int x2), (3, .int x3)]) hx hb dX4_isJump_1 hl (by decide) rfl (fun ls hl => ?_)
  refine lv_iconst (v := 0) hx hb dX4_isJump_3 (by decide) ?_
  refine lv_istore (lv' := [(5, .int 0), (4, .int 0), (0, .ref (h 0)), (1, .int x1), (2, .int x2), (3, .int x3)]) hx hb dX4_isJump_4 hl (by decide) rfl (fun ls hl => ?_)
  have hX6 : ∀ (v4_64 : Int32), (fun (v4_64 : Int32) => (narrow .boolean (.int v4_64) = .int v4_64 ∧ (P v4_64))) v4_64 → ∀ (ls : Array Slot), lv_has ls 6 [(4, .int v4_64)] → W p l e ({ frames := 0, cells := 0, slots := 0, locals := 0 } : Room) s m ([.ref (h 0), .int x1, .int x2, .int x3] : List Value).toArray below meth c s.heap [] 0 0 (MQ below (vp_Si P) ([.ref (h 0), .int x1, .int x2, .int x3] : List Value).toArray s 0 0 (fun _ => False)) (F0 m 64 ls []) := by
    intro v4_64 hF ls hl
    refine lv_iload hx hb dX4_isJump_64 (lv_at hl 0 rfl) ?_
    exact W.zret (v := v4_64) hx hb hr hF.1 (fun t ht hW => ⟨v4_64, rfl, hF.2, ht⟩) (fun q hq => absurd hq List.not_mem_nil) dX4_isJump_66
  have hL6 : ∀ (K6 : Int32 → Prop), (∀ (v4_64 : Int32), K6 v4_64 → ∀ (ls : Array Slot), lv_has ls 6 [(4, .int v4_64)] → W p l e ({ frames := 0, cells := 0, slots := 0, locals := 0 } : Room) s m ([.ref (h 0), .int x1, .int x2, .int x3] : List Value).toArray below meth c s.heap [] 0 0 (MQ below (vp_Si P) ([.ref (h 0), .int x1, .int x2, .int x3] : List Value).toArray s 0 0 (fun _ => False)) (F0 m 64 ls [])) → ∀ (nn : Nat), ∀ (v5_6 : Int32), ∀ (v4_6 : Int32), wp_X4_isJump_L6 σ x1 x2 x3 K6 nn v5_6 v4_6 → ∀ (ls : Array Slot), lv_has ls 6 [(5, .int v5_6), (4, .int v4_6), (0, .ref (h 0)), (1, .int x1), (2, .int x2), (3, .int x3)] → W p l e ({ frames := 0, cells := 0, slots := 0, locals := 0 } : Room) s m ([.ref (h 0), .int x1, .int x2, .int x3] : List Value).toArray below meth c s.heap [] 0 0 (MQ below (vp_Si P) ([.ref (h 0), .int x1, .int x2, .int x3] : List Value).toArray s 0 0 (fun _ => False)) (F0 m 6 ls []) := by
    intro K6 hX6 nn
    induction nn with
    | zero =>
      intro v5_6 v4_6 hF
      exact hF.elim
    | succ nn ih =>
      intro v5_6 v4_6 hF ls hl
      obtain ⟨rec6, hrec⟩ : ∃ z : Int32 → Int32 → Prop, z = wp_X4_isJump_L6 σ x1 x2 x3 K6 nn := ⟨_, rfl⟩
      have hF : wp_X4_isJump_B6 σ x1 x2 x3 K6 rec6 v5_6 v4_6 := by rw [hrec]; exact hF
      rw [← hrec] at ih
      clear hrec
      unfold wp_X4_isJump_B6 at hF
      refine lv_iload hx hb dX4_isJump_6 (lv_at hl 0 rfl) ?_
      refine lv_aload_n hx hb dX4_isJump_8 rfl (lv_at hl 2 rfl) ?_
      refine va_get (D := (dC, dI)) (ci := 4) (v := .int (σ.1 1)) (C := RX4) (T := TX4) (N := 19) hx hb hts in_X4 hown hK.1 hP 0 rfl rfl 14 (by decide) (hts _ q964) (fun _ h9 => h9) rfl dX4_isJump_9 ?_
      refine lv_icmp_ge (tgt := 64) hx hb dX4_isJump_12 (by decide) (fun cz => ?_) (fun cz => ?_)
      · have hF := hF.1 cz
        exact hX6 v4_6 hF _ (lv_sub hl [1] rfl)
      · have hF := hF.2 cz
        refine lv_iload hx hb dX4_isJump_15 (lv_at hl 1 rfl) ?_
        refine lv_aload_n hx hb dX4_isJump_17 rfl (lv_at hl 2 rfl) ?_
        refine va_get (D := (dC, dI)) (ci := 4) (v := .ref (h 4)) (C := RX4) (T := TX4) (N := 19) hx hb hts in_X4 hown hK.1 hP 0 rfl rfl 3 (by decide) (hts _ q953) (fun _ h9 => h9) rfl dX4_isJump_18 ?_
        refine lv_iload hx hb dX4_isJump_21 (lv_at hl 0 rfl) ?_
        have hI := hF.1
        have hF := hF.2
        refine va_iald hx hb hK.1 hP 4 0 rfl rfl hI dX4_isJump_23 ?_
        refine lv_iload_n hx hb dX4_isJump_24 rfl (lv_at hl 3 rfl) ?_
        have hJ55 : ∀ (t1_55 : Int32), wp_X4_isJump_J55 rec6 v5_6 v4_6 t1_55 → ∀ (ls : Array Slot), lv_has ls 6 [(5, .int v5_6), (0, .ref (h 0)), (1, .int x1), (2, .int x2), (3, .int x3)] → W p l e ({ frames := 0, cells := 0, slots := 0, locals := 0 } : Room) s m ([.ref (h 0), .int x1, .int x2, .int x3] : List Value).toArray below meth c s.heap [] 0 0 (MQ below (vp_Si P) ([.ref (h 0), .int x1, .int x2, .int x3] : List Value).toArray s 0 0 (fun _ => False)) (F0 m 55 ls [.int t1_55, .int v4_6]) := by
          intro t1_55 hF ls hl
          unfold wp_X4_isJump_J55 at hF
          refine lv_ior hx hb dX4_isJump_55 ?_
          refine lv_istore (lv' := [(4, .int (v4_6 ||| t1_55)), (5, .int v5_6), (0, .ref (h 0)), (1, .int x1), (2, .int x2), (3, .int x3)]) hx hb dX4_isJump_56 hl (by decide) rfl (fun ls hl => ?_)
          refine lv_iinc (v := v5_6 + 1) (lv' := [(5, .int (v5_6 + 1)), (4, .int (v4_6 ||| t1_55)), (0, .ref (h 0)), (1, .int x1), (2, .int x2), (3, .int x3)]) hx hb dX4_isJump_58 hl (k := 1) rfl (by rfl) (by decide) rfl (fun ls hl => ?_)
          refine lv_goto (tgt := 6) hx hb dX4_isJump_61 (by decide) ?_
          exact ih (v5_6 + 1) (v4_6 ||| t1_55) hF _ (lv_sub hl [0, 1, 2, 3, 4, 5] rfl)
        have hJ54 : wp_X4_isJump_J54 rec6 v5_6 v4_6 → ∀ (ls : Array Slot), lv_has ls 6 [(5, .int v5_6), (0, .ref (h 0)), (1, .int x1), (2, .int x2), (3, .int x3)] → W p l e ({ frames := 0, cells := 0, slots := 0, locals := 0 } : Room) s m ([.ref (h 0), .int x1, .int x2, .int x3] : List Value).toArray below meth c s.heap [] 0 0 (MQ below (vp_Si P) ([.ref (h 0), .int x1, .int x2, .int x3] : List Value).toArray s 0 0 (fun _ => False)) (F0 m 54 ls [.int v4_6]) := by
          intro hF ls hl
          unfold wp_X4_isJump_J54 at hF
          refine lv_iconst (v := 0) hx hb dX4_isJump_54 (by decide) ?_
          exact hJ55 0 hF _ (lv_sub hl [0, 1, 2, 3, 4] rfl)
        refine lv_icmp_ne (tgt := 54) hx hb dX4_isJump_25 (by decide) (fun cz => ?_) (fun cz => ?_)
        · have hF := hF.1 cz
          exact hJ54 hF _ (lv_sub hl [0, 2, 3, 4, 5] rfl)
        · have hF := hF.2 cz
          refine lv_aload_n hx hb dX4_isJump_28 rfl (lv_at hl 2 rfl) ?_
          refine va_get (D := (dC, dI)) (ci := 4) (v := .ref (h 5)) (C := RX4) (T := TX4) (N := 19) hx hb hts in_X4 hown hK.1 hP 0 rfl rfl 4 (by decide) (hts _ q954) (fun _ h9 => h9) rfl dX4_isJump_29 ?_
          refine lv_iload hx hb dX4_isJump_32 (lv_at hl 0 rfl) ?_
          have hI := hF.1
          have hF := hF.2
          refine va_iald hx hb hK.1 hP 5 0 rfl rfl hI dX4_isJump_34 ?_
          refine lv_iload_n hx hb dX4_isJump_35 rfl (lv_at hl 4 rfl) ?_
          refine lv_icmp_ne (tgt := 54) hx hb dX4_isJump_36 (by decide) (fun cz => ?_) (fun cz => ?_)
          · have hF := hF.1 cz
            exact hJ54 hF _ (lv_sub hl [0, 2, 3, 4, 5] rfl)
          · have hF := hF.2 cz
            refine lv_aload_n hx hb dX4_isJump_39 rfl (lv_at hl 2 rfl) ?_
            refine va_get (D := (dC, dI)) (ci := 4) (v := .ref (h 6)) (C := RX4) (T := TX4) (N := 19) hx hb hts in_X4 hown hK.1 hP 0 rfl rfl 5 (by decide) (hts _ q955) (fun _ h9 => h9) rfl dX4_isJump_40 ?_
            refine lv_iload hx hb dX4_isJump_43 (lv_at hl 0 rfl) ?_
            have hI := hF.1
            have hF := hF.2
            refine va_iald hx hb hK.1 hP 6 0 rfl rfl hI dX4_isJump_45 ?_
            refine lv_iload_n hx hb dX4_isJump_46 rfl (lv_at hl 5 rfl) ?_
            refine lv_icmp_ne (tgt := 54) hx hb dX4_isJump_47 (by decide) (fun cz => ?_) (fun cz => ?_)
            · have hF := hF.1 cz
              exact hJ54 hF _ (lv_sub hl [0, 2, 3, 4, 5] rfl)
            · have hF := hF.2 cz
              refine lv_iconst (v := 1) hx hb dX4_isJump_50 (by decide) ?_
              refine lv_goto (tgt := 55) hx hb dX4_isJump_51 (by decide) ?_
              exact hJ55 1 hF _ (lv_sub hl [0, 2, 3, 4, 5] rfl)
  exact hL6 _ hX6 fu 0 0 hF _ (lv_sub hl [0, 1, 2, 3, 4, 5] rfl)
theorem dX4_isPosition_0 : decode cX4_isPosition 0 = .ok (.iload_n 1, 1) := by decide +kernel
theorem dX4_isPosition_1 : decode cX4_isPosition 1 = .ok (.iconst 0, 1) := by decide +kernel
theorem dX4_isPosition_2 : decode cX4_isPosition 2 = .ok (.iconst 1, 1) := by decide +kernel
theorem dX4_isPosition_3 : decode cX4_isPosition 3 = .ok (.aload_n 0, 1) := by decide +kernel
theorem dX4_isPosition_4 : decode cX4_isPosition 4 = .ok (.getfield 64, 3) := by decide +kernel
theorem dX4_isPosition_7 : decode cX4_isPosition 7 = .ok (.ishl, 1) := by decide +kernel
theorem dX4_isPosition_8 : decode cX4_isPosition 8 = .ok (.iconst 1, 1) := by decide +kernel
theorem dX4_isPosition_9 : decode cX4_isPosition 9 = .ok (.isub, 1) := by decide +kernel
theorem dX4_isPosition_10 : decode cX4_isPosition 10 = .ok (.invokestatic 67, 3) := by decide +kernel
theorem dX4_isPosition_13 : decode cX4_isPosition 13 = .ok (.ireturn, 1) := by decide +kernel
def wp_X4_isPosition (σ : SX) (x1 : Int32) (P : Int32 → Prop) : Prop := (wp_X4_in x1 0 (((1 : Int32) <<< ((σ.1 0) &&& 31)) - 1) (fun r10 => (narrow .boolean (.int r10) = .int r10 ∧ (P r10))))
theorem k_X4_isPosition : KV RX4 yX4_isPosition cX4_isPosition 2 (some .boolean) 1 := ⟨q1192, qs33, q5, q1193, by decide +kernel⟩
set_option maxHeartbeats 4000000 in
set_option maxRecDepth 100000 in
theorem m_X4_isPosition (l : Launch) (dC : Nat → ClassId) (dI : Nat → Nat → Nat) (h : Nat → Nat) (cy : Nat → ClassId) (σ : SX) (x1 : Int32) (P : Int32 → Prop) (hF : wp_X4_isPosition σ x1 P) : Met l yX4_isPosition (ws_ yX4_isPosition cX4_isPosition 2 (some .boolean)) ({ frames := 1, cells := 0, slots := 0, locals := 22 } : Room) (va_Pc [.ref (h 0), .int x1] (fun U => va_P (dC, dI) classes (wC h cy σ) U.heap ∧ kwX dC dI cy U)) (vp_Si P) 0 0 (fun _ => False) := by
  refine Met.ofCx (own := RX4) (by decide) rfl (Nat.le_of_ble_eq_true rfl) ?_
  intro p e s m below meth c hC hv ls hl
  obtain ⟨hx, hb, hr, hml, hown, hts, hlocks⟩ := hC
  have hl : lv_has ls 2 [(0, .ref (h 0)), (1, .int x1)] := hl
  obtain ⟨hP, hK⟩ := hv
  unfold wp_X4_isPosition at hF
  refine lv_iload_n hx hb dX4_isPosition_0 rfl (lv_at hl 1 rfl) ?_
  refine lv_iconst (v := 0) hx hb dX4_isPosition_1 (by decide) ?_
  refine lv_iconst (v := 1) hx hb dX4_isPosition_2 (by decide) ?_
  refine lv_aload_n hx hb dX4_isPosition_3 rfl (lv_at hl 0 rfl) ?_
  refine va_get (D := (dC, dI)) (ci := 4) (v := .int (σ.1 0)) (C := RX4) (T := TX4) (N := 19) hx hb hts in_X4 hown hK.1 hP 0 rfl rfl 13 (by decide) (hts _ q963) (fun _ h9 => h9) rfl dX4_isPosition_4 ?_
  refine lv_ishl hx hb dX4_isPosition_7 ?_
  refine lv_iconst (v := 1) hx hb dX4_isPosition_8 (by decide) ?_
  refine lv_isub hx hb dX4_isPosition_9 ?_
  refine cpSi (As := [.int x1, .int 0, .int (((1 : Int32) <<< ((σ.1 0) &&& 31)) - 1)]) (rest := []) ⟨hx, hb, hr, hml, hown, hts, hlocks⟩ (m_X4_in l x1 0 (((1 : Int32) <<< ((σ.1 0) &&& 31)) - 1) _ hF) k_X4_in q937 ⟨rfl, rfl⟩ ⟨Nat.le_of_ble_eq_true rfl, Nat.le_of_ble_eq_true rfl⟩ hl.1 rfl rfl (Nat.le_of_ble_eq_true rfl) dX4_isPosition_10 ⟨Nat.le_of_ble_eq_true rfl, Nat.le_of_ble_eq_true rfl⟩ (fun r10 hF => ?_)
  exact W.zret (v := r10) hx hb hr hF.1 (fun t ht hW => ⟨r10, rfl, hF.2, ht⟩) (fun q hq => absurd hq List.not_mem_nil) dX4_isPosition_13
theorem dX4_isProof_0 : decode cX4_isProof 0 = .ok (.aload_n 0, 1) := by decide +kernel
theorem dX4_isProof_1 : decode cX4_isProof 1 = .ok (.iconst 0, 1) := by decide +kernel
theorem dX4_isProof_2 : decode cX4_isProof 2 = .ok (.putfield 60, 3) := by decide +kernel
theorem dX4_isProof_5 : decode cX4_isProof 5 = .ok (.aload_n 0, 1) := by decide +kernel
theorem dX4_isProof_6 : decode cX4_isProof 6 = .ok (.invokevirtual 234, 3) := by decide +kernel
theorem dX4_isProof_9 : decode cX4_isProof 9 = .ok (.iconst (-1), 1) := by decide +kernel
theorem dX4_isProof_10 : decode cX4_isProof 10 = .ok (.if_icmp .ne 7, 3) := by decide +kernel
theorem dX4_isProof_13 : decode cX4_isProof 13 = .ok (.iconst 1, 1) := by decide +kernel
theorem dX4_isProof_14 : decode cX4_isProof 14 = .ok (.goto 4, 3) := by decide +kernel
theorem dX4_isProof_17 : decode cX4_isProof 17 = .ok (.iconst 0, 1) := by decide +kernel
theorem dX4_isProof_18 : decode cX4_isProof 18 = .ok (.ireturn, 1) := by decide +kernel
def wp_X4_isProof (fu : Nat) (σ : SX) (P : Int32 → SX → Prop) : Prop := (wp_X4_worst fu (sI σ 5 0)  (fun r6 => ((¬ r6 = (-1) → (P 0 (sI σ 5 0))) ∧ (r6 = (-1) → (P 1 (sI σ 5 0))))))
theorem k_X4_isProof : KV RX4 yX4_isProof cX4_isProof 1 (some .boolean) 0 := ⟨q1677, q1678, q5, q1679, by decide +kernel⟩
set_option maxHeartbeats 4000000 in
set_option maxRecDepth 100000 in
theorem m_X4_isProof (l : Launch) (dC : Nat → ClassId) (dI : Nat → Nat → Nat) (h : Nat → Nat) (cy : Nat → ClassId) (sz : Nat) (fu : Nat) (σ : SX) (P : Int32 → SX → Prop) (hF : wp_X4_isProof fu σ P) : Met l yX4_isProof (ws_ yX4_isProof cX4_isProof 1 (some .boolean)) ({ frames := 2, cells := 0, slots := 0, locals := 43 } : Room) (va_Pc [.ref (h 0)] (fun U => U.heap.size = sz ∧ va_P (dC, dI) classes (wC h cy σ) U.heap ∧ kwX dC dI cy U ∧ va_D (fun _ => True) (wC h cy σ))) (va_Qi (fun r u => P r u) (fun (u : SX) t => va_P (dC, dI) classes (wC h cy u) t.heap ∧ kwX dC dI cy t ∧ va_D (va_A (wC h cy σ) sz) (wC h cy u)) (va_A (wC h cy σ) sz)) 0 0 (va_A (wC h cy σ) sz) := by
  refine Met.ofCx (own := RX4) (by decide) rfl (Nat.le_of_ble_eq_true rfl) ?_
  intro p e s m below meth c hC hv ls hl
  obtain ⟨hx, hb, hr, hml, hown, hts, hlocks⟩ := hC
  have hl : lv_has ls 1 [(0, .ref (h 0))] := hl
  obtain ⟨hsz, hP, hK, hD0⟩ := hv
  subst hsz
  have hD := hD0.self (sz := s.heap.size)
  generalize hAe : va_A (wC h cy σ) s.heap.size = A at hD ⊢
  have hA : ∀ q : Nat, s.heap.size ≤ q → A q := fun q h => by rw [← hAe]; exact Or.inr h
  have hS : va_S A s.heap s.heap [] := va_S.rf
  clear hAe
  unfold wp_X4_isProof at hF
  refine lv_aload_n hx hb dX4_isProof_0 rfl (lv_at hl 0 rfl) ?_
  refine lv_iconst (v := 0) hx hb dX4_isProof_1 (by decide) ?_
  refine va_put (D := (dC, dI)) (ci := 4) (v := .int 0) (ty := .int) (C := RX4) (T := TX4) (N := 19) hx hb hts in_X4 tyX4 tyX4_ok nmX4 hown hK.1 hP hD hS 0 rfl rfl 18 (by decide) (hts _ q968) (fun _ h9 => h9) rfl (by decide +kernel) rfl rfl (Nat.le_of_ble_eq_true rfl) dX4_isProof_2 (fun H locs hP hD hS => ?_)
  have hP : va_P (dC, dI) classes (wC h cy (sI σ 5 0)) H := hP
  have hD : va_D A (wC h cy (sI σ 5 0)) := hD
  refine lv_aload_n hx hb dX4_isProof_5 rfl (lv_at hl 0 rfl) ?_
  refine cpVi (q0 := 0) (As := []) (rest := []) ⟨hx, hb, hr, hml, hown, hts, hlocks⟩ hK hP rfl rfl (m_X4_worst l dC dI h cy fu (sI σ 5 0)  _ hF) k_X4_worst q1680 ⟨rfl, rfl⟩ ⟨Nat.le_of_ble_eq_true rfl, Nat.le_of_ble_eq_true rfl⟩ hl.1 rfl rfl (Nat.le_of_ble_eq_true rfl) dX4_isProof_6 ⟨Nat.le_of_ble_eq_true rfl, Nat.le_of_ble_eq_true rfl⟩ (fun r6 hF => ?_)
  refine lv_iconst (v := (-1)) hx hb dX4_isProof_9 (by decide) ?_
  refine lv_icmp_ne (tgt := 17) hx hb dX4_isProof_10 (by decide) (fun cz => ?_) (fun cz => ?_)
  · have hF := hF.1 cz
    refine lv_iconst (v := 0) hx hb dX4_isProof_17 (by decide) ?_
    exact W.zret (v := 0) hx hb hr rfl (fun t ht hW => ⟨⟨0, sI σ 5 0, rfl, hF, by rw [ht]; exact hP, hK.warm hW, hD⟩, hS.F ht⟩) hS.2.2 dX4_isProof_18
  · have hF := hF.2 cz
    refine lv_iconst (v := 1) hx hb dX4_isProof_13 (by decide) ?_
    refine lv_goto (tgt := 18) hx hb dX4_isProof_14 (by decide) ?_
    exact W.zret (v := 1) hx hb hr rfl (fun t ht hW => ⟨⟨1, sI σ 5 0, rfl, hF, by rw [ht]; exact hP, hK.warm hW, hD⟩, hS.F ht⟩) hS.2.2 dX4_isProof_18
theorem dX4_isSound_0 : decode cX4_isSound 0 = .ok (.aload_n 0, 1) := by decide +kernel
theorem dX4_isSound_1 : decode cX4_isSound 1 = .ok (.iconst 0, 1) := by decide +kernel
theorem dX4_isSound_2 : decode cX4_isSound 2 = .ok (.putfield 60, 3) := by decide +kernel
theorem dX4_isSound_5 : decode cX4_isSound 5 = .ok (.iconst 1, 1) := by decide +kernel
theorem dX4_isSound_6 : decode cX4_isSound 6 = .ok (.ireturn, 1) := by decide +kernel
def wp_X4_isSound (σ : SX) (P : Int32 → SX → Prop) : Prop := (P 1 (sI σ 5 0))
theorem k_X4_isSound : KV RX4 yX4_isSound cX4_isSound 1 (some .boolean) 0 := ⟨q1843, q1844, q5, q1845, by decide +kernel⟩
set_option maxHeartbeats 4000000 in
set_option maxRecDepth 100000 in
theorem m_X4_isSound (l : Launch) (dC : Nat → ClassId) (dI : Nat → Nat → Nat) (h : Nat → Nat) (cy : Nat → ClassId) (sz : Nat) (σ : SX) (P : Int32 → SX → Prop) (hF : wp_X4_isSound σ P) : Met l yX4_isSound (ws_ yX4_isSound cX4_isSound 1 (some .boolean)) ({ frames := 0, cells := 0, slots := 0, locals := 0 } : Room) (va_Pc [.ref (h 0)] (fun U => U.heap.size = sz ∧ va_P (dC, dI) classes (wC h cy σ) U.heap ∧ kwX dC dI cy U ∧ va_D (fun _ => True) (wC h cy σ))) (va_Qi (fun r u => P r u) (fun (u : SX) t => va_P (dC, dI) classes (wC h cy u) t.heap ∧ kwX dC dI cy t ∧ va_D (va_A (wC h cy σ) sz) (wC h cy u)) (va_A (wC h cy σ) sz)) 0 0 (va_A (wC h cy σ) sz) := by
  refine Met.ofCx (own := RX4) (by decide) rfl (Nat.le_of_ble_eq_true rfl) ?_
  intro p e s m below meth c hC hv ls hl
  obtain ⟨hx, hb, hr, hml, hown, hts, hlocks⟩ := hC
  have hl : lv_has ls 1 [(0, .ref (h 0))] := hl
  obtain ⟨hsz, hP, hK, hD0⟩ := hv
  subst hsz
  have hD := hD0.self (sz := s.heap.size)
  generalize hAe : va_A (wC h cy σ) s.heap.size = A at hD ⊢
  have hA : ∀ q : Nat, s.heap.size ≤ q → A q := fun q h => by rw [← hAe]; exact Or.inr h
  have hS : va_S A s.heap s.heap [] := va_S.rf
  clear hAe
  unfold wp_X4_isSound at hF
  refine lv_aload_n hx hb dX4_isSound_0 rfl (lv_at hl 0 rfl) ?_
  refine lv_iconst (v := 0) hx hb dX4_isSound_1 (by decide) ?_
  refine va_put (D := (dC, dI)) (ci := 4) (v := .int 0) (ty := .int) (C := RX4) (T := TX4) (N := 19) hx hb hts in_X4 tyX4 tyX4_ok nmX4 hown hK.1 hP hD hS 0 rfl rfl 18 (by decide) (hts _ q968) (fun _ h9 => h9) rfl (by decide +kernel) rfl rfl (Nat.le_of_ble_eq_true rfl) dX4_isSound_2 (fun H locs hP hD hS => ?_)
  have hP : va_P (dC, dI) classes (wC h cy (sI σ 5 0)) H := hP
  have hD : va_D A (wC h cy (sI σ 5 0)) := hD
  refine lv_iconst (v := 1) hx hb dX4_isSound_5 (by decide) ?_
  exact W.zret (v := 1) hx hb hr rfl (fun t ht hW => ⟨⟨1, sI σ 5 0, rfl, hF, by rw [ht]; exact hP, hK.warm hW, hD⟩, hS.F ht⟩) hS.2.2 dX4_isSound_6
theorem dX4_turned_0 : decode cX4_turned 0 = .ok (.iload_n 0, 1) := by decide +kernel
theorem dX4_turned_1 : decode cX4_turned 1 = .ok (.iconst 5, 1) := by decide +kernel
theorem dX4_turned_2 : decode cX4_turned 2 = .ok (.idiv, 1) := by decide +kernel
theorem dX4_turned_3 : decode cX4_turned 3 = .ok (.istore_n 2, 1) := by decide +kernel
theorem dX4_turned_4 : decode cX4_turned 4 = .ok (.iload_n 1, 1) := by decide +kernel
theorem dX4_turned_5 : decode cX4_turned 5 = .ok (.iconst 4, 1) := by decide +kernel
theorem dX4_turned_6 : decode cX4_turned 6 = .ok (.if_icmp .lt 11, 3) := by decide +kernel
theorem dX4_turned_9 : decode cX4_turned 9 = .ok (.iconst 4, 1) := by decide +kernel
theorem dX4_turned_10 : decode cX4_turned 10 = .ok (.iload_n 0, 1) := by decide +kernel
theorem dX4_turned_11 : decode cX4_turned 11 = .ok (.iconst 5, 1) := by decide +kernel
theorem dX4_turned_12 : decode cX4_turned 12 = .ok (.irem, 1) := by decide +kernel
theorem dX4_turned_13 : decode cX4_turned 13 = .ok (.isub, 1) := by decide +kernel
theorem dX4_turned_14 : decode cX4_turned 14 = .ok (.goto 6, 3) := by decide +kernel
theorem dX4_turned_17 : decode cX4_turned 17 = .ok (.iload_n 0, 1) := by decide +kernel
theorem dX4_turned_18 : decode cX4_turned 18 = .ok (.iconst 5, 1) := by decide +kernel
theorem dX4_turned_19 : decode cX4_turned 19 = .ok (.irem, 1) := by decide +kernel
theorem dX4_turned_20 : decode cX4_turned 20 = .ok (.istore_n 3, 1) := by decide +kernel
theorem dX4_turned_21 : decode cX4_turned 21 = .ok (.iconst 0, 1) := by decide +kernel
theorem dX4_turned_22 : decode cX4_turned 22 = .ok (.istore 4, 2) := by decide +kernel
theorem dX4_turned_24 : decode cX4_turned 24 = .ok (.iload 4, 2) := by decide +kernel
theorem dX4_turned_26 : decode cX4_turned 26 = .ok (.iload_n 1, 1) := by decide +kernel
theorem dX4_turned_27 : decode cX4_turned 27 = .ok (.iconst 4, 1) := by decide +kernel
theorem dX4_turned_28 : decode cX4_turned 28 = .ok (.irem, 1) := by decide +kernel
theorem dX4_turned_29 : decode cX4_turned 29 = .ok (.if_icmp .ge 19, 3) := by decide +kernel
theorem dX4_turned_32 : decode cX4_turned 32 = .ok (.iload_n 2, 1) := by decide +kernel
theorem dX4_turned_33 : decode cX4_turned 33 = .ok (.istore 5, 2) := by decide +kernel
theorem dX4_turned_35 : decode cX4_turned 35 = .ok (.iload_n 3, 1) := by decide +kernel
theorem dX4_turned_36 : decode cX4_turned 36 = .ok (.istore_n 2, 1) := by decide +kernel
theorem dX4_turned_37 : decode cX4_turned 37 = .ok (.iconst 4, 1) := by decide +kernel
theorem dX4_turned_38 : decode cX4_turned 38 = .ok (.iload 5, 2) := by decide +kernel
theorem dX4_turned_40 : decode cX4_turned 40 = .ok (.isub, 1) := by decide +kernel
theorem dX4_turned_41 : decode cX4_turned 41 = .ok (.istore_n 3, 1) := by decide +kernel
theorem dX4_turned_42 : decode cX4_turned 42 = .ok (.iinc 4 1, 3) := by decide +kernel
theorem dX4_turned_45 : decode cX4_turned 45 = .ok (.goto (-21), 3) := by decide +kernel
theorem dX4_turned_48 : decode cX4_turned 48 = .ok (.iconst 5, 1) := by decide +kernel
theorem dX4_turned_49 : decode cX4_turned 49 = .ok (.iload_n 2, 1) := by decide +kernel
theorem dX4_turned_50 : decode cX4_turned 50 = .ok (.imul, 1) := by decide +kernel
theorem dX4_turned_51 : decode cX4_turned 51 = .ok (.iload_n 3, 1) := by decide +kernel
theorem dX4_turned_52 : decode cX4_turned 52 = .ok (.iadd, 1) := by decide +kernel
theorem dX4_turned_53 : decode cX4_turned 53 = .ok (.ireturn, 1) := by decide +kernel
def wp_X4_turned_B24 (x1 : Int32) (K24 : Int32 → Int32 → Prop) (rec24 : Int32 → Int32 → Int32 → Prop) (v4_24 : Int32) (v3_24 : Int32) (v2_24 : Int32) : Prop := (((x1 - x1 / 4 * 4) ≤ v4_24 → (K24 v3_24 v2_24)) ∧ (¬ (x1 - x1 / 4 * 4) ≤ v4_24 → (rec24 (v4_24 + 1) (4 - v2_24) v3_24)))
def wp_X4_turned_L24 (x1 : Int32) (K24 : Int32 → Int32 → Prop) : Nat → Int32 → Int32 → Int32 → Prop
  | 0, _, _, _ => False
  | nn + 1, v4_24, v3_24, v2_24 => wp_X4_turned_B24 x1 K24 (wp_X4_turned_L24 x1 K24 nn) v4_24 v3_24 v2_24
def wp_X4_turned_J20 (fu : Nat) (x0 : Int32) (x1 : Int32) (P : Int32 → Prop) (t0_20 : Int32) : Prop := (wp_X4_turned_L24 x1 (fun (v3_48 : Int32) (v2_48 : Int32) => (P ((5 * v2_48) + v3_48))) fu 0 t0_20 (x0 / 5))
def wp_X4_turned (fu : Nat) (x0 : Int32) (x1 : Int32) (P : Int32 → Prop) : Prop := ((x1 < 4 → (wp_X4_turned_J20 fu x0 x1 P (x0 - x0 / 5 * 5))) ∧ (¬ x1 < 4 → (wp_X4_turned_J20 fu x0 x1 P (4 - (x0 - x0 / 5 * 5)))))
theorem k_X4_turned : KS yX4_turned cX4_turned 6 (some .int) 2 := ⟨q1176, q5, q1177, by decide +kernel⟩
set_option maxHeartbeats 4000000 in
set_option maxRecDepth 100000 in
theorem m_X4_turned (l : Launch) (fu : Nat) (x0 : Int32) (x1 : Int32) (P : Int32 → Prop) (hF : wp_X4_turned fu x0 x1 P) : Met l yX4_turned (ws_ yX4_turned cX4_turned 6 (some .int)) ({ frames := 0, cells := 0, slots := 0, locals := 0 } : Room) (va_Pc [.int x0, .int x1] (fun _ => True)) (vp_Si P) 0 0 (fun _ => False) := by
  refine Met.ofCx (own := RX4) (by decide) rfl (Nat.le_of_ble_eq_true rfl) ?_
  intro p e s m below meth c hC hv ls hl
  obtain ⟨hx, hb, hr, hml, hown, hts, hlocks⟩ := hC
  have hl : lv_has ls 6 [(0, .int x0), (1, .int x1)] := hl
  unfold wp_X4_turned at hF
  refine lv_iload_n hx hb dX4_turned_0 rfl (lv_at hl 0 rfl) ?_
  refine lv_iconst (v := 5) hx hb dX4_turned_1 (by decide) ?_
  refine lv_idiv hx hb dX4_turned_2 (by decide) ?_
  refine lv_istore_n (lv' := [(2, .int (x0 / 5)), (0, .int x0), (1, .int x1)]) hx hb dX4_turned_3 rfl hl (by decide) rfl (fun ls hl => ?_)
  refine lv_iload_n hx hb dX4_turned_4 rfl (lv_at hl 2 rfl) ?_
  refine lv_iconst (v := 4) hx hb dX4_turned_5 (by decide) ?_
  have hJ20 : ∀ (t0_20 : Int32), wp_X4_turned_J20 fu x0 x1 P t0_20 → ∀ (ls : Array Slot), lv_has ls 6 [(2, .int (x0 / 5)), (1, .int x1)] → W p l e ({ frames := 0, cells := 0, slots := 0, locals := 0 } : Room) s m ([.int x0, .int x1] : List Value).toArray below meth c s.heap [] 0 0 (MQ below (vp_Si P) ([.int x0, .int x1] : List Value).toArray s 0 0 (fun _ => False)) (F0 m 20 ls [.int t0_20]) := by
    intro t0_20 hF ls hl
    unfold wp_X4_turned_J20 at hF
    refine lv_istore_n (lv' := [(3, .int t0_20), (2, .int (x0 / 5)), (1, .int x1)]) hx hb dX4_turned_20 rfl hl (by decide) rfl (fun ls hl => ?_)
    refine lv_iconst (v := 0) hx hb dX4_turned_21 (by decide) ?_
    refine lv_istore (lv' := [(4, .int 0), (3, .int t0_20), (2, .int (x0 / 5)), (1, .int x1)]) hx hb dX4_turned_22 hl (by decide) rfl (fun ls hl => ?_)
    have hX24 : ∀ (v3_48 : Int32), ∀ (v2_48 : Int32), (fun (v3_48 : Int32) (v2_48 : Int32) => (P ((5 * v2_48) + v3_48))) v3_48 v2_48 → ∀ (ls : Array Slot), lv_has ls 6 [(3, .int v3_48), (2, .int v2_48)] → W p l e ({ frames := 0, cells := 0, slots := 0, locals := 0 } : Room) s m ([.int x0, .int x1] : List Value).toArray below meth c s.heap [] 0 0 (MQ below (vp_Si P) ([.int x0, .int x1] : List Value).toArray s 0 0 (fun _ => False)) (F0 m 48 ls []) := by
      intro v3_48 v2_48 hF ls hl
      refine lv_iconst (v := 5) hx hb dX4_turned_48 (by decide) ?_
      refine lv_iload_n hx hb dX4_turned_49 rfl (lv_at hl 1 rfl) ?_
      refine lv_imul hx hb dX4_turned_50 ?_
      refine lv_iload_n hx hb dX4_turned_51 rfl (lv_at hl 0 rfl) ?_
      refine lv_iadd hx hb dX4_turned_52 ?_
      exact W.iret (v := (5 * v2_48) + v3_48) hx hb hr (fun t ht hW => ⟨(5 * v2_48) + v3_48, rfl, hF, ht⟩) (fun q hq => absurd hq List.not_mem_nil) dX4_turned_53
    have hL24 : ∀ (K24 : Int32 → Int32 → Prop), (∀ (v3_48 : Int32), ∀ (v2_48 : Int32), K24 v3_48 v2_48 → ∀ (ls : Array Slot), lv_has ls 6 [(3, .int v3_48), (2, .int v2_48)] → W p l e ({ frames := 0, cells := 0, slots := 0, locals := 0 } : Room) s m ([.int x0, .int x1] : List Value).toArray below meth c s.heap [] 0 0 (MQ below (vp_Si P) ([.int x0, .int x1] : List Value).toArray s 0 0 (fun _ => False)) (F0 m 48 ls [])) → ∀ (nn : Nat), ∀ (v4_24 : Int32), ∀ (v3_24 : Int32), ∀ (v2_24 : Int32), wp_X4_turned_L24 x1 K24 nn v4_24 v3_24 v2_24 → ∀ (ls : Array Slot), lv_has ls 6 [(4, .int v4_24), (3, .int v3_24), (2, .int v2_24), (1, .int x1)] → W p l e ({ frames := 0, cells := 0, slots := 0, locals := 0 } : Room) s m ([.int x0, .int x1] : List Value).toArray below meth c s.heap [] 0 0 (MQ below (vp_Si P) ([.int x0, .int x1] : List Value).toArray s 0 0 (fun _ => False)) (F0 m 24 ls []) := by
      intro K24 hX24 nn
      induction nn with
      | zero =>
        intro v4_24 v3_24 v2_24 hF
        exact hF.elim
      | succ nn ih =>
        intro v4_24 v3_24 v2_24 hF ls hl
        obtain ⟨rec24, hrec⟩ : ∃ z : Int32 → Int32 → Int32 → Prop, z = wp_X4_turned_L24 x1 K24 nn := ⟨_, rfl⟩
        have hF : wp_X4_turned_B24 x1 K24 rec24 v4_24 v3_24 v2_24 := by rw [hrec]; exact hF
        rw [← hrec] at ih
        clear hrec
        unfold wp_X4_turned_B24 at hF
        refine lv_iload hx hb dX4_turned_24 (lv_at hl 0 rfl) ?_
        refine lv_iload_n hx hb dX4_turned_26 rfl (lv_at hl 3 rfl) ?_
        refine lv_iconst (v := 4) hx hb dX4_turned_27 (by decide) ?_
        refine lv_irem hx hb dX4_turned_28 (by decide) ?_
        refine lv_icmp_ge (tgt := 48) hx hb dX4_turned_29 (by decide) (fun cz => ?_) (fun cz => ?_)
        · have hF := hF.1 cz
          exact hX24 v3_24 v2_24 hF _ (lv_sub hl [1, 2] rfl)
        · have hF := hF.2 cz
          refine lv_iload_n hx hb dX4_turned_32 rfl (lv_at hl 2 rfl) ?_
          refine lv_istore (lv' := [(5, .int v2_24), (4, .int v4_24), (3, .int v3_24), (2, .int v2_24), (1, .int x1)]) hx hb dX4_turned_33 hl (by decide) rfl (fun ls hl => ?_)
          refine lv_iload_n hx hb dX4_turned_35 rfl (lv_at hl 2 rfl) ?_
          refine lv_istore_n (lv' := [(2, .int v3_24), (5, .int v2_24), (4, .int v4_24), (3, .int v3_24), (1, .int x1)]) hx hb dX4_turned_36 rfl hl (by decide) rfl (fun ls hl => ?_)
          refine lv_iconst (v := 4) hx hb dX4_turned_37 (by decide) ?_
          refine lv_iload hx hb dX4_turned_38 (lv_at hl 1 rfl) ?_
          refine lv_isub hx hb dX4_turned_40 ?_
          refine lv_istore_n (lv' := [(3, .int (4 - v2_24)), (2, .int v3_24), (5, .int v2_24), (4, .int v4_24), (1, .int x1)]) hx hb dX4_turned_41 rfl hl (by decide) rfl (fun ls hl => ?_)
          refine lv_iinc (v := v4_24 + 1) (lv' := [(4, .int (v4_24 + 1)), (3, .int (4 - v2_24)), (2, .int v3_24), (5, .int v2_24), (1, .int x1)]) hx hb dX4_turned_42 hl (k := 3) rfl (by rfl) (by decide) rfl (fun ls hl => ?_)
          refine lv_goto (tgt := 24) hx hb dX4_turned_45 (by decide) ?_
          exact ih (v4_24 + 1) (4 - v2_24) v3_24 hF _ (lv_sub hl [0, 1, 2, 4] rfl)
    exact hL24 _ hX24 fu 0 t0_20 (x0 / 5) hF _ (lv_sub hl [0, 1, 2, 3] rfl)
  refine lv_icmp_lt (tgt := 17) hx hb dX4_turned_6 (by decide) (fun cz => ?_) (fun cz => ?_)
  · have hF := hF.1 cz
    refine lv_iload_n hx hb dX4_turned_17 rfl (lv_at hl 1 rfl) ?_
    refine lv_iconst (v := 5) hx hb dX4_turned_18 (by decide) ?_
    refine lv_irem hx hb dX4_turned_19 (by decide) ?_
    exact hJ20 (x0 - x0 / 5 * 5) hF _ (lv_sub hl [0, 2] rfl)
  · have hF := hF.2 cz
    refine lv_iconst (v := 4) hx hb dX4_turned_9 (by decide) ?_
    refine lv_iload_n hx hb dX4_turned_10 rfl (lv_at hl 1 rfl) ?_
    refine lv_iconst (v := 5) hx hb dX4_turned_11 (by decide) ?_
    refine lv_irem hx hb dX4_turned_12 (by decide) ?_
    refine lv_isub hx hb dX4_turned_13 ?_
    refine lv_goto (tgt := 20) hx hb dX4_turned_14 (by decide) ?_
    exact hJ20 (4 - (x0 - x0 / 5 * 5)) hF _ (lv_sub hl [0, 2] rfl)
theorem dX4_isSymmetry_0 : decode cX4_isSymmetry 0 = .ok (.iconst 1, 1) := by decide +kernel
theorem dX4_isSymmetry_1 : decode cX4_isSymmetry 1 = .ok (.istore_n 2, 1) := by decide +kernel
theorem dX4_isSymmetry_2 : decode cX4_isSymmetry 2 = .ok (.iconst 0, 1) := by decide +kernel
theorem dX4_isSymmetry_3 : decode cX4_isSymmetry 3 = .ok (.istore_n 3, 1) := by decide +kernel
theorem dX4_isSymmetry_4 : decode cX4_isSymmetry 4 = .ok (.iload_n 3, 1) := by decide +kernel
theorem dX4_isSymmetry_5 : decode cX4_isSymmetry 5 = .ok (.aload_n 0, 1) := by decide +kernel
theorem dX4_isSymmetry_6 : decode cX4_isSymmetry 6 = .ok (.getfield 64, 3) := by decide +kernel
theorem dX4_isSymmetry_9 : decode cX4_isSymmetry 9 = .ok (.if_icmp .ge 26, 3) := by decide +kernel
theorem dX4_isSymmetry_12 : decode cX4_isSymmetry 12 = .ok (.iload_n 2, 1) := by decide +kernel
theorem dX4_isSymmetry_13 : decode cX4_isSymmetry 13 = .ok (.aload_n 0, 1) := by decide +kernel
theorem dX4_isSymmetry_14 : decode cX4_isSymmetry 14 = .ok (.aload_n 0, 1) := by decide +kernel
theorem dX4_isSymmetry_15 : decode cX4_isSymmetry 15 = .ok (.getfield 13, 3) := by decide +kernel
theorem dX4_isSymmetry_18 : decode cX4_isSymmetry 18 = .ok (.iload_n 3, 1) := by decide +kernel
theorem dX4_isSymmetry_19 : decode cX4_isSymmetry 19 = .ok (.iaload, 1) := by decide +kernel
theorem dX4_isSymmetry_20 : decode cX4_isSymmetry 20 = .ok (.iload_n 1, 1) := by decide +kernel
theorem dX4_isSymmetry_21 : decode cX4_isSymmetry 21 = .ok (.invokestatic 135, 3) := by decide +kernel
theorem dX4_isSymmetry_24 : decode cX4_isSymmetry 24 = .ok (.invokevirtual 117, 3) := by decide +kernel
theorem dX4_isSymmetry_27 : decode cX4_isSymmetry 27 = .ok (.iand, 1) := by decide +kernel
theorem dX4_isSymmetry_28 : decode cX4_isSymmetry 28 = .ok (.istore_n 2, 1) := by decide +kernel
theorem dX4_isSymmetry_29 : decode cX4_isSymmetry 29 = .ok (.iinc 3 1, 3) := by decide +kernel
theorem dX4_isSymmetry_32 : decode cX4_isSymmetry 32 = .ok (.goto (-28), 3) := by decide +kernel
theorem dX4_isSymmetry_35 : decode cX4_isSymmetry 35 = .ok (.iconst 0, 1) := by decide +kernel
theorem dX4_isSymmetry_36 : decode cX4_isSymmetry 36 = .ok (.istore_n 3, 1) := by decide +kernel
theorem dX4_isSymmetry_37 : decode cX4_isSymmetry 37 = .ok (.iload_n 2, 1) := by decide +kernel
theorem dX4_isSymmetry_38 : decode cX4_isSymmetry 38 = .ok (.ifCond .eq 79, 3) := by decide +kernel
theorem dX4_isSymmetry_41 : decode cX4_isSymmetry 41 = .ok (.iload_n 3, 1) := by decide +kernel
theorem dX4_isSymmetry_42 : decode cX4_isSymmetry 42 = .ok (.aload_n 0, 1) := by decide +kernel
theorem dX4_isSymmetry_43 : decode cX4_isSymmetry 43 = .ok (.getfield 71, 3) := by decide +kernel
theorem dX4_isSymmetry_46 : decode cX4_isSymmetry 46 = .ok (.if_icmp .ge 71, 3) := by decide +kernel
theorem dX4_isSymmetry_49 : decode cX4_isSymmetry 49 = .ok (.aload_n 0, 1) := by decide +kernel
theorem dX4_isSymmetry_50 : decode cX4_isSymmetry 50 = .ok (.aload_n 0, 1) := by decide +kernel
theorem dX4_isSymmetry_51 : decode cX4_isSymmetry 51 = .ok (.aload_n 0, 1) := by decide +kernel
theorem dX4_isSymmetry_52 : decode cX4_isSymmetry 52 = .ok (.getfield 13, 3) := by decide +kernel
theorem dX4_isSymmetry_55 : decode cX4_isSymmetry 55 = .ok (.aload_n 0, 1) := by decide +kernel
theorem dX4_isSymmetry_56 : decode cX4_isSymmetry 56 = .ok (.getfield 19, 3) := by decide +kernel
theorem dX4_isSymmetry_59 : decode cX4_isSymmetry 59 = .ok (.iload_n 3, 1) := by decide +kernel
theorem dX4_isSymmetry_60 : decode cX4_isSymmetry 60 = .ok (.iaload, 1) := by decide +kernel
theorem dX4_isSymmetry_61 : decode cX4_isSymmetry 61 = .ok (.iaload, 1) := by decide +kernel
theorem dX4_isSymmetry_62 : decode cX4_isSymmetry 62 = .ok (.iload_n 1, 1) := by decide +kernel
theorem dX4_isSymmetry_63 : decode cX4_isSymmetry 63 = .ok (.invokestatic 135, 3) := by decide +kernel
theorem dX4_isSymmetry_66 : decode cX4_isSymmetry 66 = .ok (.invokevirtual 138, 3) := by decide +kernel
theorem dX4_isSymmetry_69 : decode cX4_isSymmetry 69 = .ok (.aload_n 0, 1) := by decide +kernel
theorem dX4_isSymmetry_70 : decode cX4_isSymmetry 70 = .ok (.aload_n 0, 1) := by decide +kernel
theorem dX4_isSymmetry_71 : decode cX4_isSymmetry 71 = .ok (.getfield 13, 3) := by decide +kernel
theorem dX4_isSymmetry_74 : decode cX4_isSymmetry 74 = .ok (.aload_n 0, 1) := by decide +kernel
theorem dX4_isSymmetry_75 : decode cX4_isSymmetry 75 = .ok (.getfield 22, 3) := by decide +kernel
theorem dX4_isSymmetry_78 : decode cX4_isSymmetry 78 = .ok (.iload_n 3, 1) := by decide +kernel
theorem dX4_isSymmetry_79 : decode cX4_isSymmetry 79 = .ok (.iaload, 1) := by decide +kernel
theorem dX4_isSymmetry_80 : decode cX4_isSymmetry 80 = .ok (.iaload, 1) := by decide +kernel
theorem dX4_isSymmetry_81 : decode cX4_isSymmetry 81 = .ok (.iload_n 1, 1) := by decide +kernel
theorem dX4_isSymmetry_82 : decode cX4_isSymmetry 82 = .ok (.invokestatic 135, 3) := by decide +kernel
theorem dX4_isSymmetry_85 : decode cX4_isSymmetry 85 = .ok (.invokevirtual 138, 3) := by decide +kernel
theorem dX4_isSymmetry_88 : decode cX4_isSymmetry 88 = .ok (.aload_n 0, 1) := by decide +kernel
theorem dX4_isSymmetry_89 : decode cX4_isSymmetry 89 = .ok (.aload_n 0, 1) := by decide +kernel
theorem dX4_isSymmetry_90 : decode cX4_isSymmetry 90 = .ok (.getfield 13, 3) := by decide +kernel
theorem dX4_isSymmetry_93 : decode cX4_isSymmetry 93 = .ok (.aload_n 0, 1) := by decide +kernel
theorem dX4_isSymmetry_94 : decode cX4_isSymmetry 94 = .ok (.getfield 25, 3) := by decide +kernel
theorem dX4_isSymmetry_97 : decode cX4_isSymmetry 97 = .ok (.iload_n 3, 1) := by decide +kernel
theorem dX4_isSymmetry_98 : decode cX4_isSymmetry 98 = .ok (.iaload, 1) := by decide +kernel
theorem dX4_isSymmetry_99 : decode cX4_isSymmetry 99 = .ok (.iaload, 1) := by decide +kernel
theorem dX4_isSymmetry_100 : decode cX4_isSymmetry 100 = .ok (.iload_n 1, 1) := by decide +kernel
theorem dX4_isSymmetry_101 : decode cX4_isSymmetry 101 = .ok (.invokestatic 135, 3) := by decide +kernel
theorem dX4_isSymmetry_104 : decode cX4_isSymmetry 104 = .ok (.invokevirtual 138, 3) := by decide +kernel
theorem dX4_isSymmetry_107 : decode cX4_isSymmetry 107 = .ok (.invokevirtual 141, 3) := by decide +kernel
theorem dX4_isSymmetry_110 : decode cX4_isSymmetry 110 = .ok (.istore_n 2, 1) := by decide +kernel
theorem dX4_isSymmetry_111 : decode cX4_isSymmetry 111 = .ok (.iinc 3 1, 3) := by decide +kernel
theorem dX4_isSymmetry_114 : decode cX4_isSymmetry 114 = .ok (.goto (-77), 3) := by decide +kernel
theorem dX4_isSymmetry_117 : decode cX4_isSymmetry 117 = .ok (.iload_n 2, 1) := by decide +kernel
theorem dX4_isSymmetry_118 : decode cX4_isSymmetry 118 = .ok (.ireturn, 1) := by decide +kernel
def wp_X4_isSymmetry_B37 (fu : Nat) (σ : SX) (x1 : Int32) (K37 : Int32 → Prop) (rec37 : Int32 → Int32 → Prop) (v3_37 : Int32) (v2_37 : Int32) : Prop := ((v2_37 = 0 → (K37 v2_37)) ∧ (¬ v2_37 = 0 → (((σ.1 1) ≤ v3_37 → (K37 v2_37)) ∧ (¬ (σ.1 1) ≤ v3_37 → (vp_in v3_37 104 ∧ (vp_in ((σ.2.1 3) v3_37.toNatClampNeg) 13 ∧ (wp_X4_turned fu ((σ.2.1 1) ((σ.2.1 3) v3_37.toNatClampNeg).toNatClampNeg) x1 (fun r63 => (wp_X4_holeAt fu σ r63 (fun r66 => (vp_in v3_37 104 ∧ (vp_in ((σ.2.1 4) v3_37.toNatClampNeg) 13 ∧ (wp_X4_turned fu ((σ.2.1 1) ((σ.2.1 4) v3_37.toNatClampNeg).toNatClampNeg) x1 (fun r82 => (wp_X4_holeAt fu σ r82 (fun r85 => (vp_in v3_37 104 ∧ (vp_in ((σ.2.1 5) v3_37.toNatClampNeg) 13 ∧ (wp_X4_turned fu ((σ.2.1 1) ((σ.2.1 5) v3_37.toNatClampNeg).toNatClampNeg) x1 (fun r101 => (wp_X4_holeAt fu σ r101 (fun r104 => (wp_X4_isJump fu σ r66 r85 r104 (fun r107 => (rec37 (v3_37 + 1) r107)))))))))))))))))))))))))
def wp_X4_isSymmetry_L37 (fu : Nat) (σ : SX) (x1 : Int32) (K37 : Int32 → Prop) : Nat → Int32 → Int32 → Prop
  | 0, _, _ => False
  | nn + 1, v3_37, v2_37 => wp_X4_isSymmetry_B37 fu σ x1 K37 (wp_X4_isSymmetry_L37 fu σ x1 K37 nn) v3_37 v2_37
def wp_X4_isSymmetry_B4 (fu : Nat) (σ : SX) (x1 : Int32) (K4 : Int32 → Prop) (rec4 : Int32 → Int32 → Prop) (v3_4 : Int32) (v2_4 : Int32) : Prop := (((σ.1 0) ≤ v3_4 → (K4 v2_4)) ∧ (¬ (σ.1 0) ≤ v3_4 → (vp_in v3_4 13 ∧ (wp_X4_turned fu ((σ.2.1 1) v3_4.toNatClampNeg) x1 (fun r21 => (wp_X4_isDrilled fu σ r21 (fun r24 => (rec4 (v3_4 + 1) (v2_4 &&& r24)))))))))
def wp_X4_isSymmetry_L4 (fu : Nat) (σ : SX) (x1 : Int32) (K4 : Int32 → Prop) : Nat → Int32 → Int32 → Prop
  | 0, _, _ => False
  | nn + 1, v3_4, v2_4 => wp_X4_isSymmetry_B4 fu σ x1 K4 (wp_X4_isSymmetry_L4 fu σ x1 K4 nn) v3_4 v2_4
def wp_X4_isSymmetry (fu : Nat) (σ : SX) (x1 : Int32) (P : Int32 → Prop) : Prop := (wp_X4_isSymmetry_L4 fu σ x1 (fun (v2_35 : Int32) => (wp_X4_isSymmetry_L37 fu σ x1 (fun (v2_117 : Int32) => (narrow .boolean (.int v2_117) = .int v2_117 ∧ (P v2_117))) fu 0 v2_35)) fu 0 1)
theorem k_X4_isSymmetry : KV RX4 yX4_isSymmetry cX4_isSymmetry 4 (some .boolean) 1 := ⟨q1173, qs30, q5, q1174, by decide +kernel⟩
set_option maxHeartbeats 4000000 in
set_option maxRecDepth 100000 in
theorem m_X4_isSymmetry (l : Launch) (dC : Nat → ClassId) (dI : Nat → Nat → Nat) (h : Nat → Nat) (cy : Nat → ClassId) (fu : Nat) (σ : SX) (x1 : Int32) (P : Int32 → Prop) (hF : wp_X4_isSymmetry fu σ x1 P) : Met l yX4_isSymmetry (ws_ yX4_isSymmetry cX4_isSymmetry 4 (some .boolean)) ({ frames := 2, cells := 0, slots := 0, locals := 44 } : Room) (va_Pc [.ref (h 0), .int x1] (fun U => va_P (dC, dI) classes (wC h cy σ) U.heap ∧ kwX dC dI cy U)) (vp_Si P) 0 0 (fun _ => False) := by
  refine Met.ofCx (own := RX4) (by decide) rfl (Nat.le_of_ble_eq_true rfl) ?_
  intro p e s m below meth c hC hv ls hl
  obtain ⟨hx, hb, hr, hml, hown, hts, hlocks⟩ := hC
  have hl : lv_has ls 4 [(0, .ref (h 0)), (1, .int x1)] := hl
  obtain ⟨hP, hK⟩ := hv
  unfold wp_X4_isSymmetry at hF
  refine lv_iconst (v := 1) hx hb dX4_isSymmetry_0 (by decide) ?_
  refine lv_istore_n (lv' := [(2, .int 1), (0, .ref (h 0)), (1, .int x1)]) hx hb dX4_isSymmetry_1 rfl hl (by decide) rfl (fun ls hl => ?_)
  refine lv_iconst (v := 0) hx hb dX4_isSymmetry_2 (by decide) ?_
  refine lv_istore_n (lv' := [(3, .int 0), (2, .int 1), (0, .ref (h 0)), (1, .int x1)]) hx hb dX4_isSymmetry_3 rfl hl (by decide) rfl (fun ls hl => ?_)
  have hX4 : ∀ (v2_35 : Int32), (fun (v2_35 : Int32) => (wp_X4_isSymmetry_L37 fu σ x1 (fun (v2_117 : Int32) => (narrow .boolean (.int v2_117) = .int v2_117 ∧ (P v2_117))) fu 0 v2_35)) v2_35 → ∀ (ls : Array Slot), lv_has ls 4 [(2, .int v2_35), (0, .ref (h 0)), (1, .int x1)] → W p l e ({ frames := 2, cells := 0, slots := 0, locals := 44 } : Room) s m ([.ref (h 0), .int x1] : List Value).toArray below meth c s.heap [] 0 0 (MQ below (vp_Si P) ([.ref (h 0), .int x1] : List Value).toArray s 0 0 (fun _ => False)) (F0 m 35 ls []) := by
    intro v2_35 hF ls hl
    refine lv_iconst (v := 0) hx hb dX4_isSymmetry_35 (by decide) ?_
    refine lv_istore_n (lv' := [(3, .int 0), (2, .int v2_35), (0, .ref (h 0)), (1, .int x1)]) hx hb dX4_isSymmetry_36 rfl hl (by decide) rfl (fun ls hl => ?_)
    have hX37 : ∀ (v2_117 : Int32), (fun (v2_117 : Int32) => (narrow .boolean (.int v2_117) = .int v2_117 ∧ (P v2_117))) v2_117 → ∀ (ls : Array Slot), lv_has ls 4 [(2, .int v2_117)] → W p l e ({ frames := 2, cells := 0, slots := 0, locals := 44 } : Room) s m ([.ref (h 0), .int x1] : List Value).toArray below meth c s.heap [] 0 0 (MQ below (vp_Si P) ([.ref (h 0), .int x1] : List Value).toArray s 0 0 (fun _ => False)) (F0 m 117 ls []) := by
      intro v2_117 hF ls hl
      refine lv_iload_n hx hb dX4_isSymmetry_117 rfl (lv_at hl 0 rfl) ?_
      exact W.zret (v := v2_117) hx hb hr hF.1 (fun t ht hW => ⟨v2_117, rfl, hF.2, ht⟩) (fun q hq => absurd hq List.not_mem_nil) dX4_isSymmetry_118
    have hL37 : ∀ (K37 : Int32 → Prop), (∀ (v2_117 : Int32), K37 v2_117 → ∀ (ls : Array Slot), lv_has ls 4 [(2, .int v2_117)] → W p l e ({ frames := 2, cells := 0, slots := 0, locals := 44 } : Room) s m ([.ref (h 0), .int x1] : List Value).toArray below meth c s.heap [] 0 0 (MQ below (vp_Si P) ([.ref (h 0), .int x1] : List Value).toArray s 0 0 (fun _ => False)) (F0 m 117 ls [])) → ∀ (nn : Nat), ∀ (v3_37 : Int32), ∀ (v2_37 : Int32), wp_X4_isSymmetry_L37 fu σ x1 K37 nn v3_37 v2_37 → ∀ (ls : Array Slot), lv_has ls 4 [(3, .int v3_37), (2, .int v2_37), (0, .ref (h 0)), (1, .int x1)] → W p l e ({ frames := 2, cells := 0, slots := 0, locals := 44 } : Room) s m ([.ref (h 0), .int x1] : List Value).toArray below meth c s.heap [] 0 0 (MQ below (vp_Si P) ([.ref (h 0), .int x1] : List Value).toArray s 0 0 (fun _ => False)) (F0 m 37 ls []) := by
      intro K37 hX37 nn
      induction nn with
      | zero =>
        intro v3_37 v2_37 hF
        exact hF.elim
      | succ nn ih =>
        intro v3_37 v2_37 hF ls hl
        obtain ⟨rec37, hrec⟩ : ∃ z : Int32 → Int32 → Prop, z = wp_X4_isSymmetry_L37 fu σ x1 K37 nn := ⟨_, rfl⟩
        have hF : wp_X4_isSymmetry_B37 fu σ x1 K37 rec37 v3_37 v2_37 := by rw [hrec]; exact hF
        rw [← hrec] at ih
        clear hrec
        unfold wp_X4_isSymmetry_B37 at hF
        refine lv_iload_n hx hb dX4_isSymmetry_37 rfl (lv_at hl 1 rfl) ?_
        refine lv_if_eq (tgt := 117) hx hb dX4_isSymmetry_38 (by decide) (fun cz => ?_) (fun cz => ?_)
        · have hF := hF.1 cz
          exact hX37 v2_37 hF _ (lv_sub hl [1] rfl)
        · have hF := hF.2 cz
          refine lv_iload_n hx hb dX4_isSymmetry_41 rfl (lv_at hl 0 rfl) ?_
          refine lv_aload_n hx hb dX4_isSymmetry_42 rfl (lv_at hl 2 rfl) ?_
          refine va_get (D := (dC, dI)) (ci := 4) (v := .int (σ.1 1)) (C := RX4) (T := TX4) (N := 19) hx hb hts in_X4 hown hK.1 hP 0 rfl rfl 14 (by decide) (hts _ q964) (fun _ h9 => h9) rfl dX4_isSymmetry_43 ?_
          refine lv_icmp_ge (tgt := 117) hx hb dX4_isSymmetry_46 (by decide) (fun cz => ?_) (fun cz => ?_)
          · have hF := hF.1 cz
            exact hX37 v2_37 hF _ (lv_sub hl [1] rfl)
          · have hF := hF.2 cz
            refine lv_aload_n hx hb dX4_isSymmetry_49 rfl (lv_at hl 2 rfl) ?_
            refine lv_aload_n hx hb dX4_isSymmetry_50 rfl (lv_at hl 2 rfl) ?_
            refine lv_aload_n hx hb dX4_isSymmetry_51 rfl (lv_at hl 2 rfl) ?_
            refine va_get (D := (dC, dI)) (ci := 4) (v := .ref (h 2)) (C := RX4) (T := TX4) (N := 19) hx hb hts in_X4 hown hK.1 hP 0 rfl rfl 1 (by decide) (hts _ q951) (fun _ h9 => h9) rfl dX4_isSymmetry_52 ?_
            refine lv_aload_n hx hb dX4_isSymmetry_55 rfl (lv_at hl 2 rfl) ?_
            refine va_get (D := (dC, dI)) (ci := 4) (v := .ref (h 4)) (C := RX4) (T := TX4) (N := 19) hx hb hts in_X4 hown hK.1 hP 0 rfl rfl 3 (by decide) (hts _ q953) (fun _ h9 => h9) rfl dX4_isSymmetry_56 ?_
            refine lv_iload_n hx hb dX4_isSymmetry_59 rfl (lv_at hl 0 rfl) ?_
            have hI := hF.1
            have hF := hF.2
            refine va_iald hx hb hK.1 hP 4 0 rfl rfl hI dX4_isSymmetry_60 ?_
            have hI := hF.1
            have hF := hF.2
            refine va_iald hx hb hK.1 hP 2 0 rfl rfl hI dX4_isSymmetry_61 ?_
            refine lv_iload_n hx hb dX4_isSymmetry_62 rfl (lv_at hl 3 rfl) ?_
            refine cpSi (As := [.int ((σ.2.1 1) ((σ.2.1 3) v3_37.toNatClampNeg).toNatClampNeg), .int x1]) (rest := [.ref (h 0), .ref (h 0)]) ⟨hx, hb, hr, hml, hown, hts, hlocks⟩ (m_X4_turned l fu ((σ.2.1 1) ((σ.2.1 3) v3_37.toNatClampNeg).toNatClampNeg) x1 _ hF) k_X4_turned q1175 ⟨rfl, rfl⟩ ⟨Nat.le_of_ble_eq_true rfl, Nat.le_of_ble_eq_true rfl⟩ hl.1 rfl rfl (Nat.le_of_ble_eq_true rfl) dX4_isSymmetry_63 ⟨Nat.le_of_ble_eq_true rfl, Nat.le_of_ble_eq_true rfl⟩ (fun r63 hF => ?_)
            refine cpVi (q0 := 0) (As := [.int r63]) (rest := [.ref (h 0)]) ⟨hx, hb, hr, hml, hown, hts, hlocks⟩ hK hP rfl rfl (m_X4_holeAt l dC dI h cy fu σ r63 _ hF) k_X4_holeAt q1178 ⟨rfl, rfl⟩ ⟨Nat.le_of_ble_eq_true rfl, Nat.le_of_ble_eq_true rfl⟩ hl.1 rfl rfl (Nat.le_of_ble_eq_true rfl) dX4_isSymmetry_66 ⟨Nat.le_of_ble_eq_true rfl, Nat.le_of_ble_eq_true rfl⟩ (fun r66 hF => ?_)
            refine lv_aload_n hx hb dX4_isSymmetry_69 rfl (lv_at hl 2 rfl) ?_
            refine lv_aload_n hx hb dX4_isSymmetry_70 rfl (lv_at hl 2 rfl) ?_
            refine va_get (D := (dC, dI)) (ci := 4) (v := .ref (h 2)) (C := RX4) (T := TX4) (N := 19) hx hb hts in_X4 hown hK.1 hP 0 rfl rfl 1 (by decide) (hts _ q951) (fun _ h9 => h9) rfl dX4_isSymmetry_71 ?_
            refine lv_aload_n hx hb dX4_isSymmetry_74 rfl (lv_at hl 2 rfl) ?_
            refine va_get (D := (dC, dI)) (ci := 4) (v := .ref (h 5)) (C := RX4) (T := TX4) (N := 19) hx hb hts in_X4 hown hK.1 hP 0 rfl rfl 4 (by decide) (hts _ q954) (fun _ h9 => h9) rfl dX4_isSymmetry_75 ?_
            refine lv_iload_n hx hb dX4_isSymmetry_78 rfl (lv_at hl 0 rfl) ?_
            have hI := hF.1
            have hF := hF.2
            refine va_iald hx hb hK.1 hP 5 0 rfl rfl hI dX4_isSymmetry_79 ?_
            have hI := hF.1
            have hF := hF.2
            refine va_iald hx hb hK.1 hP 2 0 rfl rfl hI dX4_isSymmetry_80 ?_
            refine lv_iload_n hx hb dX4_isSymmetry_81 rfl (lv_at hl 3 rfl) ?_
            refine cpSi (As := [.int ((σ.2.1 1) ((σ.2.1 4) v3_37.toNatClampNeg).toNatClampNeg), .int x1]) (rest := [.ref (h 0), .int r66, .ref (h 0)]) ⟨hx, hb, hr, hml, hown, hts, hlocks⟩ (m_X4_turned l fu ((σ.2.1 1) ((σ.2.1 4) v3_37.toNatClampNeg).toNatClampNeg) x1 _ hF) k_X4_turned q1175 ⟨rfl, rfl⟩ ⟨Nat.le_of_ble_eq_true rfl, Nat.le_of_ble_eq_true rfl⟩ hl.1 rfl rfl (Nat.le_of_ble_eq_true rfl) dX4_isSymmetry_82 ⟨Nat.le_of_ble_eq_true rfl, Nat.le_of_ble_eq_true rfl⟩ (fun r82 hF => ?_)
            refine cpVi (q0 := 0) (As := [.int r82]) (rest := [.int r66, .ref (h 0)]) ⟨hx, hb, hr, hml, hown, hts, hlocks⟩ hK hP rfl rfl (m_X4_holeAt l dC dI h cy fu σ r82 _ hF) k_X4_holeAt q1178 ⟨rfl, rfl⟩ ⟨Nat.le_of_ble_eq_true rfl, Nat.le_of_ble_eq_true rfl⟩ hl.1 rfl rfl (Nat.le_of_ble_eq_true rfl) dX4_isSymmetry_85 ⟨Nat.le_of_ble_eq_true rfl, Nat.le_of_ble_eq_true rfl⟩ (fun r85 hF => ?_)
            refine lv_aload_n hx hb dX4_isSymmetry_88 rfl (lv_at hl 2 rfl) ?_
            refine lv_aload_n hx hb dX4_isSymmetry_89 rfl (lv_at hl 2 rfl) ?_
            refine va_get (D := (dC, dI)) (ci := 4) (v := .ref (h 2)) (C := RX4) (T := TX4) (N := 19) hx hb hts in_X4 hown hK.1 hP 0 rfl rfl 1 (by decide) (hts _ q951) (fun _ h9 => h9) rfl dX4_isSymmetry_90 ?_
            refine lv_aload_n hx hb dX4_isSymmetry_93 rfl (lv_at hl 2 rfl) ?_
            refine va_get (D := (dC, dI)) (ci := 4) (v := .ref (h 6)) (C := RX4) (T := TX4) (N := 19) hx hb hts in_X4 hown hK.1 hP 0 rfl rfl 5 (by decide) (hts _ q955) (fun _ h9 => h9) rfl dX4_isSymmetry_94 ?_
            refine lv_iload_n hx hb dX4_isSymmetry_97 rfl (lv_at hl 0 rfl) ?_
            have hI := hF.1
            have hF := hF.2
            refine va_iald hx hb hK.1 hP 6 0 rfl rfl hI dX4_isSymmetry_98 ?_
            have hI := hF.1
            have hF := hF.2
            refine va_iald hx hb hK.1 hP 2 0 rfl rfl hI dX4_isSymmetry_99 ?_
            refine lv_iload_n hx hb dX4_isSymmetry_100 rfl (lv_at hl 3 rfl) ?_
            refine cpSi (As := [.int ((σ.2.1 1) ((σ.2.1 5) v3_37.toNatClampNeg).toNatClampNeg), .int x1]) (rest := [.ref (h 0), .int r85, .int r66, .ref (h 0)]) ⟨hx, hb, hr, hml, hown, hts, hlocks⟩ (m_X4_turned l fu ((σ.2.1 1) ((σ.2.1 5) v3_37.toNatClampNeg).toNatClampNeg) x1 _ hF) k_X4_turned q1175 ⟨rfl, rfl⟩ ⟨Nat.le_of_ble_eq_true rfl, Nat.le_of_ble_eq_true rfl⟩ hl.1 rfl rfl (Nat.le_of_ble_eq_true rfl) dX4_isSymmetry_101 ⟨Nat.le_of_ble_eq_true rfl, Nat.le_of_ble_eq_true rfl⟩ (fun r101 hF => ?_)
            refine cpVi (q0 := 0) (As := [.int r101]) (rest := [.int r85, .int r66, .ref (h 0)]) ⟨hx, hb, hr, hml, hown, hts, hlocks⟩ hK hP rfl rfl (m_X4_holeAt l dC dI h cy fu σ r101 _ hF) k_X4_holeAt q1178 ⟨rfl, rfl⟩ ⟨Nat.le_of_ble_eq_true rfl, Nat.le_of_ble_eq_true rfl⟩ hl.1 rfl rfl (Nat.le_of_ble_eq_true rfl) dX4_isSymmetry_104 ⟨Nat.le_of_ble_eq_true rfl, Nat.le_of_ble_eq_true rfl⟩ (fun r104 hF => ?_)
            refine cpVi (q0 := 0) (As := [.int r66, .int r85, .int r104]) (rest := []) ⟨hx, hb, hr, hml, hown, hts, hlocks⟩ hK hP rfl rfl (m_X4_isJump l dC dI h cy fu σ r66 r85 r104 _ hF) k_X4_isJump q1182 ⟨rfl, rfl⟩ ⟨Nat.le_of_ble_eq_true rfl, Nat.le_of_ble_eq_true rfl⟩ hl.1 rfl rfl (Nat.le_of_ble_eq_true rfl) dX4_isSymmetry_107 ⟨Nat.le_of_ble_eq_true rfl, Nat.le_of_ble_eq_true rfl⟩ (fun r107 hF => ?_)
            refine lv_istore_n (lv' := [(2, .int r107), (3, .int v3_37), (0, .ref (h 0)), (1, .int x1)]) hx hb dX4_isSymmetry_110 rfl hl (by decide) rfl (fun ls hl => ?_)
            refine lv_iinc (v := v3_37 + 1) (lv' := [(3, .int (v3_37 + 1)), (2, .int r107), (0, .ref (h 0)), (1, .int x1)]) hx hb dX4_isSymmetry_111 hl (k := 1) rfl (by rfl) (by decide) rfl (fun ls hl => ?_)
            refine lv_goto (tgt := 37) hx hb dX4_isSymmetry_114 (by decide) ?_
            exact ih (v3_37 + 1) r107 hF _ (lv_sub hl [0, 1, 2, 3] rfl)
    exact hL37 _ hX37 fu 0 v2_35 hF _ (lv_sub hl [0, 1, 2, 3] rfl)
  have hL4 : ∀ (K4 : Int32 → Prop), (∀ (v2_35 : Int32), K4 v2_35 → ∀ (ls : Array Slot), lv_has ls 4 [(2, .int v2_35), (0, .ref (h 0)), (1, .int x1)] → W p l e ({ frames := 2, cells := 0, slots := 0, locals := 44 } : Room) s m ([.ref (h 0), .int x1] : List Value).toArray below meth c s.heap [] 0 0 (MQ below (vp_Si P) ([.ref (h 0), .int x1] : List Value).toArray s 0 0 (fun _ => False)) (F0 m 35 ls [])) → ∀ (nn : Nat), ∀ (v3_4 : Int32), ∀ (v2_4 : Int32), wp_X4_isSymmetry_L4 fu σ x1 K4 nn v3_4 v2_4 → ∀ (ls : Array Slot), lv_has ls 4 [(3, .int v3_4), (2, .int v2_4), (0, .ref (h 0)), (1, .int x1)] → W p l e ({ frames := 2, cells := 0, slots := 0, locals := 44 } : Room) s m ([.ref (h 0), .int x1] : List Value).toArray below meth c s.heap [] 0 0 (MQ below (vp_Si P) ([.ref (h 0), .int x1] : List Value).toArray s 0 0 (fun _ => False)) (F0 m 4 ls []) := by
    intro K4 hX4 nn
    induction nn with
    | zero =>
      intro v3_4 v2_4 hF
      exact hF.elim
    | succ nn ih =>
      intro v3_4 v2_4 hF ls hl
      obtain ⟨rec4, hrec⟩ : ∃ z : Int32 → Int32 → Prop, z = wp_X4_isSymmetry_L4 fu σ x1 K4 nn := ⟨_, rfl⟩
      have hF : wp_X4_isSymmetry_B4 fu σ x1 K4 rec4 v3_4 v2_4 := by rw [hrec]; exact hF
      rw [← hrec] at ih
      clear hrec
      unfold wp_X4_isSymmetry_B4 at hF
      refine lv_iload_n hx hb dX4_isSymmetry_4 rfl (lv_at hl 0 rfl) ?_
      refine lv_aload_n hx hb dX4_isSymmetry_5 rfl (lv_at hl 2 rfl) ?_
      refine va_get (D := (dC, dI)) (ci := 4) (v := .int (σ.1 0)) (C := RX4) (T := TX4) (N := 19) hx hb hts in_X4 hown hK.1 hP 0 rfl rfl 13 (by decide) (hts _ q963) (fun _ h9 => h9) rfl dX4_isSymmetry_6 ?_
      refine lv_icmp_ge (tgt := 35) hx hb dX4_isSymmetry_9 (by decide) (fun cz => ?_) (fun cz => ?_)
      · have hF := hF.1 cz
        exact hX4 v2_4 hF _ (lv_sub hl [1, 2, 3] rfl)
      · have hF := hF.2 cz
        refine lv_iload_n hx hb dX4_isSymmetry_12 rfl (lv_at hl 1 rfl) ?_
        refine lv_aload_n hx hb dX4_isSymmetry_13 rfl (lv_at hl 2 rfl) ?_
        refine lv_aload_n hx hb dX4_isSymmetry_14 rfl (lv_at hl 2 rfl) ?_
        refine va_get (D := (dC, dI)) (ci := 4) (v := .ref (h 2)) (C := RX4) (T := TX4) (N := 19) hx hb hts in_X4 hown hK.1 hP 0 rfl rfl 1 (by decide) (hts _ q951) (fun _ h9 => h9) rfl dX4_isSymmetry_15 ?_
        refine lv_iload_n hx hb dX4_isSymmetry_18 rfl (lv_at hl 0 rfl) ?_
        have hI := hF.1
        have hF := hF.2
        refine va_iald hx hb hK.1 hP 2 0 rfl rfl hI dX4_isSymmetry_19 ?_
        refine lv_iload_n hx hb dX4_isSymmetry_20 rfl (lv_at hl 3 rfl) ?_
        refine cpSi (As := [.int ((σ.2.1 1) v3_4.toNatClampNeg), .int x1]) (rest := [.ref (h 0), .int v2_4]) ⟨hx, hb, hr, hml, hown, hts, hlocks⟩ (m_X4_turned l fu ((σ.2.1 1) v3_4.toNatClampNeg) x1 _ hF) k_X4_turned q1175 ⟨rfl, rfl⟩ ⟨Nat.le_of_ble_eq_true rfl, Nat.le_of_ble_eq_true rfl⟩ hl.1 rfl rfl (Nat.le_of_ble_eq_true rfl) dX4_isSymmetry_21 ⟨Nat.le_of_ble_eq_true rfl, Nat.le_of_ble_eq_true rfl⟩ (fun r21 hF => ?_)
        refine cpVi (q0 := 0) (As := [.int r21]) (rest := [.int v2_4]) ⟨hx, hb, hr, hml, hown, hts, hlocks⟩ hK hP rfl rfl (m_X4_isDrilled l dC dI h cy fu σ r21 _ hF) k_X4_isDrilled q1130 ⟨rfl, rfl⟩ ⟨Nat.le_of_ble_eq_true rfl, Nat.le_of_ble_eq_true rfl⟩ hl.1 rfl rfl (Nat.le_of_ble_eq_true rfl) dX4_isSymmetry_24 ⟨Nat.le_of_ble_eq_true rfl, Nat.le_of_ble_eq_true rfl⟩ (fun r24 hF => ?_)
        refine lv_iand hx hb dX4_isSymmetry_27 ?_
        refine lv_istore_n (lv' := [(2, .int (v2_4 &&& r24)), (3, .int v3_4), (0, .ref (h 0)), (1, .int x1)]) hx hb dX4_isSymmetry_28 rfl hl (by decide) rfl (fun ls hl => ?_)
        refine lv_iinc (v := v3_4 + 1) (lv' := [(3, .int (v3_4 + 1)), (2, .int (v2_4 &&& r24)), (0, .ref (h 0)), (1, .int x1)]) hx hb dX4_isSymmetry_29 hl (k := 1) rfl (by rfl) (by decide) rfl (fun ls hl => ?_)
        refine lv_goto (tgt := 4) hx hb dX4_isSymmetry_32 (by decide) ?_
        exact ih (v3_4 + 1) (v2_4 &&& r24) hF _ (lv_sub hl [0, 1, 2, 3] rfl)
  exact hL4 _ hX4 fu 0 1 hF _ (lv_sub hl [0, 1, 2, 3] rfl)
theorem dX4_jumpAt_0 : decode cX4_jumpAt 0 = .ok (.iconst 0, 1) := by decide +kernel
theorem dX4_jumpAt_1 : decode cX4_jumpAt 1 = .ok (.istore_n 2, 1) := by decide +kernel
theorem dX4_jumpAt_2 : decode cX4_jumpAt 2 = .ok (.iconst 0, 1) := by decide +kernel
theorem dX4_jumpAt_3 : decode cX4_jumpAt 3 = .ok (.istore_n 3, 1) := by decide +kernel
theorem dX4_jumpAt_4 : decode cX4_jumpAt 4 = .ok (.iload_n 3, 1) := by decide +kernel
theorem dX4_jumpAt_5 : decode cX4_jumpAt 5 = .ok (.aload_n 0, 1) := by decide +kernel
theorem dX4_jumpAt_6 : decode cX4_jumpAt 6 = .ok (.getfield 71, 3) := by decide +kernel
theorem dX4_jumpAt_9 : decode cX4_jumpAt 9 = .ok (.if_icmp .ge 43, 3) := by decide +kernel
theorem dX4_jumpAt_12 : decode cX4_jumpAt 12 = .ok (.aload_n 0, 1) := by decide +kernel
theorem dX4_jumpAt_13 : decode cX4_jumpAt 13 = .ok (.aload_n 0, 1) := by decide +kernel
theorem dX4_jumpAt_14 : decode cX4_jumpAt 14 = .ok (.getfield 120, 3) := by decide +kernel
theorem dX4_jumpAt_17 : decode cX4_jumpAt 17 = .ok (.iload_n 3, 1) := by decide +kernel
theorem dX4_jumpAt_18 : decode cX4_jumpAt 18 = .ok (.invokevirtual 159, 3) := by decide +kernel
theorem dX4_jumpAt_21 : decode cX4_jumpAt 21 = .ok (.ifCond .ne 6, 3) := by decide +kernel
theorem dX4_jumpAt_24 : decode cX4_jumpAt 24 = .ok (.goto 22, 3) := by decide +kernel
theorem dX4_jumpAt_27 : decode cX4_jumpAt 27 = .ok (.iload_n 2, 1) := by decide +kernel
theorem dX4_jumpAt_28 : decode cX4_jumpAt 28 = .ok (.iload_n 1, 1) := by decide +kernel
theorem dX4_jumpAt_29 : decode cX4_jumpAt 29 = .ok (.if_icmp .ne 14, 3) := by decide +kernel
theorem dX4_jumpAt_32 : decode cX4_jumpAt 32 = .ok (.aload_n 0, 1) := by decide +kernel
theorem dX4_jumpAt_33 : decode cX4_jumpAt 33 = .ok (.iconst 0, 1) := by decide +kernel
theorem dX4_jumpAt_34 : decode cX4_jumpAt 34 = .ok (.putfield 60, 3) := by decide +kernel
theorem dX4_jumpAt_37 : decode cX4_jumpAt 37 = .ok (.aload_n 0, 1) := by decide +kernel
theorem dX4_jumpAt_38 : decode cX4_jumpAt 38 = .ok (.iload_n 3, 1) := by decide +kernel
theorem dX4_jumpAt_39 : decode cX4_jumpAt 39 = .ok (.invokevirtual 191, 3) := by decide +kernel
theorem dX4_jumpAt_42 : decode cX4_jumpAt 42 = .ok (.ireturn, 1) := by decide +kernel
theorem dX4_jumpAt_43 : decode cX4_jumpAt 43 = .ok (.iinc 2 1, 3) := by decide +kernel
theorem dX4_jumpAt_46 : decode cX4_jumpAt 46 = .ok (.iinc 3 1, 3) := by decide +kernel
theorem dX4_jumpAt_49 : decode cX4_jumpAt 49 = .ok (.goto (-45), 3) := by decide +kernel
theorem dX4_jumpAt_52 : decode cX4_jumpAt 52 = .ok (.aload_n 0, 1) := by decide +kernel
theorem dX4_jumpAt_53 : decode cX4_jumpAt 53 = .ok (.iconst 1, 1) := by decide +kernel
theorem dX4_jumpAt_54 : decode cX4_jumpAt 54 = .ok (.putfield 60, 3) := by decide +kernel
theorem dX4_jumpAt_57 : decode cX4_jumpAt 57 = .ok (.iconst 0, 1) := by decide +kernel
theorem dX4_jumpAt_58 : decode cX4_jumpAt 58 = .ok (.ireturn, 1) := by decide +kernel
def wp_X4_jumpAt_J46 (rec4 : Int32 → Int32 → Prop) (v3_4 : Int32) (v2_46 : Int32) : Prop := (rec4 (v3_4 + 1) v2_46)
def wp_X4_jumpAt_B4 (σ : SX) (x1 : Int32) (P : Int32 → SX → Prop) (K4 : Prop) (rec4 : Int32 → Int32 → Prop) (v3_4 : Int32) (v2_4 : Int32) : Prop := (((σ.1 1) ≤ v3_4 → K4) ∧ (¬ (σ.1 1) ≤ v3_4 → (wp_X4_can σ (σ.1 2) v3_4 (fun r18 => ((¬ r18 = 0 → ((¬ v2_4 = x1 → (wp_X4_jumpAt_J46 rec4 v3_4 (v2_4 + 1))) ∧ (v2_4 = x1 → (wp_X4_codeOf (sI σ 5 0) v3_4 (fun r39 => (P r39 (sI σ 5 0))))))) ∧ (r18 = 0 → (wp_X4_jumpAt_J46 rec4 v3_4 v2_4)))))))
def wp_X4_jumpAt_L4 (σ : SX) (x1 : Int32) (P : Int32 → SX → Prop) (K4 : Prop) : Nat → Int32 → Int32 → Prop
  | 0, _, _ => False
  | nn + 1, v3_4, v2_4 => wp_X4_jumpAt_B4 σ x1 P K4 (wp_X4_jumpAt_L4 σ x1 P K4 nn) v3_4 v2_4
def wp_X4_jumpAt (fu : Nat) (σ : SX) (x1 : Int32) (P : Int32 → SX → Prop) : Prop := (wp_X4_jumpAt_L4 σ x1 P (P 0 (sI σ 5 1)) fu 0 0)
theorem k_X4_jumpAt : KV RX4 yX4_jumpAt cX4_jumpAt 4 (some .int) 1 := ⟨q1329, q1330, q5, q1331, by decide +kernel⟩
set_option maxHeartbeats 4000000 in
set_option maxRecDepth 100000 in
theorem m_X4_jumpAt (l : Launch) (dC : Nat → ClassId) (dI : Nat → Nat → Nat) (h : Nat → Nat) (cy : Nat → ClassId) (sz : Nat) (fu : Nat) (σ : SX) (x1 : Int32) (P : Int32 → SX → Prop) (hF : wp_X4_jumpAt fu σ x1 P) : Met l yX4_jumpAt (ws_ yX4_jumpAt cX4_jumpAt 4 (some .int)) ({ frames := 2, cells := 0, slots := 0, locals := 43 } : Room) (va_Pc [.ref (h 0), .int x1] (fun U => U.heap.size = sz ∧ va_P (dC, dI) classes (wC h cy σ) U.heap ∧ kwX dC dI cy U ∧ va_D (fun _ => True) (wC h cy σ))) (va_Qi (fun r u => P r u) (fun (u : SX) t => va_P (dC, dI) classes (wC h cy u) t.heap ∧ kwX dC dI cy t ∧ va_D (va_A (wC h cy σ) sz) (wC h cy u)) (va_A (wC h cy σ) sz)) 0 0 (va_A (wC h cy σ) sz) := by
  refine Met.ofCx (own := RX4) (by decide) rfl (Nat.le_of_ble_eq_true rfl) ?_
  intro p e s m below meth c hC hv ls hl
  obtain ⟨hx, hb, hr, hml, hown, hts, hlocks⟩ := hC
  have hl : lv_has ls 4 [(0, .ref (h 0)), (1, .int x1)] := hl
  obtain ⟨hsz, hP, hK, hD0⟩ := hv
  subst hsz
  have hD := hD0.self (sz := s.heap.size)
  generalize hAe : va_A (wC h cy σ) s.heap.size = A at hD ⊢
  have hA : ∀ q : Nat, s.heap.size ≤ q → A q := fun q h => by rw [← hAe]; exact Or.inr h
  have hS : va_S A s.heap s.heap [] := va_S.rf
  clear hAe
  unfold wp_X4_jumpAt at hF
  refine lv_iconst (v := 0) hx hb dX4_jumpAt_0 (by decide) ?_
  refine lv_istore_n (lv' := [(2, .int 0), (0, .ref (h 0)), (1, .int x1)]) hx hb dX4_jumpAt_1 rfl hl (by decide) rfl (fun ls hl => ?_)
  refine lv_iconst (v := 0) hx hb dX4_jumpAt_2 (by decide) ?_
  refine lv_istore_n (lv' := [(3, .int 0), (2, .int 0), (0, .ref (h 0)), (1, .int x1)]) hx hb dX4_jumpAt_3 rfl hl (by decide) rfl (fun ls hl => ?_)
  have hX4 : (P 0 (sI σ 5 1)) → ∀ (H : Heap) (locs : List Loc), va_P (dC, dI) classes (wC h cy σ) H → va_D A (wC h cy σ) → va_S A s.heap H locs → ∀ (ls : Array Slot), lv_has ls 4 [(0, .ref (h 0))] → W p l e ({ frames := 2, cells := 0, slots := 0, locals := 43 } : Room) s m ([.ref (h 0), .int x1] : List Value).toArray below meth c H locs 0 0 (MQ below (va_Qi (fun r u => P r u) (fun (u : SX) t => va_P (dC, dI) classes (wC h cy u) t.heap ∧ kwX dC dI cy t ∧ va_D A (wC h cy u)) A) ([.ref (h 0), .int x1] : List Value).toArray s 0 0 A) (F0 m 52 ls []) := by
    intro hF H locs hP hD hS ls hl
    refine lv_aload_n hx hb dX4_jumpAt_52 rfl (lv_at hl 0 rfl) ?_
    refine lv_iconst (v := 1) hx hb dX4_jumpAt_53 (by decide) ?_
    refine va_put (D := (dC, dI)) (ci := 4) (v := .int 1) (ty := .int) (C := RX4) (T := TX4) (N := 19) hx hb hts in_X4 tyX4 tyX4_ok nmX4 hown hK.1 hP hD hS 0 rfl rfl 18 (by decide) (hts _ q968) (fun _ h9 => h9) rfl (by decide +kernel) rfl rfl (Nat.le_of_ble_eq_true rfl) dX4_jumpAt_54 (fun H locs hP hD hS => ?_)
    have hP : va_P (dC, dI) classes (wC h cy (sI σ 5 1)) H := hP
    have hD : va_D A (wC h cy (sI σ 5 1)) := hD
    refine lv_iconst (v := 0) hx hb dX4_jumpAt_57 (by decide) ?_
    exact W.iret (v := 0) hx hb hr (fun t ht hW => ⟨⟨0, sI σ 5 1, rfl, hF, by rw [ht]; exact hP, hK.warm hW, hD⟩, hS.F ht⟩) hS.2.2 dX4_jumpAt_58
  have hL4 : ∀ (K4 : Prop), (K4 → ∀ (H : Heap) (locs : List Loc), va_P (dC, dI) classes (wC h cy σ) H → va_D A (wC h cy σ) → va_S A s.heap H locs → ∀ (ls : Array Slot), lv_has ls 4 [(0, .ref (h 0))] → W p l e ({ frames := 2, cells := 0, slots := 0, locals := 43 } : Room) s m ([.ref (h 0), .int x1] : List Value).toArray below meth c H locs 0 0 (MQ below (va_Qi (fun r u => P r u) (fun (u : SX) t => va_P (dC, dI) classes (wC h cy u) t.heap ∧ kwX dC dI cy t ∧ va_D A (wC h cy u)) A) ([.ref (h 0), .int x1] : List Value).toArray s 0 0 A) (F0 m 52 ls [])) → ∀ (nn : Nat), ∀ (v3_4 : Int32), ∀ (v2_4 : Int32), wp_X4_jumpAt_L4 σ x1 P K4 nn v3_4 v2_4 → ∀ (H : Heap) (locs : List Loc), va_P (dC, dI) classes (wC h cy σ) H → va_D A (wC h cy σ) → va_S A s.heap H locs → ∀ (ls : Array Slot), lv_has ls 4 [(3, .int v3_4), (2, .int v2_4), (0, .ref (h 0)), (1, .int x1)] → W p l e ({ frames := 2, cells := 0, slots := 0, locals := 43 } : Room) s m ([.ref (h 0), .int x1] : List Value).toArray below meth c H locs 0 0 (MQ below (va_Qi (fun r u => P r u) (fun (u : SX) t => va_P (dC, dI) classes (wC h cy u) t.heap ∧ kwX dC dI cy t ∧ va_D A (wC h cy u)) A) ([.ref (h 0), .int x1] : List Value).toArray s 0 0 A) (F0 m 4 ls []) := by
    intro K4 hX4 nn
    induction nn with
    | zero =>
      intro v3_4 v2_4 hF
      exact hF.elim
    | succ nn ih =>
      intro v3_4 v2_4 hF H locs hP hD hS ls hl
      obtain ⟨rec4, hrec⟩ : ∃ z : Int32 → Int32 → Prop, z = wp_X4_jumpAt_L4 σ x1 P K4 nn := ⟨_, rfl⟩
      have hF : wp_X4_jumpAt_B4 σ x1 P K4 rec4 v3_4 v2_4 := by rw [hrec]; exact hF
      rw [← hrec] at ih
      clear hrec
      unfold wp_X4_jumpAt_B4 at hF
      refine lv_iload_n hx hb dX4_jumpAt_4 rfl (lv_at hl 0 rfl) ?_
      refine lv_aload_n hx hb dX4_jumpAt_5 rfl (lv_at hl 2 rfl) ?_
      refine va_get (D := (dC, dI)) (ci := 4) (v := .int (σ.1 1)) (C := RX4) (T := TX4) (N := 19) hx hb hts in_X4 hown hK.1 hP 0 rfl rfl 14 (by decide) (hts _ q964) (fun _ h9 => h9) rfl dX4_jumpAt_6 ?_
      refine lv_icmp_ge (tgt := 52) hx hb dX4_jumpAt_9 (by decide) (fun cz => ?_) (fun cz => ?_)
      · have hF := hF.1 cz
        exact hX4 hF _ _ hP hD hS _ (lv_sub hl [2] rfl)
      · have hF := hF.2 cz
        refine lv_aload_n hx hb dX4_jumpAt_12 rfl (lv_at hl 2 rfl) ?_
        refine lv_aload_n hx hb dX4_jumpAt_13 rfl (lv_at hl 2 rfl) ?_
        refine va_get (D := (dC, dI)) (ci := 4) (v := .int (σ.1 2)) (C := RX4) (T := TX4) (N := 19) hx hb hts in_X4 hown hK.1 hP 0 rfl rfl 15 (by decide) (hts _ q965) (fun _ h9 => h9) rfl dX4_jumpAt_14 ?_
        refine lv_iload_n hx hb dX4_jumpAt_17 rfl (lv_at hl 0 rfl) ?_
        refine cpVi (q0 := 0) (As := [.int (σ.1 2), .int v3_4]) (rest := []) ⟨hx, hb, hr, hml, hown, hts, hlocks⟩ hK hP rfl rfl (m_X4_can l dC dI h cy σ (σ.1 2) v3_4 _ hF) k_X4_can q1214 ⟨rfl, rfl⟩ ⟨Nat.le_of_ble_eq_true rfl, Nat.le_of_ble_eq_true rfl⟩ hl.1 rfl rfl (Nat.le_of_ble_eq_true rfl) dX4_jumpAt_18 ⟨Nat.le_of_ble_eq_true rfl, Nat.le_of_ble_eq_true rfl⟩ (fun r18 hF => ?_)
        have hJ46 : ∀ (v2_46 : Int32), wp_X4_jumpAt_J46 rec4 v3_4 v2_46 → ∀ (H : Heap) (locs : List Loc), va_P (dC, dI) classes (wC h cy σ) H → va_D A (wC h cy σ) → va_S A s.heap H locs → ∀ (ls : Array Slot), lv_has ls 4 [(2, .int v2_46), (3, .int v3_4), (0, .ref (h 0)), (1, .int x1)] → W p l e ({ frames := 2, cells := 0, slots := 0, locals := 43 } : Room) s m ([.ref (h 0), .int x1] : List Value).toArray below meth c H locs 0 0 (MQ below (va_Qi (fun r u => P r u) (fun (u : SX) t => va_P (dC, dI) classes (wC h cy u) t.heap ∧ kwX dC dI cy t ∧ va_D A (wC h cy u)) A) ([.ref (h 0), .int x1] : List Value).toArray s 0 0 A) (F0 m 46 ls []) := by
          intro v2_46 hF H locs hP hD hS ls hl
          unfold wp_X4_jumpAt_J46 at hF
          refine lv_iinc (v := v3_4 + 1) (lv' := [(3, .int (v3_4 + 1)), (2, .int v2_46), (0, .ref (h 0)), (1, .int x1)]) hx hb dX4_jumpAt_46 hl (k := 1) rfl (by rfl) (by decide) rfl (fun ls hl => ?_)
          refine lv_goto (tgt := 4) hx hb dX4_jumpAt_49 (by decide) ?_
          exact ih (v3_4 + 1) v2_46 hF _ _ hP hD hS _ (lv_sub hl [0, 1, 2, 3] rfl)
        refine lv_if_ne (tgt := 27) hx hb dX4_jumpAt_21 (by decide) (fun cz => ?_) (fun cz => ?_)
        · have hF := hF.1 cz
          refine lv_iload_n hx hb dX4_jumpAt_27 rfl (lv_at hl 1 rfl) ?_
          refine lv_iload_n hx hb dX4_jumpAt_28 rfl (lv_at hl 3 rfl) ?_
          refine lv_icmp_ne (tgt := 43) hx hb dX4_jumpAt_29 (by decide) (fun cz => ?_) (fun cz => ?_)
          · have hF := hF.1 cz
            refine lv_iinc (v := v2_4 + 1) (lv' := [(2, .int (v2_4 + 1)), (3, .int v3_4), (0, .ref (h 0)), (1, .int x1)]) hx hb dX4_jumpAt_43 hl (k := 1) rfl (by rfl) (by decide) rfl (fun ls hl => ?_)
            exact hJ46 (v2_4 + 1) hF _ _ hP hD hS _ (lv_sub hl [0, 1, 2, 3] rfl)
          · have hF := hF.2 cz
            refine lv_aload_n hx hb dX4_jumpAt_32 rfl (lv_at hl 2 rfl) ?_
            refine lv_iconst (v := 0) hx hb dX4_jumpAt_33 (by decide) ?_
            refine va_put (D := (dC, dI)) (ci := 4) (v := .int 0) (ty := .int) (C := RX4) (T := TX4) (N := 19) hx hb hts in_X4 tyX4 tyX4_ok nmX4 hown hK.1 hP hD hS 0 rfl rfl 18 (by decide) (hts _ q968) (fun _ h9 => h9) rfl (by decide +kernel) rfl rfl (Nat.le_of_ble_eq_true rfl) dX4_jumpAt_34 (fun H locs hP hD hS => ?_)
            have hP : va_P (dC, dI) classes (wC h cy (sI σ 5 0)) H := hP
            have hD : va_D A (wC h cy (sI σ 5 0)) := hD
            refine lv_aload_n hx hb dX4_jumpAt_37 rfl (lv_at hl 2 rfl) ?_
            refine lv_iload_n hx hb dX4_jumpAt_38 rfl (lv_at hl 0 rfl) ?_
            refine cpVi (q0 := 0) (As := [.int v3_4]) (rest := []) ⟨hx, hb, hr, hml, hown, hts, hlocks⟩ hK hP rfl rfl (m_X4_codeOf l dC dI h cy (sI σ 5 0) v3_4 _ hF) k_X4_codeOf q1332 ⟨rfl, rfl⟩ ⟨Nat.le_of_ble_eq_true rfl, Nat.le_of_ble_eq_true rfl⟩ hl.1 rfl rfl (Nat.le_of_ble_eq_true rfl) dX4_jumpAt_39 ⟨Nat.le_of_ble_eq_true rfl, Nat.le_of_ble_eq_true rfl⟩ (fun r39 hF => ?_)
            exact W.iret (v := r39) hx hb hr (fun t ht hW => ⟨⟨r39, sI σ 5 0, rfl, hF, by rw [ht]; exact hP, hK.warm hW, hD⟩, hS.F ht⟩) hS.2.2 dX4_jumpAt_42
        · have hF := hF.2 cz
          refine lv_goto (tgt := 46) hx hb dX4_jumpAt_24 (by decide) ?_
          exact hJ46 v2_4 hF _ _ hP hD hS _ (lv_sub hl [1, 0, 2, 3] rfl)
  exact hL4 _ hX4 fu 0 0 hF _ _ hP hD hS _ (lv_sub hl [0, 1, 2, 3] rfl)
theorem dX4_jumpOf_0 : decode cX4_jumpOf 0 = .ok (.iconst 0, 1) := by decide +kernel
theorem dX4_jumpOf_1 : decode cX4_jumpOf 1 = .ok (.istore 4, 2) := by decide +kernel
theorem dX4_jumpOf_3 : decode cX4_jumpOf 3 = .ok (.iload 4, 2) := by decide +kernel
theorem dX4_jumpOf_5 : decode cX4_jumpOf 5 = .ok (.aload_n 0, 1) := by decide +kernel
theorem dX4_jumpOf_6 : decode cX4_jumpOf 6 = .ok (.getfield 71, 3) := by decide +kernel
theorem dX4_jumpOf_9 : decode cX4_jumpOf 9 = .ok (.if_icmp .ge 44, 3) := by decide +kernel
theorem dX4_jumpOf_12 : decode cX4_jumpOf 12 = .ok (.aload_n 0, 1) := by decide +kernel
theorem dX4_jumpOf_13 : decode cX4_jumpOf 13 = .ok (.getfield 19, 3) := by decide +kernel
theorem dX4_jumpOf_16 : decode cX4_jumpOf 16 = .ok (.iload 4, 2) := by decide +kernel
theorem dX4_jumpOf_18 : decode cX4_jumpOf 18 = .ok (.iaload, 1) := by decide +kernel
theorem dX4_jumpOf_19 : decode cX4_jumpOf 19 = .ok (.iload_n 2, 1) := by decide +kernel
theorem dX4_jumpOf_20 : decode cX4_jumpOf 20 = .ok (.if_icmp .ne 27, 3) := by decide +kernel
theorem dX4_jumpOf_23 : decode cX4_jumpOf 23 = .ok (.aload_n 0, 1) := by decide +kernel
theorem dX4_jumpOf_24 : decode cX4_jumpOf 24 = .ok (.getfield 25, 3) := by decide +kernel
theorem dX4_jumpOf_27 : decode cX4_jumpOf 27 = .ok (.iload 4, 2) := by decide +kernel
theorem dX4_jumpOf_29 : decode cX4_jumpOf 29 = .ok (.iaload, 1) := by decide +kernel
theorem dX4_jumpOf_30 : decode cX4_jumpOf 30 = .ok (.iload_n 3, 1) := by decide +kernel
theorem dX4_jumpOf_31 : decode cX4_jumpOf 31 = .ok (.if_icmp .ne 16, 3) := by decide +kernel
theorem dX4_jumpOf_34 : decode cX4_jumpOf 34 = .ok (.aload_n 0, 1) := by decide +kernel
theorem dX4_jumpOf_35 : decode cX4_jumpOf 35 = .ok (.iload_n 1, 1) := by decide +kernel
theorem dX4_jumpOf_36 : decode cX4_jumpOf 36 = .ok (.iload 4, 2) := by decide +kernel
theorem dX4_jumpOf_38 : decode cX4_jumpOf 38 = .ok (.invokevirtual 159, 3) := by decide +kernel
theorem dX4_jumpOf_41 : decode cX4_jumpOf 41 = .ok (.ifCond .eq 6, 3) := by decide +kernel
theorem dX4_jumpOf_44 : decode cX4_jumpOf 44 = .ok (.iload 4, 2) := by decide +kernel
theorem dX4_jumpOf_46 : decode cX4_jumpOf 46 = .ok (.ireturn, 1) := by decide +kernel
theorem dX4_jumpOf_47 : decode cX4_jumpOf 47 = .ok (.iinc 4 1, 3) := by decide +kernel
theorem dX4_jumpOf_50 : decode cX4_jumpOf 50 = .ok (.goto (-47), 3) := by decide +kernel
theorem dX4_jumpOf_53 : decode cX4_jumpOf 53 = .ok (.iconst (-1), 1) := by decide +kernel
theorem dX4_jumpOf_54 : decode cX4_jumpOf 54 = .ok (.ireturn, 1) := by decide +kernel
def wp_X4_jumpOf_J47 (rec3 : Int32 → Prop) (v4_3 : Int32) : Prop := (rec3 (v4_3 + 1))
def wp_X4_jumpOf_B3 (σ : SX) (x1 : Int32) (x2 : Int32) (x3 : Int32) (P : Int32 → Prop) (K3 : Prop) (rec3 : Int32 → Prop) (v4_3 : Int32) : Prop := (((σ.1 1) ≤ v4_3 → K3) ∧ (¬ (σ.1 1) ≤ v4_3 → (vp_in v4_3 104 ∧ ((¬ ((σ.2.1 3) v4_3.toNatClampNeg) = x2 → wp_X4_jumpOf_J47 rec3 v4_3) ∧ (((σ.2.1 3) v4_3.toNatClampNeg) = x2 → (vp_in v4_3 104 ∧ ((¬ ((σ.2.1 5) v4_3.toNatClampNeg) = x3 → wp_X4_jumpOf_J47 rec3 v4_3) ∧ (((σ.2.1 5) v4_3.toNatClampNeg) = x3 → (wp_X4_can σ x1 v4_3 (fun r38 => ((r38 = 0 → wp_X4_jumpOf_J47 rec3 v4_3) ∧ (¬ r38 = 0 → (P v4_3)))))))))))))
def wp_X4_jumpOf_L3 (σ : SX) (x1 : Int32) (x2 : Int32) (x3 : Int32) (P : Int32 → Prop) (K3 : Prop) : Nat → Int32 → Prop
  | 0, _ => False
  | nn + 1, v4_3 => wp_X4_jumpOf_B3 σ x1 x2 x3 P K3 (wp_X4_jumpOf_L3 σ x1 x2 x3 P K3 nn) v4_3
def wp_X4_jumpOf (fu : Nat) (σ : SX) (x1 : Int32) (x2 : Int32) (x3 : Int32) (P : Int32 → Prop) : Prop := (wp_X4_jumpOf_L3 σ x1 x2 x3 P (P (-1)) fu 0)
theorem k_X4_jumpOf : KV RX4 yX4_jumpOf cX4_jumpOf 5 (some .int) 3 := ⟨q1212, qs34, q5, q1213, by decide +kernel⟩
set_option maxHeartbeats 4000000 in
set_option maxRecDepth 100000 in
theorem m_X4_jumpOf (l : Launch) (dC : Nat → ClassId) (dI : Nat → Nat → Nat) (h : Nat → Nat) (cy : Nat → ClassId) (fu : Nat) (σ : SX) (x1 : Int32) (x2 : Int32) (x3 : Int32) (P : Int32 → Prop) (hF : wp_X4_jumpOf fu σ x1 x2 x3 P) : Met l yX4_jumpOf (ws_ yX4_jumpOf cX4_jumpOf 5 (some .int)) ({ frames := 2, cells := 0, slots := 0, locals := 43 } : Room) (va_Pc [.ref (h 0), .int x1, .int x2, .int x3] (fun U => va_P (dC, dI) classes (wC h cy σ) U.heap ∧ kwX dC dI cy U)) (vp_Si P) 0 0 (fun _ => False) := by
  refine Met.ofCx (own := RX4) (by decide) rfl (Nat.le_of_ble_eq_true rfl) ?_
  intro p e s m below meth c hC hv ls hl
  obtain ⟨hx, hb, hr, hml, hown, hts, hlocks⟩ := hC
  have hl : lv_has ls 5 [(0, .ref (h 0)), (1, .int x1), (2, .int x2), (3, .int x3)] := hl
  obtain ⟨hP, hK⟩ := hv
  unfold wp_X4_jumpOf at hF
  refine lv_iconst (v := 0) hx hb dX4_jumpOf_0 (by decide) ?_
  refine lv_istore (lv' := [(4, .int 0), (0, .ref (h 0)), (1, .int x1), (2, .int x2), (3, .int x3)]) hx hb dX4_jumpOf_1 hl (by decide) rfl (fun ls hl => ?_)
  have hX3 : (P (-1)) → ∀ (ls : Array Slot), lv_has ls 5 [] → W p l e ({ frames := 2, cells := 0, slots := 0, locals := 43 } : Room) s m ([.ref (h 0), .int x1, .int x2, .int x3] : List Value).toArray below meth c s.heap [] 0 0 (MQ below (vp_Si P) ([.ref (h 0), .int x1, .int x2, .int x3] : List Value).toArray s 0 0 (fun _ => False)) (F0 m 53 ls []) := by
    intro hF ls hl
    refine lv_iconst (v := (-1)) hx hb dX4_jumpOf_53 (by decide) ?_
    exact W.iret (v := (-1)) hx hb hr (fun t ht hW => ⟨(-1), rfl, hF, ht⟩) (fun q hq => absurd hq List.not_mem_nil) dX4_jumpOf_54
  have hL3 : ∀ (K3 : Prop), (K3 → ∀ (ls : Array Slot), lv_has ls 5 [] → W p l e ({ frames := 2, cells := 0, slots := 0, locals := 43 } : Room) s m ([.ref (h 0), .int x1, .int x2, .int x3] : List Value).toArray below meth c s.heap [] 0 0 (MQ below (vp_Si P) ([.ref (h 0), .int x1, .int x2, .int x3] : List Value).toArray s 0 0 (fun _ => False)) (F0 m 53 ls [])) → ∀ (nn : Nat), ∀ (v4_3 : Int32), wp_X4_jumpOf_L3 σ x1 x2 x3 P K3 nn v4_3 → ∀ (ls : Array Slot), lv_has ls 5 [(4, .int v4_3), (0, .ref (h 0)), (1, .int x1), (2, .int x2), (3, .int x3)] → W p l e ({ frames := 2, cells := 0, slots := 0, locals := 43 } : Room) s m ([.ref (h 0), .int x1, .int x2, .int x3] : List Value).toArray below meth c s.heap [] 0 0 (MQ below (vp_Si P) ([.ref (h 0), .int x1, .int x2, .int x3] : List Value).toArray s 0 0 (fun _ => False)) (F0 m 3 ls []) := by
    intro K3 hX3 nn
    induction nn with
    | zero =>
      intro v4_3 hF
      exact hF.elim
    | succ nn ih =>
      intro v4_3 hF ls hl
      obtain ⟨rec3, hrec⟩ : ∃ z : Int32 → Prop, z = wp_X4_jumpOf_L3 σ x1 x2 x3 P K3 nn := ⟨_, rfl⟩
      have hF : wp_X4_jumpOf_B3 σ x1 x2 x3 P K3 rec3 v4_3 := by rw [hrec]; exact hF
      rw [← hrec] at ih
      clear hrec
      unfold wp_X4_jumpOf_B3 at hF
      refine lv_iload hx hb dX4_jumpOf_3 (lv_at hl 0 rfl) ?_
      refine lv_aload_n hx hb dX4_jumpOf_5 rfl (lv_at hl 1 rfl) ?_
      refine va_get (D := (dC, dI)) (ci := 4) (v := .int (σ.1 1)) (C := RX4) (T := TX4) (N := 19) hx hb hts in_X4 hown hK.1 hP 0 rfl rfl 14 (by decide) (hts _ q964) (fun _ h9 => h9) rfl dX4_jumpOf_6 ?_
      refine lv_icmp_ge (tgt := 53) hx hb dX4_jumpOf_9 (by decide) (fun cz => ?_) (fun cz => ?_)
      · have hF := hF.1 cz
        exact hX3 hF _ (lv_sub hl [] rfl)
      · have hF := hF.2 cz
        refine lv_aload_n hx hb dX4_jumpOf_12 rfl (lv_at hl 1 rfl) ?_
        refine va_get (D := (dC, dI)) (ci := 4) (v := .ref (h 4)) (C := RX4) (T := TX4) (N := 19) hx hb hts in_X4 hown hK.1 hP 0 rfl rfl 3 (by decide) (hts _ q953) (fun _ h9 => h9) rfl dX4_jumpOf_13 ?_
        refine lv_iload hx hb dX4_jumpOf_16 (lv_at hl 0 rfl) ?_
        have hI := hF.1
        have hF := hF.2
        refine va_iald hx hb hK.1 hP 4 0 rfl rfl hI dX4_jumpOf_18 ?_
        refine lv_iload_n hx hb dX4_jumpOf_19 rfl (lv_at hl 3 rfl) ?_
        have hJ47 : wp_X4_jumpOf_J47 rec3 v4_3 → ∀ (ls : Array Slot), lv_has ls 5 [(4, .int v4_3), (0, .ref (h 0)), (1, .int x1), (2, .int x2), (3, .int x3)] → W p l e ({ frames := 2, cells := 0, slots := 0, locals := 43 } : Room) s m ([.ref (h 0), .int x1, .int x2, .int x3] : List Value).toArray below meth c s.heap [] 0 0 (MQ below (vp_Si P) ([.ref (h 0), .int x1, .int x2, .int x3] : List Value).toArray s 0 0 (fun _ => False)) (F0 m 47 ls []) := by
          intro hF ls hl
          unfold wp_X4_jumpOf_J47 at hF
          refine lv_iinc (v := v4_3 + 1) (lv' := [(4, .int (v4_3 + 1)), (0, .ref (h 0)), (1, .int x1), (2, .int x2), (3, .int x3)]) hx hb dX4_jumpOf_47 hl (k := 0) rfl (by rfl) (by decide) rfl (fun ls hl => ?_)
          refine lv_goto (tgt := 3) hx hb dX4_jumpOf_50 (by decide) ?_
          exact ih (v4_3 + 1) hF _ (lv_sub hl [0, 1, 2, 3, 4] rfl)
        refine lv_icmp_ne (tgt := 47) hx hb dX4_jumpOf_20 (by decide) (fun cz => ?_) (fun cz => ?_)
        · have hF := hF.1 cz
          exact hJ47 hF _ (lv_sub hl [0, 1, 2, 3, 4] rfl)
        · have hF := hF.2 cz
          refine lv_aload_n hx hb dX4_jumpOf_23 rfl (lv_at hl 1 rfl) ?_
          refine va_get (D := (dC, dI)) (ci := 4) (v := .ref (h 6)) (C := RX4) (T := TX4) (N := 19) hx hb hts in_X4 hown hK.1 hP 0 rfl rfl 5 (by decide) (hts _ q955) (fun _ h9 => h9) rfl dX4_jumpOf_24 ?_
          refine lv_iload hx hb dX4_jumpOf_27 (lv_at hl 0 rfl) ?_
          have hI := hF.1
          have hF := hF.2
          refine va_iald hx hb hK.1 hP 6 0 rfl rfl hI dX4_jumpOf_29 ?_
          refine lv_iload_n hx hb dX4_jumpOf_30 rfl (lv_at hl 4 rfl) ?_
          refine lv_icmp_ne (tgt := 47) hx hb dX4_jumpOf_31 (by decide) (fun cz => ?_) (fun cz => ?_)
          · have hF := hF.1 cz
            exact hJ47 hF _ (lv_sub hl [0, 1, 2, 3, 4] rfl)
          · have hF := hF.2 cz
            refine lv_aload_n hx hb dX4_jumpOf_34 rfl (lv_at hl 1 rfl) ?_
            refine lv_iload_n hx hb dX4_jumpOf_35 rfl (lv_at hl 2 rfl) ?_
            refine lv_iload hx hb dX4_jumpOf_36 (lv_at hl 0 rfl) ?_
            refine cpVi (q0 := 0) (As := [.int x1, .int v4_3]) (rest := []) ⟨hx, hb, hr, hml, hown, hts, hlocks⟩ hK hP rfl rfl (m_X4_can l dC dI h cy σ x1 v4_3 _ hF) k_X4_can q1214 ⟨rfl, rfl⟩ ⟨Nat.le_of_ble_eq_true rfl, Nat.le_of_ble_eq_true rfl⟩ hl.1 rfl rfl (Nat.le_of_ble_eq_true rfl) dX4_jumpOf_38 ⟨Nat.le_of_ble_eq_true rfl, Nat.le_of_ble_eq_true rfl⟩ (fun r38 hF => ?_)
            refine lv_if_eq (tgt := 47) hx hb dX4_jumpOf_41 (by decide) (fun cz => ?_) (fun cz => ?_)
            · have hF := hF.1 cz
              exact hJ47 hF _ (lv_sub hl [0, 1, 2, 3, 4] rfl)
            · have hF := hF.2 cz
              refine lv_iload hx hb dX4_jumpOf_44 (lv_at hl 0 rfl) ?_
              exact W.iret (v := v4_3) hx hb hr (fun t ht hW => ⟨v4_3, rfl, hF, ht⟩) (fun q hq => absurd hq List.not_mem_nil) dX4_jumpOf_46
  exact hL3 _ hX3 fu 0 hF _ (lv_sub hl [0, 1, 2, 3, 4] rfl)
theorem dX4_jumps_0 : decode cX4_jumps 0 = .ok (.aload_n 0, 1) := by decide +kernel
theorem dX4_jumps_1 : decode cX4_jumps 1 = .ok (.iconst 0, 1) := by decide +kernel
theorem dX4_jumps_2 : decode cX4_jumps 2 = .ok (.putfield 60, 3) := by decide +kernel
theorem dX4_jumps_5 : decode cX4_jumps 5 = .ok (.aload_n 0, 1) := by decide +kernel
theorem dX4_jumps_6 : decode cX4_jumps 6 = .ok (.aload_n 0, 1) := by decide +kernel
theorem dX4_jumps_7 : decode cX4_jumps 7 = .ok (.getfield 120, 3) := by decide +kernel
theorem dX4_jumps_10 : decode cX4_jumps 10 = .ok (.invokevirtual 188, 3) := by decide +kernel
theorem dX4_jumps_13 : decode cX4_jumps 13 = .ok (.ireturn, 1) := by decide +kernel
def wp_X4_jumps (fu : Nat) (σ : SX) (P : Int32 → SX → Prop) : Prop := (wp_X4_jumpsOf fu (sI σ 5 0) (σ.1 2) (fun r10 => (P r10 (sI σ 5 0))))
theorem k_X4_jumps : KV RX4 yX4_jumps cX4_jumps 1 (some .int) 0 := ⟨q1321, q1322, q5, q1323, by decide +kernel⟩
set_option maxHeartbeats 4000000 in
set_option maxRecDepth 100000 in
theorem m_X4_jumps (l : Launch) (dC : Nat → ClassId) (dI : Nat → Nat → Nat) (h : Nat → Nat) (cy : Nat → ClassId) (sz : Nat) (fu : Nat) (σ : SX) (P : Int32 → SX → Prop) (hF : wp_X4_jumps fu σ P) : Met l yX4_jumps (ws_ yX4_jumps cX4_jumps 1 (some .int)) ({ frames := 3, cells := 0, slots := 0, locals := 66 } : Room) (va_Pc [.ref (h 0)] (fun U => U.heap.size = sz ∧ va_P (dC, dI) classes (wC h cy σ) U.heap ∧ kwX dC dI cy U ∧ va_D (fun _ => True) (wC h cy σ))) (va_Qi (fun r u => P r u) (fun (u : SX) t => va_P (dC, dI) classes (wC h cy u) t.heap ∧ kwX dC dI cy t ∧ va_D (va_A (wC h cy σ) sz) (wC h cy u)) (va_A (wC h cy σ) sz)) 0 0 (va_A (wC h cy σ) sz) := by
  refine Met.ofCx (own := RX4) (by decide) rfl (Nat.le_of_ble_eq_true rfl) ?_
  intro p e s m below meth c hC hv ls hl
  obtain ⟨hx, hb, hr, hml, hown, hts, hlocks⟩ := hC
  have hl : lv_has ls 1 [(0, .ref (h 0))] := hl
  obtain ⟨hsz, hP, hK, hD0⟩ := hv
  subst hsz
  have hD := hD0.self (sz := s.heap.size)
  generalize hAe : va_A (wC h cy σ) s.heap.size = A at hD ⊢
  have hA : ∀ q : Nat, s.heap.size ≤ q → A q := fun q h => by rw [← hAe]; exact Or.inr h
  have hS : va_S A s.heap s.heap [] := va_S.rf
  clear hAe
  unfold wp_X4_jumps at hF
  refine lv_aload_n hx hb dX4_jumps_0 rfl (lv_at hl 0 rfl) ?_
  refine lv_iconst (v := 0) hx hb dX4_jumps_1 (by decide) ?_
  refine va_put (D := (dC, dI)) (ci := 4) (v := .int 0) (ty := .int) (C := RX4) (T := TX4) (N := 19) hx hb hts in_X4 tyX4 tyX4_ok nmX4 hown hK.1 hP hD hS 0 rfl rfl 18 (by decide) (hts _ q968) (fun _ h9 => h9) rfl (by decide +kernel) rfl rfl (Nat.le_of_ble_eq_true rfl) dX4_jumps_2 (fun H locs hP hD hS => ?_)
  have hP : va_P (dC, dI) classes (wC h cy (sI σ 5 0)) H := hP
  have hD : va_D A (wC h cy (sI σ 5 0)) := hD
  refine lv_aload_n hx hb dX4_jumps_5 rfl (lv_at hl 0 rfl) ?_
  refine lv_aload_n hx hb dX4_jumps_6 rfl (lv_at hl 0 rfl) ?_
  refine va_get (D := (dC, dI)) (ci := 4) (v := .int (σ.1 2)) (C := RX4) (T := TX4) (N := 19) hx hb hts in_X4 hown hK.1 hP 0 rfl rfl 15 (by decide) (hts _ q965) (fun _ h9 => h9) rfl dX4_jumps_7 ?_
  refine cpVi (q0 := 0) (As := [.int (σ.1 2)]) (rest := []) ⟨hx, hb, hr, hml, hown, hts, hlocks⟩ hK hP rfl rfl (m_X4_jumpsOf l dC dI h cy fu (sI σ 5 0) (σ.1 2) _ hF) k_X4_jumpsOf q1324 ⟨rfl, rfl⟩ ⟨Nat.le_of_ble_eq_true rfl, Nat.le_of_ble_eq_true rfl⟩ hl.1 rfl rfl (Nat.le_of_ble_eq_true rfl) dX4_jumps_10 ⟨Nat.le_of_ble_eq_true rfl, Nat.le_of_ble_eq_true rfl⟩ (fun r10 hF => ?_)
  exact W.iret (v := r10) hx hb hr (fun t ht hW => ⟨⟨r10, sI σ 5 0, rfl, hF, by rw [ht]; exact hP, hK.warm hW, hD⟩, hS.F ht⟩) hS.2.2 dX4_jumps_13
theorem dX4_leastForm_0 : decode cX4_leastForm 0 = .ok (.aload_n 0, 1) := by decide +kernel
theorem dX4_leastForm_1 : decode cX4_leastForm 1 = .ok (.aload_n 0, 1) := by decide +kernel
theorem dX4_leastForm_2 : decode cX4_leastForm 2 = .ok (.iload_n 1, 1) := by decide +kernel
theorem dX4_leastForm_3 : decode cX4_leastForm 3 = .ok (.invokevirtual 147, 3) := by decide +kernel
theorem dX4_leastForm_6 : decode cX4_leastForm 6 = .ok (.ifCond .eq 7, 3) := by decide +kernel
theorem dX4_leastForm_9 : decode cX4_leastForm 9 = .ok (.iconst 0, 1) := by decide +kernel
theorem dX4_leastForm_10 : decode cX4_leastForm 10 = .ok (.goto 4, 3) := by decide +kernel
theorem dX4_leastForm_13 : decode cX4_leastForm 13 = .ok (.iconst 1, 1) := by decide +kernel
theorem dX4_leastForm_14 : decode cX4_leastForm 14 = .ok (.invokevirtual 100, 3) := by decide +kernel
theorem dX4_leastForm_17 : decode cX4_leastForm 17 = .ok (.ifCond .eq 5, 3) := by decide +kernel
theorem dX4_leastForm_20 : decode cX4_leastForm 20 = .ok (.iconst 0, 1) := by decide +kernel
theorem dX4_leastForm_21 : decode cX4_leastForm 21 = .ok (.ireturn, 1) := by decide +kernel
theorem dX4_leastForm_22 : decode cX4_leastForm 22 = .ok (.iload_n 1, 1) := by decide +kernel
theorem dX4_leastForm_23 : decode cX4_leastForm 23 = .ok (.istore_n 2, 1) := by decide +kernel
theorem dX4_leastForm_24 : decode cX4_leastForm 24 = .ok (.iconst 0, 1) := by decide +kernel
theorem dX4_leastForm_25 : decode cX4_leastForm 25 = .ok (.istore_n 3, 1) := by decide +kernel
theorem dX4_leastForm_26 : decode cX4_leastForm 26 = .ok (.iload_n 3, 1) := by decide +kernel
theorem dX4_leastForm_27 : decode cX4_leastForm 27 = .ok (.bipush 8, 2) := by decide +kernel
theorem dX4_leastForm_29 : decode cX4_leastForm 29 = .ok (.if_icmp .ge 83, 3) := by decide +kernel
theorem dX4_leastForm_32 : decode cX4_leastForm 32 = .ok (.aload_n 0, 1) := by decide +kernel
theorem dX4_leastForm_33 : decode cX4_leastForm 33 = .ok (.iload_n 3, 1) := by decide +kernel
theorem dX4_leastForm_34 : decode cX4_leastForm 34 = .ok (.invokevirtual 144, 3) := by decide +kernel
theorem dX4_leastForm_37 : decode cX4_leastForm 37 = .ok (.ifCond .ne 6, 3) := by decide +kernel
theorem dX4_leastForm_40 : decode cX4_leastForm 40 = .ok (.goto 66, 3) := by decide +kernel
theorem dX4_leastForm_43 : decode cX4_leastForm 43 = .ok (.iconst 0, 1) := by decide +kernel
theorem dX4_leastForm_44 : decode cX4_leastForm 44 = .ok (.istore 4, 2) := by decide +kernel
theorem dX4_leastForm_46 : decode cX4_leastForm 46 = .ok (.iconst 0, 1) := by decide +kernel
theorem dX4_leastForm_47 : decode cX4_leastForm 47 = .ok (.istore 5, 2) := by decide +kernel
theorem dX4_leastForm_49 : decode cX4_leastForm 49 = .ok (.iload 5, 2) := by decide +kernel
theorem dX4_leastForm_51 : decode cX4_leastForm 51 = .ok (.aload_n 0, 1) := by decide +kernel
theorem dX4_leastForm_52 : decode cX4_leastForm 52 = .ok (.getfield 64, 3) := by decide +kernel
theorem dX4_leastForm_55 : decode cX4_leastForm 55 = .ok (.if_icmp .ge 44, 3) := by decide +kernel
theorem dX4_leastForm_58 : decode cX4_leastForm 58 = .ok (.iload 4, 2) := by decide +kernel
theorem dX4_leastForm_60 : decode cX4_leastForm 60 = .ok (.iload_n 1, 1) := by decide +kernel
theorem dX4_leastForm_61 : decode cX4_leastForm 61 = .ok (.iload 5, 2) := by decide +kernel
theorem dX4_leastForm_63 : decode cX4_leastForm 63 = .ok (.invokestatic 150, 3) := by decide +kernel
theorem dX4_leastForm_66 : decode cX4_leastForm 66 = .ok (.ifCond .eq 23, 3) := by decide +kernel
theorem dX4_leastForm_69 : decode cX4_leastForm 69 = .ok (.iconst 1, 1) := by decide +kernel
theorem dX4_leastForm_70 : decode cX4_leastForm 70 = .ok (.aload_n 0, 1) := by decide +kernel
theorem dX4_leastForm_71 : decode cX4_leastForm 71 = .ok (.aload_n 0, 1) := by decide +kernel
theorem dX4_leastForm_72 : decode cX4_leastForm 72 = .ok (.getfield 13, 3) := by decide +kernel
theorem dX4_leastForm_75 : decode cX4_leastForm 75 = .ok (.iload 5, 2) := by decide +kernel
theorem dX4_leastForm_77 : decode cX4_leastForm 77 = .ok (.iaload, 1) := by decide +kernel
theorem dX4_leastForm_78 : decode cX4_leastForm 78 = .ok (.iload_n 3, 1) := by decide +kernel
theorem dX4_leastForm_79 : decode cX4_leastForm 79 = .ok (.invokestatic 135, 3) := by decide +kernel
theorem dX4_leastForm_82 : decode cX4_leastForm 82 = .ok (.invokevirtual 138, 3) := by decide +kernel
theorem dX4_leastForm_85 : decode cX4_leastForm 85 = .ok (.ishl, 1) := by decide +kernel
theorem dX4_leastForm_86 : decode cX4_leastForm 86 = .ok (.goto 4, 3) := by decide +kernel
theorem dX4_leastForm_89 : decode cX4_leastForm 89 = .ok (.iconst 0, 1) := by decide +kernel
theorem dX4_leastForm_90 : decode cX4_leastForm 90 = .ok (.ior, 1) := by decide +kernel
theorem dX4_leastForm_91 : decode cX4_leastForm 91 = .ok (.istore 4, 2) := by decide +kernel
theorem dX4_leastForm_93 : decode cX4_leastForm 93 = .ok (.iinc 5 1, 3) := by decide +kernel
theorem dX4_leastForm_96 : decode cX4_leastForm 96 = .ok (.goto (-47), 3) := by decide +kernel
theorem dX4_leastForm_99 : decode cX4_leastForm 99 = .ok (.iload_n 2, 1) := by decide +kernel
theorem dX4_leastForm_100 : decode cX4_leastForm 100 = .ok (.iload 4, 2) := by decide +kernel
theorem dX4_leastForm_102 : decode cX4_leastForm 102 = .ok (.invokestatic 154, 3) := by decide +kernel
theorem dX4_leastForm_105 : decode cX4_leastForm 105 = .ok (.istore_n 2, 1) := by decide +kernel
theorem dX4_leastForm_106 : decode cX4_leastForm 106 = .ok (.iinc 3 1, 3) := by decide +kernel
theorem dX4_leastForm_109 : decode cX4_leastForm 109 = .ok (.goto (-83), 3) := by decide +kernel
theorem dX4_leastForm_112 : decode cX4_leastForm 112 = .ok (.iload_n 2, 1) := by decide +kernel
theorem dX4_leastForm_113 : decode cX4_leastForm 113 = .ok (.ireturn, 1) := by decide +kernel
def wp_X4_leastForm_J106 (rec26 : Int32 → Int32 → Prop) (v3_26 : Int32) (v2_106 : Int32) : Prop := (rec26 (v3_26 + 1) v2_106)
def wp_X4_leastForm_J90 (rec49 : Int32 → Int32 → Prop) (v5_49 : Int32) (v4_49 : Int32) (t1_90 : Int32) : Prop := (rec49 (v5_49 + 1) (v4_49 ||| t1_90))
def wp_X4_leastForm_B49 (fu : Nat) (x1 : Int32) (s14 : SX) (v3_26 : Int32) (K49 : Int32 → Prop) (rec49 : Int32 → Int32 → Prop) (v5_49 : Int32) (v4_49 : Int32) : Prop := (((s14.1 0) ≤ v5_49 → (K49 v4_49)) ∧ (¬ (s14.1 0) ≤ v5_49 → (wp_X4_has x1 v5_49 (fun r63 => ((r63 = 0 → (wp_X4_leastForm_J90 rec49 v5_49 v4_49 0)) ∧ (¬ r63 = 0 → (vp_in v5_49 13 ∧ (wp_X4_turned fu ((s14.2.1 1) v5_49.toNatClampNeg) v3_26 (fun r79 => (wp_X4_holeAt fu s14 r79 (fun r82 => (wp_X4_leastForm_J90 rec49 v5_49 v4_49 ((1 : Int32) <<< (r82 &&& 31))))))))))))))
def wp_X4_leastForm_L49 (fu : Nat) (x1 : Int32) (s14 : SX) (v3_26 : Int32) (K49 : Int32 → Prop) : Nat → Int32 → Int32 → Prop
  | 0, _, _ => False
  | nn + 1, v5_49, v4_49 => wp_X4_leastForm_B49 fu x1 s14 v3_26 K49 (wp_X4_leastForm_L49 fu x1 s14 v3_26 K49 nn) v5_49 v4_49
def wp_X4_leastForm_B26 (fu : Nat) (x1 : Int32) (s14 : SX) (K26 : Int32 → Prop) (rec26 : Int32 → Int32 → Prop) (v3_26 : Int32) (v2_26 : Int32) : Prop := ((8 ≤ v3_26 → (K26 v2_26)) ∧ (¬ 8 ≤ v3_26 → (wp_X4_isSymmetry fu s14 v3_26 (fun r34 => ((¬ r34 = 0 → (wp_X4_leastForm_L49 fu x1 s14 v3_26 (fun (v4_99 : Int32) => (wp_X4_leastForm_J106 rec26 v3_26 (jmin v2_26 v4_99))) fu 0 0)) ∧ (r34 = 0 → (wp_X4_leastForm_J106 rec26 v3_26 v2_26)))))))
def wp_X4_leastForm_L26 (fu : Nat) (x1 : Int32) (s14 : SX) (K26 : Int32 → Prop) : Nat → Int32 → Int32 → Prop
  | 0, _, _ => False
  | nn + 1, v3_26, v2_26 => wp_X4_leastForm_B26 fu x1 s14 K26 (wp_X4_leastForm_L26 fu x1 s14 K26 nn) v3_26 v2_26
def wp_X4_leastForm_J14 (fu : Nat) (σ : SX) (x1 : Int32) (P : Int32 → SX → Prop) (t1_14 : Int32) : Prop := (wp_X4_fails σ t1_14 (fun r14 s14 => ((r14 = 0 → (wp_X4_leastForm_L26 fu x1 s14 (fun (v2_112 : Int32) => (P v2_112 s14)) fu 0 x1)) ∧ (¬ r14 = 0 → (P 0 s14)))))
def wp_X4_leastForm (fu : Nat) (σ : SX) (x1 : Int32) (P : Int32 → SX → Prop) : Prop := (wp_X4_isPosition σ x1 (fun r3 => ((r3 = 0 → (wp_X4_leastForm_J14 fu σ x1 P 1)) ∧ (¬ r3 = 0 → (wp_X4_leastForm_J14 fu σ x1 P 0)))))
theorem k_X4_leastForm : KV RX4 yX4_leastForm cX4_leastForm 6 (some .int) 1 := ⟨q1187, q1188, q5, q1189, by decide +kernel⟩
set_option maxHeartbeats 4000000 in
set_option maxRecDepth 100000 in
theorem m_X4_leastForm (l : Launch) (dC : Nat → ClassId) (dI : Nat → Nat → Nat) (h : Nat → Nat) (cy : Nat → ClassId) (sz : Nat) (fu : Nat) (σ : SX) (x1 : Int32) (P : Int32 → SX → Prop) (hF : wp_X4_leastForm fu σ x1 P) : Met l yX4_leastForm (ws_ yX4_leastForm cX4_leastForm 6 (some .int)) ({ frames := 3, cells := 0, slots := 0, locals := 67 } : Room) (va_Pc [.ref (h 0), .int x1] (fun U => U.heap.size = sz ∧ va_P (dC, dI) classes (wC h cy σ) U.heap ∧ kwX dC dI cy U ∧ va_D (fun _ => True) (wC h cy σ))) (va_Qi (fun r u => P r u) (fun (u : SX) t => va_P (dC, dI) classes (wC h cy u) t.heap ∧ kwX dC dI cy t ∧ va_D (va_A (wC h cy σ) sz) (wC h cy u)) (va_A (wC h cy σ) sz)) 0 0 (va_A (wC h cy σ) sz) := by
  refine Met.ofCx (own := RX4) (by decide) rfl (Nat.le_of_ble_eq_true rfl) ?_
  intro p e s m below meth c hC hv ls hl
  obtain ⟨hx, hb, hr, hml, hown, hts, hlocks⟩ := hC
  have hl : lv_has ls 6 [(0, .ref (h 0)), (1, .int x1)] := hl
  obtain ⟨hsz, hP, hK, hD0⟩ := hv
  subst hsz
  have hD := hD0.self (sz := s.heap.size)
  generalize hAe : va_A (wC h cy σ) s.heap.size = A at hD ⊢
  have hA : ∀ q : Nat, s.heap.size ≤ q → A q := fun q h => by rw [← hAe]; exact Or.inr h
  have hS : va_S A s.heap s.heap [] := va_S.rf
  clear hAe
  unfold wp_X4_leastForm at hF
  refine lv_aload_n hx hb dX4_leastForm_0 rfl (lv_at hl 0 rfl) ?_
  refine lv_aload_n hx hb dX4_leastForm_1 rfl (lv_at hl 0 rfl) ?_
  refine lv_iload_n hx hb dX4_leastForm_2 rfl (lv_at hl 1 rfl) ?_
  refine cpVi (q0 := 0) (As := [.int x1]) (rest := [.ref (h 0)]) ⟨hx, hb, hr, hml, hown, hts, hlocks⟩ hK hP rfl rfl (m_X4_isPosition l dC dI h cy σ x1 _ hF) k_X4_isPosition q1190 ⟨rfl, rfl⟩ ⟨Nat.le_of_ble_eq_true rfl, Nat.le_of_ble_eq_true rfl⟩ hl.1 rfl rfl (Nat.le_of_ble_eq_true rfl) dX4_leastForm_3 ⟨Nat.le_of_ble_eq_true rfl, Nat.le_of_ble_eq_true rfl⟩ (fun r3 hF => ?_)
  have hJ14 : ∀ (t1_14 : Int32), wp_X4_leastForm_J14 fu σ x1 P t1_14 → ∀ (H : Heap) (locs : List Loc), va_P (dC, dI) classes (wC h cy σ) H → va_D A (wC h cy σ) → va_S A s.heap H locs → ∀ (ls : Array Slot), lv_has ls 6 [(0, .ref (h 0)), (1, .int x1)] → W p l e ({ frames := 3, cells := 0, slots := 0, locals := 67 } : Room) s m ([.ref (h 0), .int x1] : List Value).toArray below meth c H locs 0 0 (MQ below (va_Qi (fun r u => P r u) (fun (u : SX) t => va_P (dC, dI) classes (wC h cy u) t.heap ∧ kwX dC dI cy t ∧ va_D A (wC h cy u)) A) ([.ref (h 0), .int x1] : List Value).toArray s 0 0 A) (F0 m 14 ls [.int t1_14, .ref (h 0)]) := by
    intro t1_14 hF H locs hP hD hS ls hl
    unfold wp_X4_leastForm_J14 at hF
    have hFc := va_free (wc := wC h cy σ) hD hS hA [0, 1, 2, 3, 4, 5, 6, 7, 8, 9] rfl
    refine cwVi (q0 := 0) (As := [.int t1_14]) (rest := []) ⟨hx, hb, hr, hml, hown, hts, hlocks⟩ hK hP hD rfl rfl hS hFc (m_X4_fails l dC dI h cy _ σ t1_14 _ hF) k_X4_fails q1102 ⟨rfl, rfl⟩ ⟨Nat.le_of_ble_eq_true rfl, Nat.le_of_ble_eq_true rfl⟩ hl.1 rfl rfl (Nat.le_of_ble_eq_true rfl) dX4_leastForm_14 ⟨Nat.le_of_ble_eq_true rfl, Nat.le_of_ble_eq_true rfl⟩ (fun r14 u H1 locs hF hP1 hD1 hk1 hS => ?_)
    obtain ⟨s14, rfl⟩ : ∃ z, z = u := ⟨_, rfl⟩
    have hP := hP1
    have hD := hD1.weaken (fun _ q _ h => hFc q.1 h)
    generalize H1 = H at hP hS ⊢
    have hP : va_P (dC, dI) classes (wC h cy s14) H := hP
    have hD : va_D A (wC h cy s14) := hD
    refine lv_if_eq (tgt := 22) hx hb dX4_leastForm_17 (by decide) (fun cz => ?_) (fun cz => ?_)
    · have hF := hF.1 cz
      refine lv_iload_n hx hb dX4_leastForm_22 rfl (lv_at hl 1 rfl) ?_
      refine lv_istore_n (lv' := [(2, .int x1), (0, .ref (h 0)), (1, .int x1)]) hx hb dX4_leastForm_23 rfl hl (by decide) rfl (fun ls hl => ?_)
      refine lv_iconst (v := 0) hx hb dX4_leastForm_24 (by decide) ?_
      refine lv_istore_n (lv' := [(3, .int 0), (2, .int x1), (0, .ref (h 0)), (1, .int x1)]) hx hb dX4_leastForm_25 rfl hl (by decide) rfl (fun ls hl => ?_)
      have hX26 : ∀ (v2_112 : Int32), (fun (v2_112 : Int32) => (P v2_112 s14)) v2_112 → ∀ (H : Heap) (locs : List Loc), va_P (dC, dI) classes (wC h cy s14) H → va_D A (wC h cy s14) → va_S A s.heap H locs → ∀ (ls : Array Slot), lv_has ls 6 [(2, .int v2_112)] → W p l e ({ frames := 3, cells := 0, slots := 0, locals := 67 } : Room) s m ([.ref (h 0), .int x1] : List Value).toArray below meth c H locs 0 0 (MQ below (va_Qi (fun r u => P r u) (fun (u : SX) t => va_P (dC, dI) classes (wC h cy u) t.heap ∧ kwX dC dI cy t ∧ va_D A (wC h cy u)) A) ([.ref (h 0), .int x1] : List Value).toArray s 0 0 A) (F0 m 112 ls []) := by
        intro v2_112 hF H locs hP hD hS ls hl
        refine lv_iload_n hx hb dX4_leastForm_112 rfl (lv_at hl 0 rfl) ?_
        exact W.iret (v := v2_112) hx hb hr (fun t ht hW => ⟨⟨v2_112, s14, rfl, hF, by rw [ht]; exact hP, hK.warm hW, hD⟩, hS.F ht⟩) hS.2.2 dX4_leastForm_113
      have hL26 : ∀ (K26 : Int32 → Prop), (∀ (v2_112 : Int32), K26 v2_112 → ∀ (H : Heap) (locs : List Loc), va_P (dC, dI) classes (wC h cy s14) H → va_D A (wC h cy s14) → va_S A s.heap H locs → ∀ (ls : Array Slot), lv_has ls 6 [(2, .int v2_112)] → W p l e ({ frames := 3, cells := 0, slots := 0, locals := 67 } : Room) s m ([.ref (h 0), .int x1] : List Value).toArray below meth c H locs 0 0 (MQ below (va_Qi (fun r u => P r u) (fun (u : SX) t => va_P (dC, dI) classes (wC h cy u) t.heap ∧ kwX dC dI cy t ∧ va_D A (wC h cy u)) A) ([.ref (h 0), .int x1] : List Value).toArray s 0 0 A) (F0 m 112 ls [])) → ∀ (nn : Nat), ∀ (v3_26 : Int32), ∀ (v2_26 : Int32), wp_X4_leastForm_L26 fu x1 s14 K26 nn v3_26 v2_26 → ∀ (H : Heap) (locs : List Loc), va_P (dC, dI) classes (wC h cy s14) H → va_D A (wC h cy s14) → va_S A s.heap H locs → ∀ (ls : Array Slot), lv_has ls 6 [(3, .int v3_26), (2, .int v2_26), (0, .ref (h 0)), (1, .int x1)] → W p l e ({ frames := 3, cells := 0, slots := 0, locals := 67 } : Room) s m ([.ref (h 0), .int x1] : List Value).toArray below meth c H locs 0 0 (MQ below (va_Qi (fun r u => P r u) (fun (u : SX) t => va_P (dC, dI) classes (wC h cy u) t.heap ∧ kwX dC dI cy t ∧ va_D A (wC h cy u)) A) ([.ref (h 0), .int x1] : List Value).toArray s 0 0 A) (F0 m 26 ls []) := by
        intro K26 hX26 nn
        induction nn with
        | zero =>
          intro v3_26 v2_26 hF
          exact hF.elim
        | succ nn ih =>
          intro v3_26 v2_26 hF H locs hP hD hS ls hl
          obtain ⟨rec26, hrec⟩ : ∃ z : Int32 → Int32 → Prop, z = wp_X4_leastForm_L26 fu x1 s14 K26 nn := ⟨_, rfl⟩
          have hF : wp_X4_leastForm_B26 fu x1 s14 K26 rec26 v3_26 v2_26 := by rw [hrec]; exact hF
          rw [← hrec] at ih
          clear hrec
          unfold wp_X4_leastForm_B26 at hF
          refine lv_iload_n hx hb dX4_leastForm_26 rfl (lv_at hl 0 rfl) ?_
          refine lv_bipush (v := 8) hx hb dX4_leastForm_27 (by decide) ?_
          refine lv_icmp_ge (tgt := 112) hx hb dX4_leastForm_29 (by decide) (fun cz => ?_) (fun cz => ?_)
          · have hF := hF.1 cz
            exact hX26 v2_26 hF _ _ hP hD hS _ (lv_sub hl [1] rfl)
          · have hF := hF.2 cz
            refine lv_aload_n hx hb dX4_leastForm_32 rfl (lv_at hl 2 rfl) ?_
            refine lv_iload_n hx hb dX4_leastForm_33 rfl (lv_at hl 0 rfl) ?_
            refine cpVi (q0 := 0) (As := [.int v3_26]) (rest := []) ⟨hx, hb, hr, hml, hown, hts, hlocks⟩ hK hP rfl rfl (m_X4_isSymmetry l dC dI h cy fu s14 v3_26 _ hF) k_X4_isSymmetry q1171 ⟨rfl, rfl⟩ ⟨Nat.le_of_ble_eq_true rfl, Nat.le_of_ble_eq_true rfl⟩ hl.1 rfl rfl (Nat.le_of_ble_eq_true rfl) dX4_leastForm_34 ⟨Nat.le_of_ble_eq_true rfl, Nat.le_of_ble_eq_true rfl⟩ (fun r34 hF => ?_)
            have hJ106 : ∀ (v2_106 : Int32), wp_X4_leastForm_J106 rec26 v3_26 v2_106 → ∀ (H : Heap) (locs : List Loc), va_P (dC, dI) classes (wC h cy s14) H → va_D A (wC h cy s14) → va_S A s.heap H locs → ∀ (ls : Array Slot), lv_has ls 6 [(2, .int v2_106), (3, .int v3_26), (0, .ref (h 0)), (1, .int x1)] → W p l e ({ frames := 3, cells := 0, slots := 0, locals := 67 } : Room) s m ([.ref (h 0), .int x1] : List Value).toArray below meth c H locs 0 0 (MQ below (va_Qi (fun r u => P r u) (fun (u : SX) t => va_P (dC, dI) classes (wC h cy u) t.heap ∧ kwX dC dI cy t ∧ va_D A (wC h cy u)) A) ([.ref (h 0), .int x1] : List Value).toArray s 0 0 A) (F0 m 106 ls []) := by
              intro v2_106 hF H locs hP hD hS ls hl
              unfold wp_X4_leastForm_J106 at hF
              refine lv_iinc (v := v3_26 + 1) (lv' := [(3, .int (v3_26 + 1)), (2, .int v2_106), (0, .ref (h 0)), (1, .int x1)]) hx hb dX4_leastForm_106 hl (k := 1) rfl (by rfl) (by decide) rfl (fun ls hl => ?_)
              refine lv_goto (tgt := 26) hx hb dX4_leastForm_109 (by decide) ?_
              exact ih (v3_26 + 1) v2_106 hF _ _ hP hD hS _ (lv_sub hl [0, 1, 2, 3] rfl)
            refine lv_if_ne (tgt := 43) hx hb dX4_leastForm_37 (by decide) (fun cz => ?_) (fun cz => ?_)
            · have hF := hF.1 cz
              refine lv_iconst (v := 0) hx hb dX4_leastForm_43 (by decide) ?_
              refine lv_istore (lv' := [(4, .int 0), (3, .int v3_26), (2, .int v2_26), (0, .ref (h 0)), (1, .int x1)]) hx hb dX4_leastForm_44 hl (by decide) rfl (fun ls hl => ?_)
              refine lv_iconst (v := 0) hx hb dX4_leastForm_46 (by decide) ?_
              refine lv_istore (lv' := [(5, .int 0), (4, .int 0), (3, .int v3_26), (2, .int v2_26), (0, .ref (h 0)), (1, .int x1)]) hx hb dX4_leastForm_47 hl (by decide) rfl (fun ls hl => ?_)
              have hX49 : ∀ (v4_99 : Int32), (fun (v4_99 : Int32) => (wp_X4_leastForm_J106 rec26 v3_26 (jmin v2_26 v4_99))) v4_99 → ∀ (H : Heap) (locs : List Loc), va_P (dC, dI) classes (wC h cy s14) H → va_D A (wC h cy s14) → va_S A s.heap H locs → ∀ (ls : Array Slot), lv_has ls 6 [(4, .int v4_99), (3, .int v3_26), (2, .int v2_26), (0, .ref (h 0)), (1, .int x1)] → W p l e ({ frames := 3, cells := 0, slots := 0, locals := 67 } : Room) s m ([.ref (h 0), .int x1] : List Value).toArray below meth c H locs 0 0 (MQ below (va_Qi (fun r u => P r u) (fun (u : SX) t => va_P (dC, dI) classes (wC h cy u) t.heap ∧ kwX dC dI cy t ∧ va_D A (wC h cy u)) A) ([.ref (h 0), .int x1] : List Value).toArray s 0 0 A) (F0 m 99 ls []) := by
                intro v4_99 hF H locs hP hD hS ls hl
                refine lv_iload_n hx hb dX4_leastForm_99 rfl (lv_at hl 2 rfl) ?_
                refine lv_iload hx hb dX4_leastForm_100 (lv_at hl 0 rfl) ?_
                refine va_mmin hx hb (by rw [hml]; exact hl.1.symm) hown (hts _ q1197) (hts _ q261) (hts _ q13) (hts _ q262) (Nat.le_of_ble_eq_true rfl) (Nat.le_of_ble_eq_true rfl) (Nat.le_of_ble_eq_true rfl) (Nat.le_of_ble_eq_true rfl) dX4_leastForm_102 ?_
                refine lv_istore_n (lv' := [(2, .int (jmin v2_26 v4_99)), (4, .int v4_99), (3, .int v3_26), (0, .ref (h 0)), (1, .int x1)]) hx hb dX4_leastForm_105 rfl hl (by decide) rfl (fun ls hl => ?_)
                exact hJ106 (jmin v2_26 v4_99) hF _ _ hP hD hS _ (lv_sub hl [0, 2, 3, 4] rfl)
              have hL49 : ∀ (K49 : Int32 → Prop), (∀ (v4_99 : Int32), K49 v4_99 → ∀ (H : Heap) (locs : List Loc), va_P (dC, dI) classes (wC h cy s14) H → va_D A (wC h cy s14) → va_S A s.heap H locs → ∀ (ls : Array Slot), lv_has ls 6 [(4, .int v4_99), (3, .int v3_26), (2, .int v2_26), (0, .ref (h 0)), (1, .int x1)] → W p l e ({ frames := 3, cells := 0, slots := 0, locals := 67 } : Room) s m ([.ref (h 0), .int x1] : List Value).toArray below meth c H locs 0 0 (MQ below (va_Qi (fun r u => P r u) (fun (u : SX) t => va_P (dC, dI) classes (wC h cy u) t.heap ∧ kwX dC dI cy t ∧ va_D A (wC h cy u)) A) ([.ref (h 0), .int x1] : List Value).toArray s 0 0 A) (F0 m 99 ls [])) → ∀ (nn : Nat), ∀ (v5_49 : Int32), ∀ (v4_49 : Int32), wp_X4_leastForm_L49 fu x1 s14 v3_26 K49 nn v5_49 v4_49 → ∀ (H : Heap) (locs : List Loc), va_P (dC, dI) classes (wC h cy s14) H → va_D A (wC h cy s14) → va_S A s.heap H locs → ∀ (ls : Array Slot), lv_has ls 6 [(5, .int v5_49), (4, .int v4_49), (3, .int v3_26), (2, .int v2_26), (0, .ref (h 0)), (1, .int x1)] → W p l e ({ frames := 3, cells := 0, slots := 0, locals := 67 } : Room) s m ([.ref (h 0), .int x1] : List Value).toArray below meth c H locs 0 0 (MQ below (va_Qi (fun r u => P r u) (fun (u : SX) t => va_P (dC, dI) classes (wC h cy u) t.heap ∧ kwX dC dI cy t ∧ va_D A (wC h cy u)) A) ([.ref (h 0), .int x1] : List Value).toArray s 0 0 A) (F0 m 49 ls []) := by
                intro K49 hX49 nn
                induction nn with
                | zero =>
                  intro v5_49 v4_49 hF
                  exact hF.elim
                | succ nn ih =>
                  intro v5_49 v4_49 hF H locs hP hD hS ls hl
                  obtain ⟨rec49, hrec⟩ : ∃ z : Int32 → Int32 → Prop, z = wp_X4_leastForm_L49 fu x1 s14 v3_26 K49 nn := ⟨_, rfl⟩
                  have hF : wp_X4_leastForm_B49 fu x1 s14 v3_26 K49 rec49 v5_49 v4_49 := by rw [hrec]; exact hF
                  rw [← hrec] at ih
                  clear hrec
                  unfold wp_X4_leastForm_B49 at hF
                  refine lv_iload hx hb dX4_leastForm_49 (lv_at hl 0 rfl) ?_
                  refine lv_aload_n hx hb dX4_leastForm_51 rfl (lv_at hl 4 rfl) ?_
                  refine va_get (D := (dC, dI)) (ci := 4) (v := .int (s14.1 0)) (C := RX4) (T := TX4) (N := 19) hx hb hts in_X4 hown hK.1 hP 0 rfl rfl 13 (by decide) (hts _ q963) (fun _ h9 => h9) rfl dX4_leastForm_52 ?_
                  refine lv_icmp_ge (tgt := 99) hx hb dX4_leastForm_55 (by decide) (fun cz => ?_) (fun cz => ?_)
                  · have hF := hF.1 cz
                    exact hX49 v4_49 hF _ _ hP hD hS _ (lv_sub hl [1, 2, 3, 4, 5] rfl)
                  · have hF := hF.2 cz
                    refine lv_iload hx hb dX4_leastForm_58 (lv_at hl 1 rfl) ?_
                    refine lv_iload_n hx hb dX4_leastForm_60 rfl (lv_at hl 5 rfl) ?_
                    refine lv_iload hx hb dX4_leastForm_61 (lv_at hl 0 rfl) ?_
                    refine cpSi (As := [.int x1, .int v5_49]) (rest := [.int v4_49]) ⟨hx, hb, hr, hml, hown, hts, hlocks⟩ (m_X4_has l x1 v5_49 _ hF) k_X4_has q1194 ⟨rfl, rfl⟩ ⟨Nat.le_of_ble_eq_true rfl, Nat.le_of_ble_eq_true rfl⟩ hl.1 rfl rfl (Nat.le_of_ble_eq_true rfl) dX4_leastForm_63 ⟨Nat.le_of_ble_eq_true rfl, Nat.le_of_ble_eq_true rfl⟩ (fun r63 hF => ?_)
                    have hJ90 : ∀ (t1_90 : Int32), wp_X4_leastForm_J90 rec49 v5_49 v4_49 t1_90 → ∀ (H : Heap) (locs : List Loc), va_P (dC, dI) classes (wC h cy s14) H → va_D A (wC h cy s14) → va_S A s.heap H locs → ∀ (ls : Array Slot), lv_has ls 6 [(5, .int v5_49), (3, .int v3_26), (2, .int v2_26), (0, .ref (h 0)), (1, .int x1)] → W p l e ({ frames := 3, cells := 0, slots := 0, locals := 67 } : Room) s m ([.ref (h 0), .int x1] : List Value).toArray below meth c H locs 0 0 (MQ below (va_Qi (fun r u => P r u) (fun (u : SX) t => va_P (dC, dI) classes (wC h cy u) t.heap ∧ kwX dC dI cy t ∧ va_D A (wC h cy u)) A) ([.ref (h 0), .int x1] : List Value).toArray s 0 0 A) (F0 m 90 ls [.int t1_90, .int v4_49]) := by
                      intro t1_90 hF H locs hP hD hS ls hl
                      unfold wp_X4_leastForm_J90 at hF
                      refine lv_ior hx hb dX4_leastForm_90 ?_
                      refine lv_istore (lv' := [(4, .int (v4_49 ||| t1_90)), (5, .int v5_49), (3, .int v3_26), (2, .int v2_26), (0, .ref (h 0)), (1, .int x1)]) hx hb dX4_leastForm_91 hl (by decide) rfl (fun ls hl => ?_)
                      refine lv_iinc (v := v5_49 + 1) (lv' := [(5, .int (v5_49 + 1)), (4, .int (v4_49 ||| t1_90)), (3, .int v3_26), (2, .int v2_26), (0, .ref (h 0)), (1, .int x1)]) hx hb dX4_leastForm_93 hl (k := 1) rfl (by rfl) (by decide) rfl (fun ls hl => ?_)
                      refine lv_goto (tgt := 49) hx hb dX4_leastForm_96 (by decide) ?_
                      exact ih (v5_49 + 1) (v4_49 ||| t1_90) hF _ _ hP hD hS _ (lv_sub hl [0, 1, 2, 3, 4, 5] rfl)
                    refine lv_if_eq (tgt := 89) hx hb dX4_leastForm_66 (by decide) (fun cz => ?_) (fun cz => ?_)
                    · have hF := hF.1 cz
                      refine lv_iconst (v := 0) hx hb dX4_leastForm_89 (by decide) ?_
                      exact hJ90 0 hF _ _ hP hD hS _ (lv_sub hl [0, 2, 3, 4, 5] rfl)
                    · have hF := hF.2 cz
                      refine lv_iconst (v := 1) hx hb dX4_leastForm_69 (by decide) ?_
                      refine lv_aload_n hx hb dX4_leastForm_70 rfl (lv_at hl 4 rfl) ?_
                      refine lv_aload_n hx hb dX4_leastForm_71 rfl (lv_at hl 4 rfl) ?_
                      refine va_get (D := (dC, dI)) (ci := 4) (v := .ref (h 2)) (C := RX4) (T := TX4) (N := 19) hx hb hts in_X4 hown hK.1 hP 0 rfl rfl 1 (by decide) (hts _ q951) (fun _ h9 => h9) rfl dX4_leastForm_72 ?_
                      refine lv_iload hx hb dX4_leastForm_75 (lv_at hl 0 rfl) ?_
                      have hI := hF.1
                      have hF := hF.2
                      refine va_iald hx hb hK.1 hP 2 0 rfl rfl hI dX4_leastForm_77 ?_
                      refine lv_iload_n hx hb dX4_leastForm_78 rfl (lv_at hl 2 rfl) ?_
                      refine cpSi (As := [.int ((s14.2.1 1) v5_49.toNatClampNeg), .int v3_26]) (rest := [.ref (h 0), .int 1, .int v4_49]) ⟨hx, hb, hr, hml, hown, hts, hlocks⟩ (m_X4_turned l fu ((s14.2.1 1) v5_49.toNatClampNeg) v3_26 _ hF) k_X4_turned q1175 ⟨rfl, rfl⟩ ⟨Nat.le_of_ble_eq_true rfl, Nat.le_of_ble_eq_true rfl⟩ hl.1 rfl rfl (Nat.le_of_ble_eq_true rfl) dX4_leastForm_79 ⟨Nat.le_of_ble_eq_true rfl, Nat.le_of_ble_eq_true rfl⟩ (fun r79 hF => ?_)
                      refine cpVi (q0 := 0) (As := [.int r79]) (rest := [.int 1, .int v4_49]) ⟨hx, hb, hr, hml, hown, hts, hlocks⟩ hK hP rfl rfl (m_X4_holeAt l dC dI h cy fu s14 r79 _ hF) k_X4_holeAt q1178 ⟨rfl, rfl⟩ ⟨Nat.le_of_ble_eq_true rfl, Nat.le_of_ble_eq_true rfl⟩ hl.1 rfl rfl (Nat.le_of_ble_eq_true rfl) dX4_leastForm_82 ⟨Nat.le_of_ble_eq_true rfl, Nat.le_of_ble_eq_true rfl⟩ (fun r82 hF => ?_)
                      refine lv_ishl hx hb dX4_leastForm_85 ?_
                      refine lv_goto (tgt := 90) hx hb dX4_leastForm_86 (by decide) ?_
                      exact hJ90 ((1 : Int32) <<< (r82 &&& 31)) hF _ _ hP hD hS _ (lv_sub hl [0, 2, 3, 4, 5] rfl)
              exact hL49 _ hX49 fu 0 0 hF _ _ hP hD hS _ (lv_sub hl [0, 1, 2, 3, 4, 5] rfl)
            · have hF := hF.2 cz
              refine lv_goto (tgt := 106) hx hb dX4_leastForm_40 (by decide) ?_
              exact hJ106 v2_26 hF _ _ hP hD hS _ (lv_sub hl [1, 0, 2, 3] rfl)
      exact hL26 _ hX26 fu 0 x1 hF _ _ hP hD hS _ (lv_sub hl [0, 1, 2, 3] rfl)
    · have hF := hF.2 cz
      refine lv_iconst (v := 0) hx hb dX4_leastForm_20 (by decide) ?_
      exact W.iret (v := 0) hx hb hr (fun t ht hW => ⟨⟨0, s14, rfl, hF, by rw [ht]; exact hP, hK.warm hW, hD⟩, hS.F ht⟩) hS.2.2 dX4_leastForm_21
  refine lv_if_eq (tgt := 13) hx hb dX4_leastForm_6 (by decide) (fun cz => ?_) (fun cz => ?_)
  · have hF := hF.1 cz
    refine lv_iconst (v := 1) hx hb dX4_leastForm_13 (by decide) ?_
    exact hJ14 1 hF _ _ hP hD hS _ (lv_sub hl [0, 1] rfl)
  · have hF := hF.2 cz
    refine lv_iconst (v := 0) hx hb dX4_leastForm_9 (by decide) ?_
    refine lv_goto (tgt := 14) hx hb dX4_leastForm_10 (by decide) ?_
    exact hJ14 0 hF _ _ hP hD hS _ (lv_sub hl [0, 1] rfl)
theorem dX4_lines_0 : decode cX4_lines 0 = .ok (.aload_n 0, 1) := by decide +kernel
theorem dX4_lines_1 : decode cX4_lines 1 = .ok (.iconst 0, 1) := by decide +kernel
theorem dX4_lines_2 : decode cX4_lines 2 = .ok (.putfield 60, 3) := by decide +kernel
theorem dX4_lines_5 : decode cX4_lines 5 = .ok (.aload_n 0, 1) := by decide +kernel
theorem dX4_lines_6 : decode cX4_lines 6 = .ok (.getfield 71, 3) := by decide +kernel
theorem dX4_lines_9 : decode cX4_lines 9 = .ok (.ireturn, 1) := by decide +kernel
def wp_X4_lines (σ : SX) (P : Int32 → SX → Prop) : Prop := (P (σ.1 1) (sI σ 5 0))
theorem k_X4_lines : KV RX4 yX4_lines cX4_lines 1 (some .int) 0 := ⟨q1164, q1165, q5, q1166, by decide +kernel⟩
set_option maxHeartbeats 4000000 in
set_option maxRecDepth 100000 in
theorem m_X4_lines (l : Launch) (dC : Nat → ClassId) (dI : Nat → Nat → Nat) (h : Nat → Nat) (cy : Nat → ClassId) (sz : Nat) (σ : SX) (P : Int32 → SX → Prop) (hF : wp_X4_lines σ P) : Met l yX4_lines (ws_ yX4_lines cX4_lines 1 (some .int)) ({ frames := 0, cells := 0, slots := 0, locals := 0 } : Room) (va_Pc [.ref (h 0)] (fun U => U.heap.size = sz ∧ va_P (dC, dI) classes (wC h cy σ) U.heap ∧ kwX dC dI cy U ∧ va_D (fun _ => True) (wC h cy σ))) (va_Qi (fun r u => P r u) (fun (u : SX) t => va_P (dC, dI) classes (wC h cy u) t.heap ∧ kwX dC dI cy t ∧ va_D (va_A (wC h cy σ) sz) (wC h cy u)) (va_A (wC h cy σ) sz)) 0 0 (va_A (wC h cy σ) sz) := by
  refine Met.ofCx (own := RX4) (by decide) rfl (Nat.le_of_ble_eq_true rfl) ?_
  intro p e s m below meth c hC hv ls hl
  obtain ⟨hx, hb, hr, hml, hown, hts, hlocks⟩ := hC
  have hl : lv_has ls 1 [(0, .ref (h 0))] := hl
  obtain ⟨hsz, hP, hK, hD0⟩ := hv
  subst hsz
  have hD := hD0.self (sz := s.heap.size)
  generalize hAe : va_A (wC h cy σ) s.heap.size = A at hD ⊢
  have hA : ∀ q : Nat, s.heap.size ≤ q → A q := fun q h => by rw [← hAe]; exact Or.inr h
  have hS : va_S A s.heap s.heap [] := va_S.rf
  clear hAe
  unfold wp_X4_lines at hF
  refine lv_aload_n hx hb dX4_lines_0 rfl (lv_at hl 0 rfl) ?_
  refine lv_iconst (v := 0) hx hb dX4_lines_1 (by decide) ?_
  refine va_put (D := (dC, dI)) (ci := 4) (v := .int 0) (ty := .int) (C := RX4) (T := TX4) (N := 19) hx hb hts in_X4 tyX4 tyX4_ok nmX4 hown hK.1 hP hD hS 0 rfl rfl 18 (by decide) (hts _ q968) (fun _ h9 => h9) rfl (by decide +kernel) rfl rfl (Nat.le_of_ble_eq_true rfl) dX4_lines_2 (fun H locs hP hD hS => ?_)
  have hP : va_P (dC, dI) classes (wC h cy (sI σ 5 0)) H := hP
  have hD : va_D A (wC h cy (sI σ 5 0)) := hD
  refine lv_aload_n hx hb dX4_lines_5 rfl (lv_at hl 0 rfl) ?_
  refine va_get (D := (dC, dI)) (ci := 4) (v := .int (σ.1 1)) (C := RX4) (T := TX4) (N := 19) hx hb hts in_X4 hown hK.1 hP 0 rfl rfl 14 (by decide) (hts _ q964) (fun _ h9 => h9) rfl dX4_lines_6 ?_
  exact W.iret (v := σ.1 1) hx hb hr (fun t ht hW => ⟨⟨σ.1 1, sI σ 5 0, rfl, hF, by rw [ht]; exact hP, hK.warm hW, hD⟩, hS.F ht⟩) hS.2.2 dX4_lines_9
theorem dX4_whyNoJump_0 : decode cX4_whyNoJump 0 = .ok (.aload_n 0, 1) := by decide +kernel
theorem dX4_whyNoJump_1 : decode cX4_whyNoJump 1 = .ok (.iload_n 1, 1) := by decide +kernel
theorem dX4_whyNoJump_2 : decode cX4_whyNoJump 2 = .ok (.invokevirtual 132, 3) := by decide +kernel
theorem dX4_whyNoJump_5 : decode cX4_whyNoJump 5 = .ok (.ifCond .eq 11, 3) := by decide +kernel
theorem dX4_whyNoJump_8 : decode cX4_whyNoJump 8 = .ok (.aload_n 0, 1) := by decide +kernel
theorem dX4_whyNoJump_9 : decode cX4_whyNoJump 9 = .ok (.iload_n 2, 1) := by decide +kernel
theorem dX4_whyNoJump_10 : decode cX4_whyNoJump 10 = .ok (.invokevirtual 132, 3) := by decide +kernel
theorem dX4_whyNoJump_13 : decode cX4_whyNoJump 13 = .ok (.ifCond .ne 7, 3) := by decide +kernel
theorem dX4_whyNoJump_16 : decode cX4_whyNoJump 16 = .ok (.iconst 1, 1) := by decide +kernel
theorem dX4_whyNoJump_17 : decode cX4_whyNoJump 17 = .ok (.goto 22, 3) := by decide +kernel
theorem dX4_whyNoJump_20 : decode cX4_whyNoJump 20 = .ok (.aload_n 0, 1) := by decide +kernel
theorem dX4_whyNoJump_21 : decode cX4_whyNoJump 21 = .ok (.aload_n 0, 1) := by decide +kernel
theorem dX4_whyNoJump_22 : decode cX4_whyNoJump 22 = .ok (.getfield 120, 3) := by decide +kernel
theorem dX4_whyNoJump_25 : decode cX4_whyNoJump 25 = .ok (.iload_n 1, 1) := by decide +kernel
theorem dX4_whyNoJump_26 : decode cX4_whyNoJump 26 = .ok (.iload_n 2, 1) := by decide +kernel
theorem dX4_whyNoJump_27 : decode cX4_whyNoJump 27 = .ok (.invokevirtual 162, 3) := by decide +kernel
theorem dX4_whyNoJump_30 : decode cX4_whyNoJump 30 = .ok (.iconst (-1), 1) := by decide +kernel
theorem dX4_whyNoJump_31 : decode cX4_whyNoJump 31 = .ok (.if_icmp .ne 7, 3) := by decide +kernel
theorem dX4_whyNoJump_34 : decode cX4_whyNoJump 34 = .ok (.iconst 2, 1) := by decide +kernel
theorem dX4_whyNoJump_35 : decode cX4_whyNoJump 35 = .ok (.goto 4, 3) := by decide +kernel
theorem dX4_whyNoJump_38 : decode cX4_whyNoJump 38 = .ok (.iconst 0, 1) := by decide +kernel
theorem dX4_whyNoJump_39 : decode cX4_whyNoJump 39 = .ok (.ireturn, 1) := by decide +kernel
def wp_X4_whyNoJump (fu : Nat) (σ : SX) (x1 : Int32) (x2 : Int32) (P : Int32 → Prop) : Prop := (wp_X4_isHole σ x1 (fun r2 => ((r2 = 0 → (P 1)) ∧ (¬ r2 = 0 → (wp_X4_isHole σ x2 (fun r10 => ((¬ r10 = 0 → (wp_X4_jumpOf fu σ (σ.1 2) x1 x2 (fun r27 => ((¬ r27 = (-1) → (P 0)) ∧ (r27 = (-1) → (P 2)))))) ∧ (r10 = 0 → (P 1)))))))))
theorem k_X4_whyNoJump : KV RX4 yX4_whyNoJump cX4_whyNoJump 3 (some .int) 2 := ⟨q1224, qs36, q5, q1225, by decide +kernel⟩
set_option maxHeartbeats 4000000 in
set_option maxRecDepth 100000 in
theorem m_X4_whyNoJump (l : Launch) (dC : Nat → ClassId) (dI : Nat → Nat → Nat) (h : Nat → Nat) (cy : Nat → ClassId) (fu : Nat) (σ : SX) (x1 : Int32) (x2 : Int32) (P : Int32 → Prop) (hF : wp_X4_whyNoJump fu σ x1 x2 P) : Met l yX4_whyNoJump (ws_ yX4_whyNoJump cX4_whyNoJump 3 (some .int)) ({ frames := 3, cells := 0, slots := 0, locals := 67 } : Room) (va_Pc [.ref (h 0), .int x1, .int x2] (fun U => va_P (dC, dI) classes (wC h cy σ) U.heap ∧ kwX dC dI cy U)) (vp_Si P) 0 0 (fun _ => False) := by
  refine Met.ofCx (own := RX4) (by decide) rfl (Nat.le_of_ble_eq_true rfl) ?_
  intro p e s m below meth c hC hv ls hl
  obtain ⟨hx, hb, hr, hml, hown, hts, hlocks⟩ := hC
  have hl : lv_has ls 3 [(0, .ref (h 0)), (1, .int x1), (2, .int x2)] := hl
  obtain ⟨hP, hK⟩ := hv
  unfold wp_X4_whyNoJump at hF
  refine lv_aload_n hx hb dX4_whyNoJump_0 rfl (lv_at hl 0 rfl) ?_
  refine lv_iload_n hx hb dX4_whyNoJump_1 rfl (lv_at hl 1 rfl) ?_
  refine cpVi (q0 := 0) (As := [.int x1]) (rest := []) ⟨hx, hb, hr, hml, hown, hts, hlocks⟩ hK hP rfl rfl (m_X4_isHole l dC dI h cy σ x1 _ hF) k_X4_isHole q1159 ⟨rfl, rfl⟩ ⟨Nat.le_of_ble_eq_true rfl, Nat.le_of_ble_eq_true rfl⟩ hl.1 rfl rfl (Nat.le_of_ble_eq_true rfl) dX4_whyNoJump_2 ⟨Nat.le_of_ble_eq_true rfl, Nat.le_of_ble_eq_true rfl⟩ (fun r2 hF => ?_)
  refine lv_if_eq (tgt := 16) hx hb dX4_whyNoJump_5 (by decide) (fun cz => ?_) (fun cz => ?_)
  · have hF := hF.1 cz
    refine lv_iconst (v := 1) hx hb dX4_whyNoJump_16 (by decide) ?_
    refine lv_goto (tgt := 39) hx hb dX4_whyNoJump_17 (by decide) ?_
    exact W.iret (v := 1) hx hb hr (fun t ht hW => ⟨1, rfl, hF, ht⟩) (fun q hq => absurd hq List.not_mem_nil) dX4_whyNoJump_39
  · have hF := hF.2 cz
    refine lv_aload_n hx hb dX4_whyNoJump_8 rfl (lv_at hl 0 rfl) ?_
    refine lv_iload_n hx hb dX4_whyNoJump_9 rfl (lv_at hl 2 rfl) ?_
    refine cpVi (q0 := 0) (As := [.int x2]) (rest := []) ⟨hx, hb, hr, hml, hown, hts, hlocks⟩ hK hP rfl rfl (m_X4_isHole l dC dI h cy σ x2 _ hF) k_X4_isHole q1159 ⟨rfl, rfl⟩ ⟨Nat.le_of_ble_eq_true rfl, Nat.le_of_ble_eq_true rfl⟩ hl.1 rfl rfl (Nat.le_of_ble_eq_true rfl) dX4_whyNoJump_10 ⟨Nat.le_of_ble_eq_true rfl, Nat.le_of_ble_eq_true rfl⟩ (fun r10 hF => ?_)
    refine lv_if_ne (tgt := 20) hx hb dX4_whyNoJump_13 (by decide) (fun cz => ?_) (fun cz => ?_)
    · have hF := hF.1 cz
      refine lv_aload_n hx hb dX4_whyNoJump_20 rfl (lv_at hl 0 rfl) ?_
      refine lv_aload_n hx hb dX4_whyNoJump_21 rfl (lv_at hl 0 rfl) ?_
      refine va_get (D := (dC, dI)) (ci := 4) (v := .int (σ.1 2)) (C := RX4) (T := TX4) (N := 19) hx hb hts in_X4 hown hK.1 hP 0 rfl rfl 15 (by decide) (hts _ q965) (fun _ h9 => h9) rfl dX4_whyNoJump_22 ?_
      refine lv_iload_n hx hb dX4_whyNoJump_25 rfl (lv_at hl 1 rfl) ?_
      refine lv_iload_n hx hb dX4_whyNoJump_26 rfl (lv_at hl 2 rfl) ?_
      refine cpVi (q0 := 0) (As := [.int (σ.1 2), .int x1, .int x2]) (rest := []) ⟨hx, hb, hr, hml, hown, hts, hlocks⟩ hK hP rfl rfl (m_X4_jumpOf l dC dI h cy fu σ (σ.1 2) x1 x2 _ hF) k_X4_jumpOf q1210 ⟨rfl, rfl⟩ ⟨Nat.le_of_ble_eq_true rfl, Nat.le_of_ble_eq_true rfl⟩ hl.1 rfl rfl (Nat.le_of_ble_eq_true rfl) dX4_whyNoJump_27 ⟨Nat.le_of_ble_eq_true rfl, Nat.le_of_ble_eq_true rfl⟩ (fun r27 hF => ?_)
      refine lv_iconst (v := (-1)) hx hb dX4_whyNoJump_30 (by decide) ?_
      refine lv_icmp_ne (tgt := 38) hx hb dX4_whyNoJump_31 (by decide) (fun cz => ?_) (fun cz => ?_)
      · have hF := hF.1 cz
        refine lv_iconst (v := 0) hx hb dX4_whyNoJump_38 (by decide) ?_
        exact W.iret (v := 0) hx hb hr (fun t ht hW => ⟨0, rfl, hF, ht⟩) (fun q hq => absurd hq List.not_mem_nil) dX4_whyNoJump_39
      · have hF := hF.2 cz
        refine lv_iconst (v := 2) hx hb dX4_whyNoJump_34 (by decide) ?_
        refine lv_goto (tgt := 39) hx hb dX4_whyNoJump_35 (by decide) ?_
        exact W.iret (v := 2) hx hb hr (fun t ht hW => ⟨2, rfl, hF, ht⟩) (fun q hq => absurd hq List.not_mem_nil) dX4_whyNoJump_39
    · have hF := hF.2 cz
      refine lv_iconst (v := 1) hx hb dX4_whyNoJump_16 (by decide) ?_
      refine lv_goto (tgt := 39) hx hb dX4_whyNoJump_17 (by decide) ?_
      exact W.iret (v := 1) hx hb hr (fun t ht hW => ⟨1, rfl, hF, ht⟩) (fun q hq => absurd hq List.not_mem_nil) dX4_whyNoJump_39
theorem dX4_loses_0 : decode cX4_loses 0 = .ok (.aload_n 0, 1) := by decide +kernel
theorem dX4_loses_1 : decode cX4_loses 1 = .ok (.aload_n 0, 1) := by decide +kernel
theorem dX4_loses_2 : decode cX4_loses 2 = .ok (.iload_n 1, 1) := by decide +kernel
theorem dX4_loses_3 : decode cX4_loses 3 = .ok (.iload_n 2, 1) := by decide +kernel
theorem dX4_loses_4 : decode cX4_loses 4 = .ok (.invokevirtual 182, 3) := by decide +kernel
theorem dX4_loses_7 : decode cX4_loses 7 = .ok (.invokevirtual 100, 3) := by decide +kernel
theorem dX4_loses_10 : decode cX4_loses 10 = .ok (.ifCond .eq 5, 3) := by decide +kernel
theorem dX4_loses_13 : decode cX4_loses 13 = .ok (.iconst 0, 1) := by decide +kernel
theorem dX4_loses_14 : decode cX4_loses 14 = .ok (.ireturn, 1) := by decide +kernel
theorem dX4_loses_15 : decode cX4_loses 15 = .ok (.aload_n 0, 1) := by decide +kernel
theorem dX4_loses_16 : decode cX4_loses 16 = .ok (.invokevirtual 215, 3) := by decide +kernel
theorem dX4_loses_19 : decode cX4_loses 19 = .ok (.lconst 0, 1) := by decide +kernel
theorem dX4_loses_20 : decode cX4_loses 20 = .ok (.lcmp, 1) := by decide +kernel
theorem dX4_loses_21 : decode cX4_loses 21 = .ok (.ifCond .le 35, 3) := by decide +kernel
theorem dX4_loses_24 : decode cX4_loses 24 = .ok (.aload_n 0, 1) := by decide +kernel
theorem dX4_loses_25 : decode cX4_loses 25 = .ok (.getfield 41, 3) := by decide +kernel
theorem dX4_loses_28 : decode cX4_loses 28 = .ok (.aload_n 0, 1) := by decide +kernel
theorem dX4_loses_29 : decode cX4_loses 29 = .ok (.aload_n 0, 1) := by decide +kernel
theorem dX4_loses_30 : decode cX4_loses 30 = .ok (.getfield 120, 3) := by decide +kernel
theorem dX4_loses_33 : decode cX4_loses 33 = .ok (.aload_n 0, 1) := by decide +kernel
theorem dX4_loses_34 : decode cX4_loses 34 = .ok (.aload_n 0, 1) := by decide +kernel
theorem dX4_loses_35 : decode cX4_loses 35 = .ok (.getfield 120, 3) := by decide +kernel
theorem dX4_loses_38 : decode cX4_loses 38 = .ok (.iload_n 1, 1) := by decide +kernel
theorem dX4_loses_39 : decode cX4_loses 39 = .ok (.iload_n 2, 1) := by decide +kernel
theorem dX4_loses_40 : decode cX4_loses 40 = .ok (.invokevirtual 162, 3) := by decide +kernel
theorem dX4_loses_43 : decode cX4_loses 43 = .ok (.invokevirtual 166, 3) := by decide +kernel
theorem dX4_loses_46 : decode cX4_loses 46 = .ok (.laload, 1) := by decide +kernel
theorem dX4_loses_47 : decode cX4_loses 47 = .ok (.lconst 0, 1) := by decide +kernel
theorem dX4_loses_48 : decode cX4_loses 48 = .ok (.lcmp, 1) := by decide +kernel
theorem dX4_loses_49 : decode cX4_loses 49 = .ok (.ifCond .ne 7, 3) := by decide +kernel
theorem dX4_loses_52 : decode cX4_loses 52 = .ok (.iconst 1, 1) := by decide +kernel
theorem dX4_loses_53 : decode cX4_loses 53 = .ok (.goto 4, 3) := by decide +kernel
theorem dX4_loses_56 : decode cX4_loses 56 = .ok (.iconst 0, 1) := by decide +kernel
theorem dX4_loses_57 : decode cX4_loses 57 = .ok (.ireturn, 1) := by decide +kernel
def wp_X4_loses (fu : Nat) (σ : SX) (x1 : Int32) (x2 : Int32) (P : Int32 → SX → Prop) : Prop := (wp_X4_whyNoJump fu σ x1 x2 (fun r4 => (wp_X4_fails σ r4 (fun r7 s7 => ((r7 = 0 → (wp_X4_waysNow fu s7  (fun r16 s16 => (((lg_cmp r16 0) ≤ 0 → (P 0 s16)) ∧ (¬ (lg_cmp r16 0) ≤ 0 → (wp_X4_jumpOf fu s16 (s16.1 2) x1 x2 (fun r40 => (wp_X4_behind s16 (s16.1 2) r40 (fun r43 => (vp_in r43 8192 ∧ ((¬ (lg_cmp (s16.2.2 r43.toNatClampNeg) 0) = 0 → (P 0 s16)) ∧ ((lg_cmp (s16.2.2 r43.toNatClampNeg) 0) = 0 → (P 1 s16))))))))))))) ∧ (¬ r7 = 0 → (P 0 s7)))))))
theorem k_X4_loses : KV RX4 yX4_loses cX4_loses 3 (some .boolean) 2 := ⟨q1427, q1428, q5, q1429, by decide +kernel⟩
set_option maxHeartbeats 4000000 in
set_option maxRecDepth 100000 in
theorem m_X4_loses (l : Launch) (dC : Nat → ClassId) (dI : Nat → Nat → Nat) (h : Nat → Nat) (cy : Nat → ClassId) (sz : Nat) (fu : Nat) (σ : SX) (x1 : Int32) (x2 : Int32) (P : Int32 → SX → Prop) (hF : wp_X4_loses fu σ x1 x2 P) : Met l yX4_loses (ws_ yX4_loses cX4_loses 3 (some .boolean)) ({ frames := 4, cells := 0, slots := 0, locals := 89 } : Room) (va_Pc [.ref (h 0), .int x1, .int x2] (fun U => U.heap.size = sz ∧ va_P (dC, dI) classes (wC h cy σ) U.heap ∧ kwX dC dI cy U ∧ va_D (fun _ => True) (wC h cy σ))) (va_Qi (fun r u => P r u) (fun (u : SX) t => va_P (dC, dI) classes (wC h cy u) t.heap ∧ kwX dC dI cy t ∧ va_D (va_A (wC h cy σ) sz) (wC h cy u)) (va_A (wC h cy σ) sz)) 0 0 (va_A (wC h cy σ) sz) := by
  refine Met.ofCx (own := RX4) (by decide) rfl (Nat.le_of_ble_eq_true rfl) ?_
  intro p e s m below meth c hC hv ls hl
  obtain ⟨hx, hb, hr, hml, hown, hts, hlocks⟩ := hC
  have hl : lv_has ls 3 [(0, .ref (h 0)), (1, .int x1), (2, .int x2)] := hl
  obtain ⟨hsz, hP, hK, hD0⟩ := hv
  subst hsz
  have hD := hD0.self (sz := s.heap.size)
  generalize hAe : va_A (wC h cy σ) s.heap.size = A at hD ⊢
  have hA : ∀ q : Nat, s.heap.size ≤ q → A q := fun q h => by rw [← hAe]; exact Or.inr h
  have hS : va_S A s.heap s.heap [] := va_S.rf
  clear hAe
  unfold wp_X4_loses at hF
  refine lv_aload_n hx hb dX4_loses_0 rfl (lv_at hl 0 rfl) ?_
  refine lv_aload_n hx hb dX4_loses_1 rfl (lv_at hl 0 rfl) ?_
  refine lv_iload_n hx hb dX4_loses_2 rfl (lv_at hl 1 rfl) ?_
  refine lv_iload_n hx hb dX4_loses_3 rfl (lv_at hl 2 rfl) ?_
  refine cpVi (q0 := 0) (As := [.int x1, .int x2]) (rest := [.ref (h 0)]) ⟨hx, hb, hr, hml, hown, hts, hlocks⟩ hK hP rfl rfl (m_X4_whyNoJump l dC dI h cy fu σ x1 x2 _ hF) k_X4_whyNoJump q1222 ⟨rfl, rfl⟩ ⟨Nat.le_of_ble_eq_true rfl, Nat.le_of_ble_eq_true rfl⟩ hl.1 rfl rfl (Nat.le_of_ble_eq_true rfl) dX4_loses_4 ⟨Nat.le_of_ble_eq_true rfl, Nat.le_of_ble_eq_true rfl⟩ (fun r4 hF => ?_)
  have hFc := va_free (wc := wC h cy σ) hD hS hA [0, 1, 2, 3, 4, 5, 6, 7, 8, 9] rfl
  refine cwVi (q0 := 0) (As := [.int r4]) (rest := []) ⟨hx, hb, hr, hml, hown, hts, hlocks⟩ hK hP hD rfl rfl hS hFc (m_X4_fails l dC dI h cy _ σ r4 _ hF) k_X4_fails q1102 ⟨rfl, rfl⟩ ⟨Nat.le_of_ble_eq_true rfl, Nat.le_of_ble_eq_true rfl⟩ hl.1 rfl rfl (Nat.le_of_ble_eq_true rfl) dX4_loses_7 ⟨Nat.le_of_ble_eq_true rfl, Nat.le_of_ble_eq_true rfl⟩ (fun r7 u H1 locs hF hP1 hD1 hk1 hS => ?_)
  obtain ⟨s7, rfl⟩ : ∃ z, z = u := ⟨_, rfl⟩
  have hP := hP1
  have hD := hD1.weaken (fun _ q _ h => hFc q.1 h)
  generalize H1 = H at hP hS ⊢
  have hP : va_P (dC, dI) classes (wC h cy s7) H := hP
  have hD : va_D A (wC h cy s7) := hD
  refine lv_if_eq (tgt := 15) hx hb dX4_loses_10 (by decide) (fun cz => ?_) (fun cz => ?_)
  · have hF := hF.1 cz
    refine lv_aload_n hx hb dX4_loses_15 rfl (lv_at hl 0 rfl) ?_
    have hFc := va_free (wc := wC h cy s7) hD hS hA [0, 1, 2, 3, 4, 5, 6, 7, 8, 9] rfl
    refine cwVl (q0 := 0) (As := []) (rest := []) ⟨hx, hb, hr, hml, hown, hts, hlocks⟩ hK hP hD rfl rfl hS hFc (m_X4_waysNow l dC dI h cy _ fu s7  _ hF) k_X4_waysNow q1410 ⟨rfl, rfl⟩ ⟨Nat.le_of_ble_eq_true rfl, Nat.le_of_ble_eq_true rfl⟩ hl.1 rfl rfl (Nat.le_of_ble_eq_true rfl) dX4_loses_16 ⟨Nat.le_of_ble_eq_true rfl, Nat.le_of_ble_eq_true rfl⟩ (fun r16 u H1 locs hF hP1 hD1 hk1 hS => ?_)
    obtain ⟨s16, rfl⟩ : ∃ z, z = u := ⟨_, rfl⟩
    have hP := hP1
    have hD := hD1.weaken (fun _ q _ h => hFc q.1 h)
    generalize H1 = H at hP hS ⊢
    have hP : va_P (dC, dI) classes (wC h cy s16) H := hP
    have hD : va_D A (wC h cy s16) := hD
    refine lv_lconst (v := 0) hx hb dX4_loses_19 (by decide) ?_
    refine W.lcmp hx hb dX4_loses_20 ?_
    refine lv_if_le (tgt := 56) hx hb dX4_loses_21 (by decide) (fun cz => ?_) (fun cz => ?_)
    · have hF := hF.1 cz
      refine lv_iconst (v := 0) hx hb dX4_loses_56 (by decide) ?_
      exact W.zret (v := 0) hx hb hr rfl (fun t ht hW => ⟨⟨0, s16, rfl, hF, by rw [ht]; exact hP, hK.warm hW, hD⟩, hS.F ht⟩) hS.2.2 dX4_loses_57
    · have hF := hF.2 cz
      refine lv_aload_n hx hb dX4_loses_24 rfl (lv_at hl 0 rfl) ?_
      refine va_get (D := (dC, dI)) (ci := 4) (v := .ref (h 7)) (C := RX4) (T := TX4) (N := 19) hx hb hts in_X4 hown hK.1 hP 0 rfl rfl 9 (by decide) (hts _ q959) (fun _ h9 => h9) rfl dX4_loses_25 ?_
      refine lv_aload_n hx hb dX4_loses_28 rfl (lv_at hl 0 rfl) ?_
      refine lv_aload_n hx hb dX4_loses_29 rfl (lv_at hl 0 rfl) ?_
      refine va_get (D := (dC, dI)) (ci := 4) (v := .int (s16.1 2)) (C := RX4) (T := TX4) (N := 19) hx hb hts in_X4 hown hK.1 hP 0 rfl rfl 15 (by decide) (hts _ q965) (fun _ h9 => h9) rfl dX4_loses_30 ?_
      refine lv_aload_n hx hb dX4_loses_33 rfl (lv_at hl 0 rfl) ?_
      refine lv_aload_n hx hb dX4_loses_34 rfl (lv_at hl 0 rfl) ?_
      refine va_get (D := (dC, dI)) (ci := 4) (v := .int (s16.1 2)) (C := RX4) (T := TX4) (N := 19) hx hb hts in_X4 hown hK.1 hP 0 rfl rfl 15 (by decide) (hts _ q965) (fun _ h9 => h9) rfl dX4_loses_35 ?_
      refine lv_iload_n hx hb dX4_loses_38 rfl (lv_at hl 1 rfl) ?_
      refine lv_iload_n hx hb dX4_loses_39 rfl (lv_at hl 2 rfl) ?_
      refine cpVi (q0 := 0) (As := [.int (s16.1 2), .int x1, .int x2]) (rest := [.int (s16.1 2), .ref (h 0), .ref (h 7)]) ⟨hx, hb, hr, hml, hown, hts, hlocks⟩ hK hP rfl rfl (m_X4_jumpOf l dC dI h cy fu s16 (s16.1 2) x1 x2 _ hF) k_X4_jumpOf q1210 ⟨rfl, rfl⟩ ⟨Nat.le_of_ble_eq_true rfl, Nat.le_of_ble_eq_true rfl⟩ hl.1 rfl rfl (Nat.le_of_ble_eq_true rfl) dX4_loses_40 ⟨Nat.le_of_ble_eq_true rfl, Nat.le_of_ble_eq_true rfl⟩ (fun r40 hF => ?_)
      refine cpVi (q0 := 0) (As := [.int (s16.1 2), .int r40]) (rest := [.ref (h 7)]) ⟨hx, hb, hr, hml, hown, hts, hlocks⟩ hK hP rfl rfl (m_X4_behind l dC dI h cy s16 (s16.1 2) r40 _ hF) k_X4_behind q1230 ⟨rfl, rfl⟩ ⟨Nat.le_of_ble_eq_true rfl, Nat.le_of_ble_eq_true rfl⟩ hl.1 rfl rfl (Nat.le_of_ble_eq_true rfl) dX4_loses_43 ⟨Nat.le_of_ble_eq_true rfl, Nat.le_of_ble_eq_true rfl⟩ (fun r43 hF => ?_)
      have hI := hF.1
      have hF := hF.2
      refine va_lald hx hb hK.1 hP 7 1 rfl rfl hI dX4_loses_46 ?_
      refine lv_lconst (v := 0) hx hb dX4_loses_47 (by decide) ?_
      refine W.lcmp hx hb dX4_loses_48 ?_
      refine lv_if_ne (tgt := 56) hx hb dX4_loses_49 (by decide) (fun cz => ?_) (fun cz => ?_)
      · have hF := hF.1 cz
        refine lv_iconst (v := 0) hx hb dX4_loses_56 (by decide) ?_
        exact W.zret (v := 0) hx hb hr rfl (fun t ht hW => ⟨⟨0, s16, rfl, hF, by rw [ht]; exact hP, hK.warm hW, hD⟩, hS.F ht⟩) hS.2.2 dX4_loses_57
      · have hF := hF.2 cz
        refine lv_iconst (v := 1) hx hb dX4_loses_52 (by decide) ?_
        refine lv_goto (tgt := 57) hx hb dX4_loses_53 (by decide) ?_
        exact W.zret (v := 1) hx hb hr rfl (fun t ht hW => ⟨⟨1, s16, rfl, hF, by rw [ht]; exact hP, hK.warm hW, hD⟩, hS.F ht⟩) hS.2.2 dX4_loses_57
  · have hF := hF.2 cz
    refine lv_iconst (v := 0) hx hb dX4_loses_13 (by decide) ?_
    exact W.zret (v := 0) hx hb hr rfl (fun t ht hW => ⟨⟨0, s7, rfl, hF, by rw [ht]; exact hP, hK.warm hW, hD⟩, hS.F ht⟩) hS.2.2 dX4_loses_14
theorem dX4_mayJump_0 : decode cX4_mayJump 0 = .ok (.aload_n 0, 1) := by decide +kernel
theorem dX4_mayJump_1 : decode cX4_mayJump 1 = .ok (.aload_n 0, 1) := by decide +kernel
theorem dX4_mayJump_2 : decode cX4_mayJump 2 = .ok (.iload_n 1, 1) := by decide +kernel
theorem dX4_mayJump_3 : decode cX4_mayJump 3 = .ok (.invokevirtual 132, 3) := by decide +kernel
theorem dX4_mayJump_6 : decode cX4_mayJump 6 = .ok (.ifCond .eq 15, 3) := by decide +kernel
theorem dX4_mayJump_9 : decode cX4_mayJump 9 = .ok (.aload_n 0, 1) := by decide +kernel
theorem dX4_mayJump_10 : decode cX4_mayJump 10 = .ok (.iload_n 2, 1) := by decide +kernel
theorem dX4_mayJump_11 : decode cX4_mayJump 11 = .ok (.invokevirtual 132, 3) := by decide +kernel
theorem dX4_mayJump_14 : decode cX4_mayJump 14 = .ok (.ifCond .eq 7, 3) := by decide +kernel
theorem dX4_mayJump_17 : decode cX4_mayJump 17 = .ok (.iconst 0, 1) := by decide +kernel
theorem dX4_mayJump_18 : decode cX4_mayJump 18 = .ok (.goto 4, 3) := by decide +kernel
theorem dX4_mayJump_21 : decode cX4_mayJump 21 = .ok (.iconst 1, 1) := by decide +kernel
theorem dX4_mayJump_22 : decode cX4_mayJump 22 = .ok (.invokevirtual 100, 3) := by decide +kernel
theorem dX4_mayJump_25 : decode cX4_mayJump 25 = .ok (.ifCond .ne 21, 3) := by decide +kernel
theorem dX4_mayJump_28 : decode cX4_mayJump 28 = .ok (.aload_n 0, 1) := by decide +kernel
theorem dX4_mayJump_29 : decode cX4_mayJump 29 = .ok (.aload_n 0, 1) := by decide +kernel
theorem dX4_mayJump_30 : decode cX4_mayJump 30 = .ok (.getfield 120, 3) := by decide +kernel
theorem dX4_mayJump_33 : decode cX4_mayJump 33 = .ok (.iload_n 1, 1) := by decide +kernel
theorem dX4_mayJump_34 : decode cX4_mayJump 34 = .ok (.iload_n 2, 1) := by decide +kernel
theorem dX4_mayJump_35 : decode cX4_mayJump 35 = .ok (.invokevirtual 162, 3) := by decide +kernel
theorem dX4_mayJump_38 : decode cX4_mayJump 38 = .ok (.iconst (-1), 1) := by decide +kernel
theorem dX4_mayJump_39 : decode cX4_mayJump 39 = .ok (.if_icmp .eq 7, 3) := by decide +kernel
theorem dX4_mayJump_42 : decode cX4_mayJump 42 = .ok (.iconst 1, 1) := by decide +kernel
theorem dX4_mayJump_43 : decode cX4_mayJump 43 = .ok (.goto 4, 3) := by decide +kernel
theorem dX4_mayJump_46 : decode cX4_mayJump 46 = .ok (.iconst 0, 1) := by decide +kernel
theorem dX4_mayJump_47 : decode cX4_mayJump 47 = .ok (.ireturn, 1) := by decide +kernel
def wp_X4_mayJump_J22 (fu : Nat) (σ : SX) (x1 : Int32) (x2 : Int32) (P : Int32 → SX → Prop) (t1_22 : Int32) : Prop := (wp_X4_fails σ t1_22 (fun r22 s22 => ((¬ r22 = 0 → (P 0 s22)) ∧ (r22 = 0 → (wp_X4_jumpOf fu s22 (s22.1 2) x1 x2 (fun r35 => ((r35 = (-1) → (P 0 s22)) ∧ (¬ r35 = (-1) → (P 1 s22)))))))))
def wp_X4_mayJump_J21 (fu : Nat) (σ : SX) (x1 : Int32) (x2 : Int32) (P : Int32 → SX → Prop) : Prop := (wp_X4_mayJump_J22 fu σ x1 x2 P 1)
def wp_X4_mayJump (fu : Nat) (σ : SX) (x1 : Int32) (x2 : Int32) (P : Int32 → SX → Prop) : Prop := (wp_X4_isHole σ x1 (fun r3 => ((r3 = 0 → wp_X4_mayJump_J21 fu σ x1 x2 P) ∧ (¬ r3 = 0 → (wp_X4_isHole σ x2 (fun r11 => ((r11 = 0 → wp_X4_mayJump_J21 fu σ x1 x2 P) ∧ (¬ r11 = 0 → (wp_X4_mayJump_J22 fu σ x1 x2 P 0)))))))))
theorem k_X4_mayJump : KV RX4 yX4_mayJump cX4_mayJump 3 (some .boolean) 2 := ⟨q1207, q1208, q5, q1209, by decide +kernel⟩
set_option maxHeartbeats 4000000 in
set_option maxRecDepth 100000 in
theorem m_X4_mayJump (l : Launch) (dC : Nat → ClassId) (dI : Nat → Nat → Nat) (h : Nat → Nat) (cy : Nat → ClassId) (sz : Nat) (fu : Nat) (σ : SX) (x1 : Int32) (x2 : Int32) (P : Int32 → SX → Prop) (hF : wp_X4_mayJump fu σ x1 x2 P) : Met l yX4_mayJump (ws_ yX4_mayJump cX4_mayJump 3 (some .boolean)) ({ frames := 3, cells := 0, slots := 0, locals := 67 } : Room) (va_Pc [.ref (h 0), .int x1, .int x2] (fun U => U.heap.size = sz ∧ va_P (dC, dI) classes (wC h cy σ) U.heap ∧ kwX dC dI cy U ∧ va_D (fun _ => True) (wC h cy σ))) (va_Qi (fun r u => P r u) (fun (u : SX) t => va_P (dC, dI) classes (wC h cy u) t.heap ∧ kwX dC dI cy t ∧ va_D (va_A (wC h cy σ) sz) (wC h cy u)) (va_A (wC h cy σ) sz)) 0 0 (va_A (wC h cy σ) sz) := by
  refine Met.ofCx (own := RX4) (by decide) rfl (Nat.le_of_ble_eq_true rfl) ?_
  intro p e s m below meth c hC hv ls hl
  obtain ⟨hx, hb, hr, hml, hown, hts, hlocks⟩ := hC
  have hl : lv_has ls 3 [(0, .ref (h 0)), (1, .int x1), (2, .int x2)] := hl
  obtain ⟨hsz, hP, hK, hD0⟩ := hv
  subst hsz
  have hD := hD0.self (sz := s.heap.size)
  generalize hAe : va_A (wC h cy σ) s.heap.size = A at hD ⊢
  have hA : ∀ q : Nat, s.heap.size ≤ q → A q := fun q h => by rw [← hAe]; exact Or.inr h
  have hS : va_S A s.heap s.heap [] := va_S.rf
  clear hAe
  unfold wp_X4_mayJump at hF
  refine lv_aload_n hx hb dX4_mayJump_0 rfl (lv_at hl 0 rfl) ?_
  refine lv_aload_n hx hb dX4_mayJump_1 rfl (lv_at hl 0 rfl) ?_
  refine lv_iload_n hx hb dX4_mayJump_2 rfl (lv_at hl 1 rfl) ?_
  refine cpVi (q0 := 0) (As := [.int x1]) (rest := [.ref (h 0)]) ⟨hx, hb, hr, hml, hown, hts, hlocks⟩ hK hP rfl rfl (m_X4_isHole l dC dI h cy σ x1 _ hF) k_X4_isHole q1159 ⟨rfl, rfl⟩ ⟨Nat.le_of_ble_eq_true rfl, Nat.le_of_ble_eq_true rfl⟩ hl.1 rfl rfl (Nat.le_of_ble_eq_true rfl) dX4_mayJump_3 ⟨Nat.le_of_ble_eq_true rfl, Nat.le_of_ble_eq_true rfl⟩ (fun r3 hF => ?_)
  have hJ22 : ∀ (t1_22 : Int32), wp_X4_mayJump_J22 fu σ x1 x2 P t1_22 → ∀ (H : Heap) (locs : List Loc), va_P (dC, dI) classes (wC h cy σ) H → va_D A (wC h cy σ) → va_S A s.heap H locs → ∀ (ls : Array Slot), lv_has ls 3 [(0, .ref (h 0)), (1, .int x1), (2, .int x2)] → W p l e ({ frames := 3, cells := 0, slots := 0, locals := 67 } : Room) s m ([.ref (h 0), .int x1, .int x2] : List Value).toArray below meth c H locs 0 0 (MQ below (va_Qi (fun r u => P r u) (fun (u : SX) t => va_P (dC, dI) classes (wC h cy u) t.heap ∧ kwX dC dI cy t ∧ va_D A (wC h cy u)) A) ([.ref (h 0), .int x1, .int x2] : List Value).toArray s 0 0 A) (F0 m 22 ls [.int t1_22, .ref (h 0)]) := by
    intro t1_22 hF H locs hP hD hS ls hl
    unfold wp_X4_mayJump_J22 at hF
    have hFc := va_free (wc := wC h cy σ) hD hS hA [0, 1, 2, 3, 4, 5, 6, 7, 8, 9] rfl
    refine cwVi (q0 := 0) (As := [.int t1_22]) (rest := []) ⟨hx, hb, hr, hml, hown, hts, hlocks⟩ hK hP hD rfl rfl hS hFc (m_X4_fails l dC dI h cy _ σ t1_22 _ hF) k_X4_fails q1102 ⟨rfl, rfl⟩ ⟨Nat.le_of_ble_eq_true rfl, Nat.le_of_ble_eq_true rfl⟩ hl.1 rfl rfl (Nat.le_of_ble_eq_true rfl) dX4_mayJump_22 ⟨Nat.le_of_ble_eq_true rfl, Nat.le_of_ble_eq_true rfl⟩ (fun r22 u H1 locs hF hP1 hD1 hk1 hS => ?_)
    obtain ⟨s22, rfl⟩ : ∃ z, z = u := ⟨_, rfl⟩
    have hP := hP1
    have hD := hD1.weaken (fun _ q _ h => hFc q.1 h)
    generalize H1 = H at hP hS ⊢
    have hP : va_P (dC, dI) classes (wC h cy s22) H := hP
    have hD : va_D A (wC h cy s22) := hD
    refine lv_if_ne (tgt := 46) hx hb dX4_mayJump_25 (by decide) (fun cz => ?_) (fun cz => ?_)
    · have hF := hF.1 cz
      refine lv_iconst (v := 0) hx hb dX4_mayJump_46 (by decide) ?_
      exact W.zret (v := 0) hx hb hr rfl (fun t ht hW => ⟨⟨0, s22, rfl, hF, by rw [ht]; exact hP, hK.warm hW, hD⟩, hS.F ht⟩) hS.2.2 dX4_mayJump_47
    · have hF := hF.2 cz
      refine lv_aload_n hx hb dX4_mayJump_28 rfl (lv_at hl 0 rfl) ?_
      refine lv_aload_n hx hb dX4_mayJump_29 rfl (lv_at hl 0 rfl) ?_
      refine va_get (D := (dC, dI)) (ci := 4) (v := .int (s22.1 2)) (C := RX4) (T := TX4) (N := 19) hx hb hts in_X4 hown hK.1 hP 0 rfl rfl 15 (by decide) (hts _ q965) (fun _ h9 => h9) rfl dX4_mayJump_30 ?_
      refine lv_iload_n hx hb dX4_mayJump_33 rfl (lv_at hl 1 rfl) ?_
      refine lv_iload_n hx hb dX4_mayJump_34 rfl (lv_at hl 2 rfl) ?_
      refine cpVi (q0 := 0) (As := [.int (s22.1 2), .int x1, .int x2]) (rest := []) ⟨hx, hb, hr, hml, hown, hts, hlocks⟩ hK hP rfl rfl (m_X4_jumpOf l dC dI h cy fu s22 (s22.1 2) x1 x2 _ hF) k_X4_jumpOf q1210 ⟨rfl, rfl⟩ ⟨Nat.le_of_ble_eq_true rfl, Nat.le_of_ble_eq_true rfl⟩ hl.1 rfl rfl (Nat.le_of_ble_eq_true rfl) dX4_mayJump_35 ⟨Nat.le_of_ble_eq_true rfl, Nat.le_of_ble_eq_true rfl⟩ (fun r35 hF => ?_)
      refine lv_iconst (v := (-1)) hx hb dX4_mayJump_38 (by decide) ?_
      refine lv_icmp_eq (tgt := 46) hx hb dX4_mayJump_39 (by decide) (fun cz => ?_) (fun cz => ?_)
      · have hF := hF.1 cz
        refine lv_iconst (v := 0) hx hb dX4_mayJump_46 (by decide) ?_
        exact W.zret (v := 0) hx hb hr rfl (fun t ht hW => ⟨⟨0, s22, rfl, hF, by rw [ht]; exact hP, hK.warm hW, hD⟩, hS.F ht⟩) hS.2.2 dX4_mayJump_47
      · have hF := hF.2 cz
        refine lv_iconst (v := 1) hx hb dX4_mayJump_42 (by decide) ?_
        refine lv_goto (tgt := 47) hx hb dX4_mayJump_43 (by decide) ?_
        exact W.zret (v := 1) hx hb hr rfl (fun t ht hW => ⟨⟨1, s22, rfl, hF, by rw [ht]; exact hP, hK.warm hW, hD⟩, hS.F ht⟩) hS.2.2 dX4_mayJump_47
  have hJ21 : wp_X4_mayJump_J21 fu σ x1 x2 P → ∀ (H : Heap) (locs : List Loc), va_P (dC, dI) classes (wC h cy σ) H → va_D A (wC h cy σ) → va_S A s.heap H locs → ∀ (ls : Array Slot), lv_has ls 3 [(0, .ref (h 0)), (1, .int x1), (2, .int x2)] → W p l e ({ frames := 3, cells := 0, slots := 0, locals := 67 } : Room) s m ([.ref (h 0), .int x1, .int x2] : List Value).toArray below meth c H locs 0 0 (MQ below (va_Qi (fun r u => P r u) (fun (u : SX) t => va_P (dC, dI) classes (wC h cy u) t.heap ∧ kwX dC dI cy t ∧ va_D A (wC h cy u)) A) ([.ref (h 0), .int x1, .int x2] : List Value).toArray s 0 0 A) (F0 m 21 ls [.ref (h 0)]) := by
    intro hF H locs hP hD hS ls hl
    unfold wp_X4_mayJump_J21 at hF
    refine lv_iconst (v := 1) hx hb dX4_mayJump_21 (by decide) ?_
    exact hJ22 1 hF _ _ hP hD hS _ (lv_sub hl [0, 1, 2] rfl)
  refine lv_if_eq (tgt := 21) hx hb dX4_mayJump_6 (by decide) (fun cz => ?_) (fun cz => ?_)
  · have hF := hF.1 cz
    exact hJ21 hF _ _ hP hD hS _ (lv_sub hl [0, 1, 2] rfl)
  · have hF := hF.2 cz
    refine lv_aload_n hx hb dX4_mayJump_9 rfl (lv_at hl 0 rfl) ?_
    refine lv_iload_n hx hb dX4_mayJump_10 rfl (lv_at hl 2 rfl) ?_
    refine cpVi (q0 := 0) (As := [.int x2]) (rest := [.ref (h 0)]) ⟨hx, hb, hr, hml, hown, hts, hlocks⟩ hK hP rfl rfl (m_X4_isHole l dC dI h cy σ x2 _ hF) k_X4_isHole q1159 ⟨rfl, rfl⟩ ⟨Nat.le_of_ble_eq_true rfl, Nat.le_of_ble_eq_true rfl⟩ hl.1 rfl rfl (Nat.le_of_ble_eq_true rfl) dX4_mayJump_11 ⟨Nat.le_of_ble_eq_true rfl, Nat.le_of_ble_eq_true rfl⟩ (fun r11 hF => ?_)
    refine lv_if_eq (tgt := 21) hx hb dX4_mayJump_14 (by decide) (fun cz => ?_) (fun cz => ?_)
    · have hF := hF.1 cz
      exact hJ21 hF _ _ hP hD hS _ (lv_sub hl [0, 1, 2] rfl)
    · have hF := hF.2 cz
      refine lv_iconst (v := 0) hx hb dX4_mayJump_17 (by decide) ?_
      refine lv_goto (tgt := 22) hx hb dX4_mayJump_18 (by decide) ?_
      exact hJ22 0 hF _ _ hP hD hS _ (lv_sub hl [0, 1, 2] rfl)
theorem dX4_meanJumps_0 : decode cX4_meanJumps 0 = .ok (.aload_n 0, 1) := by decide +kernel
theorem dX4_meanJumps_1 : decode cX4_meanJumps 1 = .ok (.iconst 0, 1) := by decide +kernel
theorem dX4_meanJumps_2 : decode cX4_meanJumps 2 = .ok (.putfield 60, 3) := by decide +kernel
theorem dX4_meanJumps_5 : decode cX4_meanJumps 5 = .ok (.aload_n 0, 1) := by decide +kernel
theorem dX4_meanJumps_6 : decode cX4_meanJumps 6 = .ok (.invokevirtual 222, 3) := by decide +kernel
theorem dX4_meanJumps_9 : decode cX4_meanJumps 9 = .ok (.istore_n 1, 1) := by decide +kernel
theorem dX4_meanJumps_10 : decode cX4_meanJumps 10 = .ok (.iconst 0, 1) := by decide +kernel
theorem dX4_meanJumps_11 : decode cX4_meanJumps 11 = .ok (.istore_n 2, 1) := by decide +kernel
theorem dX4_meanJumps_12 : decode cX4_meanJumps 12 = .ok (.iconst 0, 1) := by decide +kernel
theorem dX4_meanJumps_13 : decode cX4_meanJumps 13 = .ok (.istore_n 3, 1) := by decide +kernel
theorem dX4_meanJumps_14 : decode cX4_meanJumps 14 = .ok (.iload_n 3, 1) := by decide +kernel
theorem dX4_meanJumps_15 : decode cX4_meanJumps 15 = .ok (.iconst 1, 1) := by decide +kernel
theorem dX4_meanJumps_16 : decode cX4_meanJumps 16 = .ok (.aload_n 0, 1) := by decide +kernel
theorem dX4_meanJumps_17 : decode cX4_meanJumps 17 = .ok (.getfield 64, 3) := by decide +kernel
theorem dX4_meanJumps_20 : decode cX4_meanJumps 20 = .ok (.ishl, 1) := by decide +kernel
theorem dX4_meanJumps_21 : decode cX4_meanJumps 21 = .ok (.if_icmp .ge 30, 3) := by decide +kernel
theorem dX4_meanJumps_24 : decode cX4_meanJumps 24 = .ok (.iload_n 2, 1) := by decide +kernel
theorem dX4_meanJumps_25 : decode cX4_meanJumps 25 = .ok (.aload_n 0, 1) := by decide +kernel
theorem dX4_meanJumps_26 : decode cX4_meanJumps 26 = .ok (.getfield 45, 3) := by decide +kernel
theorem dX4_meanJumps_29 : decode cX4_meanJumps 29 = .ok (.iload_n 3, 1) := by decide +kernel
theorem dX4_meanJumps_30 : decode cX4_meanJumps 30 = .ok (.baload, 1) := by decide +kernel
theorem dX4_meanJumps_31 : decode cX4_meanJumps 31 = .ok (.ifCond .eq 11, 3) := by decide +kernel
theorem dX4_meanJumps_34 : decode cX4_meanJumps 34 = .ok (.aload_n 0, 1) := by decide +kernel
theorem dX4_meanJumps_35 : decode cX4_meanJumps 35 = .ok (.iload_n 3, 1) := by decide +kernel
theorem dX4_meanJumps_36 : decode cX4_meanJumps 36 = .ok (.invokevirtual 188, 3) := by decide +kernel
theorem dX4_meanJumps_39 : decode cX4_meanJumps 39 = .ok (.goto 4, 3) := by decide +kernel
theorem dX4_meanJumps_42 : decode cX4_meanJumps 42 = .ok (.iconst 0, 1) := by decide +kernel
theorem dX4_meanJumps_43 : decode cX4_meanJumps 43 = .ok (.iadd, 1) := by decide +kernel
theorem dX4_meanJumps_44 : decode cX4_meanJumps 44 = .ok (.istore_n 2, 1) := by decide +kernel
theorem dX4_meanJumps_45 : decode cX4_meanJumps 45 = .ok (.iinc 3 1, 3) := by decide +kernel
theorem dX4_meanJumps_48 : decode cX4_meanJumps 48 = .ok (.goto (-34), 3) := by decide +kernel
theorem dX4_meanJumps_51 : decode cX4_meanJumps 51 = .ok (.iload_n 2, 1) := by decide +kernel
theorem dX4_meanJumps_52 : decode cX4_meanJumps 52 = .ok (.i2d, 1) := by decide +kernel
theorem dX4_meanJumps_53 : decode cX4_meanJumps 53 = .ok (.iload_n 1, 1) := by decide +kernel
theorem dX4_meanJumps_54 : decode cX4_meanJumps 54 = .ok (.i2d, 1) := by decide +kernel
theorem dX4_meanJumps_55 : decode cX4_meanJumps 55 = .ok (.ddiv, 1) := by decide +kernel
theorem dX4_meanJumps_56 : decode cX4_meanJumps 56 = .ok (.dreturn, 1) := by decide +kernel
def wp_X4_meanJumps_J43 (rec14 : Int32 → Int32 → Prop) (v3_14 : Int32) (v2_14 : Int32) (t1_43 : Int32) : Prop := (rec14 (v3_14 + 1) (v2_14 + t1_43))
def wp_X4_meanJumps_B14 (fu : Nat) (s6 : SX) (K14 : Int32 → Prop) (rec14 : Int32 → Int32 → Prop) (v3_14 : Int32) (v2_14 : Int32) : Prop := ((((1 : Int32) <<< ((s6.1 0) &&& 31)) ≤ v3_14 → (K14 v2_14)) ∧ (¬ ((1 : Int32) <<< ((s6.1 0) &&& 31)) ≤ v3_14 → (vp_in v3_14 8192 ∧ ((((s6.2.1 6) v3_14.toNatClampNeg) = 0 → (wp_X4_meanJumps_J43 rec14 v3_14 v2_14 0)) ∧ (¬ ((s6.2.1 6) v3_14.toNatClampNeg) = 0 → (wp_X4_jumpsOf fu s6 v3_14 (fun r36 => (wp_X4_meanJumps_J43 rec14 v3_14 v2_14 r36))))))))
def wp_X4_meanJumps_L14 (fu : Nat) (s6 : SX) (K14 : Int32 → Prop) : Nat → Int32 → Int32 → Prop
  | 0, _, _ => False
  | nn + 1, v3_14, v2_14 => wp_X4_meanJumps_B14 fu s6 K14 (wp_X4_meanJumps_L14 fu s6 K14 nn) v3_14 v2_14
def wp_X4_meanJumps (fu : Nat) (σ : SX) (P : UInt64 → SX → Prop) : Prop := (wp_X4_reaches fu (sI σ 5 0)  (fun r6 s6 => (wp_X4_meanJumps_L14 fu s6 (fun (v2_51 : Int32) => (vf_n64 (FP.ddiv (FP.i2d v2_51) (FP.i2d r6)) ∧ (P (FP.ddiv (FP.i2d v2_51) (FP.i2d r6)) s6))) fu 0 0)))
theorem k_X4_meanJumps : KV RX4 yX4_meanJumps cX4_meanJumps 4 (some .double) 0 := ⟨q1839, q1840, q5, q1841, by decide +kernel⟩
set_option maxHeartbeats 4000000 in
set_option maxRecDepth 100000 in
theorem m_X4_meanJumps (l : Launch) (dC : Nat → ClassId) (dI : Nat → Nat → Nat) (h : Nat → Nat) (cy : Nat → ClassId) (sz : Nat) (fu : Nat) (σ : SX) (P : UInt64 → SX → Prop) (hF : wp_X4_meanJumps fu σ P) : Met l yX4_meanJumps (ws_ yX4_meanJumps cX4_meanJumps 4 (some .double)) ({ frames := 3, cells := 0, slots := 0, locals := 70 } : Room) (va_Pc [.ref (h 0)] (fun U => U.heap.size = sz ∧ va_P (dC, dI) classes (wC h cy σ) U.heap ∧ kwX dC dI cy U ∧ va_D (fun _ => True) (wC h cy σ))) (va_Qd (fun r u => P r u) (fun (u : SX) t => va_P (dC, dI) classes (wC h cy u) t.heap ∧ kwX dC dI cy t ∧ va_D (va_A (wC h cy σ) sz) (wC h cy u)) (va_A (wC h cy σ) sz)) 0 0 (va_A (wC h cy σ) sz) := by
  refine Met.ofCx (own := RX4) (by decide) rfl (Nat.le_of_ble_eq_true rfl) ?_
  intro p e s m below meth c hC hv ls hl
  obtain ⟨hx, hb, hr, hml, hown, hts, hlocks⟩ := hC
  have hl : lv_has ls 4 [(0, .ref (h 0))] := hl
  obtain ⟨hsz, hP, hK, hD0⟩ := hv
  subst hsz
  have hD := hD0.self (sz := s.heap.size)
  generalize hAe : va_A (wC h cy σ) s.heap.size = A at hD ⊢
  have hA : ∀ q : Nat, s.heap.size ≤ q → A q := fun q h => by rw [← hAe]; exact Or.inr h
  have hS : va_S A s.heap s.heap [] := va_S.rf
  clear hAe
  unfold wp_X4_meanJumps at hF
  refine lv_aload_n hx hb dX4_meanJumps_0 rfl (lv_at hl 0 rfl) ?_
  refine lv_iconst (v := 0) hx hb dX4_meanJumps_1 (by decide) ?_
  refine va_put (D := (dC, dI)) (ci := 4) (v := .int 0) (ty := .int) (C := RX4) (T := TX4) (N := 19) hx hb hts in_X4 tyX4 tyX4_ok nmX4 hown hK.1 hP hD hS 0 rfl rfl 18 (by decide) (hts _ q968) (fun _ h9 => h9) rfl (by decide +kernel) rfl rfl (Nat.le_of_ble_eq_true rfl) dX4_meanJumps_2 (fun H locs hP hD hS => ?_)
  have hP : va_P (dC, dI) classes (wC h cy (sI σ 5 0)) H := hP
  have hD : va_D A (wC h cy (sI σ 5 0)) := hD
  refine lv_aload_n hx hb dX4_meanJumps_5 rfl (lv_at hl 0 rfl) ?_
  have hFc := va_free (wc := wC h cy (sI σ 5 0)) hD hS hA [0, 1, 2, 3, 4, 5, 6, 7, 8, 9] rfl
  refine cwVi (q0 := 0) (As := []) (rest := []) ⟨hx, hb, hr, hml, hown, hts, hlocks⟩ hK hP hD rfl rfl hS hFc (m_X4_reaches l dC dI h cy _ fu (sI σ 5 0)  _ hF) k_X4_reaches q1434 ⟨rfl, rfl⟩ ⟨Nat.le_of_ble_eq_true rfl, Nat.le_of_ble_eq_true rfl⟩ hl.1 rfl rfl (Nat.le_of_ble_eq_true rfl) dX4_meanJumps_6 ⟨Nat.le_of_ble_eq_true rfl, Nat.le_of_ble_eq_true rfl⟩ (fun r6 u H1 locs hF hP1 hD1 hk1 hS => ?_)
  obtain ⟨s6, rfl⟩ : ∃ z, z = u := ⟨_, rfl⟩
  have hP := hP1
  have hD := hD1.weaken (fun _ q _ h => hFc q.1 h)
  generalize H1 = H at hP hS ⊢
  have hP : va_P (dC, dI) classes (wC h cy s6) H := hP
  have hD : va_D A (wC h cy s6) := hD
  refine lv_istore_n (lv' := [(1, .int r6), (0, .ref (h 0))]) hx hb dX4_meanJumps_9 rfl hl (by decide) rfl (fun ls hl => ?_)
  refine lv_iconst (v := 0) hx hb dX4_meanJumps_10 (by decide) ?_
  refine lv_istore_n (lv' := [(2, .int 0), (1, .int r6), (0, .ref (h 0))]) hx hb dX4_meanJumps_11 rfl hl (by decide) rfl (fun ls hl => ?_)
  refine lv_iconst (v := 0) hx hb dX4_meanJumps_12 (by decide) ?_
  refine lv_istore_n (lv' := [(3, .int 0), (2, .int 0), (1, .int r6), (0, .ref (h 0))]) hx hb dX4_meanJumps_13 rfl hl (by decide) rfl (fun ls hl => ?_)
  have hX14 : ∀ (v2_51 : Int32), (fun (v2_51 : Int32) => (vf_n64 (FP.ddiv (FP.i2d v2_51) (FP.i2d r6)) ∧ (P (FP.ddiv (FP.i2d v2_51) (FP.i2d r6)) s6))) v2_51 → ∀ (H : Heap) (locs : List Loc), va_P (dC, dI) classes (wC h cy s6) H → va_D A (wC h cy s6) → va_S A s.heap H locs → ∀ (ls : Array Slot), lv_has ls 4 [(2, .int v2_51), (1, .int r6)] → W p l e ({ frames := 3, cells := 0, slots := 0, locals := 70 } : Room) s m ([.ref (h 0)] : List Value).toArray below meth c H locs 0 0 (MQ below (va_Qd (fun r u => P r u) (fun (u : SX) t => va_P (dC, dI) classes (wC h cy u) t.heap ∧ kwX dC dI cy t ∧ va_D A (wC h cy u)) A) ([.ref (h 0)] : List Value).toArray s 0 0 A) (F0 m 51 ls []) := by
    intro v2_51 hF H locs hP hD hS ls hl
    refine lv_iload_n hx hb dX4_meanJumps_51 rfl (lv_at hl 0 rfl) ?_
    refine lv_i2d hx hb dX4_meanJumps_52 ?_
    refine lv_iload_n hx hb dX4_meanJumps_53 rfl (lv_at hl 1 rfl) ?_
    refine lv_i2d hx hb dX4_meanJumps_54 ?_
    have hO := hF.1
    have hF := hF.2
    refine lv_ddiv hx hb dX4_meanJumps_55 hO ?_
    exact W.dret (v := FP.ddiv (FP.i2d v2_51) (FP.i2d r6)) hx hb hr (fun t ht hW => ⟨⟨FP.ddiv (FP.i2d v2_51) (FP.i2d r6), s6, rfl, hF, by rw [ht]; exact hP, hK.warm hW, hD⟩, hS.F ht⟩) hS.2.2 dX4_meanJumps_56
  have hL14 : ∀ (K14 : Int32 → Prop), (∀ (v2_51 : Int32), K14 v2_51 → ∀ (H : Heap) (locs : List Loc), va_P (dC, dI) classes (wC h cy s6) H → va_D A (wC h cy s6) → va_S A s.heap H locs → ∀ (ls : Array Slot), lv_has ls 4 [(2, .int v2_51), (1, .int r6)] → W p l e ({ frames := 3, cells := 0, slots := 0, locals := 70 } : Room) s m ([.ref (h 0)] : List Value).toArray below meth c H locs 0 0 (MQ below (va_Qd (fun r u => P r u) (fun (u : SX) t => va_P (dC, dI) classes (wC h cy u) t.heap ∧ kwX dC dI cy t ∧ va_D A (wC h cy u)) A) ([.ref (h 0)] : List Value).toArray s 0 0 A) (F0 m 51 ls [])) → ∀ (nn : Nat), ∀ (v3_14 : Int32), ∀ (v2_14 : Int32), wp_X4_meanJumps_L14 fu s6 K14 nn v3_14 v2_14 → ∀ (H : Heap) (locs : List Loc), va_P (dC, dI) classes (wC h cy s6) H → va_D A (wC h cy s6) → va_S A s.heap H locs → ∀ (ls : Array Slot), lv_has ls 4 [(3, .int v3_14), (2, .int v2_14), (1, .int r6), (0, .ref (h 0))] → W p l e ({ frames := 3, cells := 0, slots := 0, locals := 70 } : Room) s m ([.ref (h 0)] : List Value).toArray below meth c H locs 0 0 (MQ below (va_Qd (fun r u => P r u) (fun (u : SX) t => va_P (dC, dI) classes (wC h cy u) t.heap ∧ kwX dC dI cy t ∧ va_D A (wC h cy u)) A) ([.ref (h 0)] : List Value).toArray s 0 0 A) (F0 m 14 ls []) := by
    intro K14 hX14 nn
    induction nn with
    | zero =>
      intro v3_14 v2_14 hF
      exact hF.elim
    | succ nn ih =>
      intro v3_14 v2_14 hF H locs hP hD hS ls hl
      obtain ⟨rec14, hrec⟩ : ∃ z : Int32 → Int32 → Prop, z = wp_X4_meanJumps_L14 fu s6 K14 nn := ⟨_, rfl⟩
      have hF : wp_X4_meanJumps_B14 fu s6 K14 rec14 v3_14 v2_14 := by rw [hrec]; exact hF
      rw [← hrec] at ih
      clear hrec
      unfold wp_X4_meanJumps_B14 at hF
      refine lv_iload_n hx hb dX4_meanJumps_14 rfl (lv_at hl 0 rfl) ?_
      refine lv_iconst (v := 1) hx hb dX4_meanJumps_15 (by decide) ?_
      refine lv_aload_n hx hb dX4_meanJumps_16 rfl (lv_at hl 3 rfl) ?_
      refine va_get (D := (dC, dI)) (ci := 4) (v := .int (s6.1 0)) (C := RX4) (T := TX4) (N := 19) hx hb hts in_X4 hown hK.1 hP 0 rfl rfl 13 (by decide) (hts _ q963) (fun _ h9 => h9) rfl dX4_meanJumps_17 ?_
      refine lv_ishl hx hb dX4_meanJumps_20 ?_
      refine lv_icmp_ge (tgt := 51) hx hb dX4_meanJumps_21 (by decide) (fun cz => ?_) (fun cz => ?_)
      · have hF := hF.1 cz
        exact hX14 v2_14 hF _ _ hP hD hS _ (lv_sub hl [1, 2] rfl)
      · have hF := hF.2 cz
        refine lv_iload_n hx hb dX4_meanJumps_24 rfl (lv_at hl 1 rfl) ?_
        refine lv_aload_n hx hb dX4_meanJumps_25 rfl (lv_at hl 3 rfl) ?_
        refine va_get (D := (dC, dI)) (ci := 4) (v := .ref (h 8)) (C := RX4) (T := TX4) (N := 19) hx hb hts in_X4 hown hK.1 hP 0 rfl rfl 10 (by decide) (hts _ q960) (fun _ h9 => h9) rfl dX4_meanJumps_26 ?_
        refine lv_iload_n hx hb dX4_meanJumps_29 rfl (lv_at hl 0 rfl) ?_
        have hI := hF.1
        have hF := hF.2
        refine va_zald hx hb hK.1 hP 8 2 rfl rfl hI dX4_meanJumps_30 ?_
        have hJ43 : ∀ (t1_43 : Int32), wp_X4_meanJumps_J43 rec14 v3_14 v2_14 t1_43 → ∀ (H : Heap) (locs : List Loc), va_P (dC, dI) classes (wC h cy s6) H → va_D A (wC h cy s6) → va_S A s.heap H locs → ∀ (ls : Array Slot), lv_has ls 4 [(3, .int v3_14), (1, .int r6), (0, .ref (h 0))] → W p l e ({ frames := 3, cells := 0, slots := 0, locals := 70 } : Room) s m ([.ref (h 0)] : List Value).toArray below meth c H locs 0 0 (MQ below (va_Qd (fun r u => P r u) (fun (u : SX) t => va_P (dC, dI) classes (wC h cy u) t.heap ∧ kwX dC dI cy t ∧ va_D A (wC h cy u)) A) ([.ref (h 0)] : List Value).toArray s 0 0 A) (F0 m 43 ls [.int t1_43, .int v2_14]) := by
          intro t1_43 hF H locs hP hD hS ls hl
          unfold wp_X4_meanJumps_J43 at hF
          refine lv_iadd hx hb dX4_meanJumps_43 ?_
          refine lv_istore_n (lv' := [(2, .int (v2_14 + t1_43)), (3, .int v3_14), (1, .int r6), (0, .ref (h 0))]) hx hb dX4_meanJumps_44 rfl hl (by decide) rfl (fun ls hl => ?_)
          refine lv_iinc (v := v3_14 + 1) (lv' := [(3, .int (v3_14 + 1)), (2, .int (v2_14 + t1_43)), (1, .int r6), (0, .ref (h 0))]) hx hb dX4_meanJumps_45 hl (k := 1) rfl (by rfl) (by decide) rfl (fun ls hl => ?_)
          refine lv_goto (tgt := 14) hx hb dX4_meanJumps_48 (by decide) ?_
          exact ih (v3_14 + 1) (v2_14 + t1_43) hF _ _ hP hD hS _ (lv_sub hl [0, 1, 2, 3] rfl)
        refine lv_if_eq (tgt := 42) hx hb dX4_meanJumps_31 (by decide) (fun cz => ?_) (fun cz => ?_)
        · have hF := hF.1 cz
          refine lv_iconst (v := 0) hx hb dX4_meanJumps_42 (by decide) ?_
          exact hJ43 0 hF _ _ hP hD hS _ (lv_sub hl [0, 2, 3] rfl)
        · have hF := hF.2 cz
          refine lv_aload_n hx hb dX4_meanJumps_34 rfl (lv_at hl 3 rfl) ?_
          refine lv_iload_n hx hb dX4_meanJumps_35 rfl (lv_at hl 0 rfl) ?_
          refine cpVi (q0 := 0) (As := [.int v3_14]) (rest := [.int v2_14]) ⟨hx, hb, hr, hml, hown, hts, hlocks⟩ hK hP rfl rfl (m_X4_jumpsOf l dC dI h cy fu s6 v3_14 _ hF) k_X4_jumpsOf q1324 ⟨rfl, rfl⟩ ⟨Nat.le_of_ble_eq_true rfl, Nat.le_of_ble_eq_true rfl⟩ hl.1 rfl rfl (Nat.le_of_ble_eq_true rfl) dX4_meanJumps_36 ⟨Nat.le_of_ble_eq_true rfl, Nat.le_of_ble_eq_true rfl⟩ (fun r36 hF => ?_)
          refine lv_goto (tgt := 43) hx hb dX4_meanJumps_39 (by decide) ?_
          exact hJ43 r36 hF _ _ hP hD hS _ (lv_sub hl [0, 2, 3] rfl)
  exact hL14 _ hX14 fu 0 0 hF _ _ hP hD hS _ (lv_sub hl [0, 1, 2, 3] rfl)
theorem dX4_narrower_0 : decode cX4_narrower 0 = .ok (.iload_n 0, 1) := by decide +kernel
theorem dX4_narrower_1 : decode cX4_narrower 1 = .ok (.iconst 1, 1) := by decide +kernel
theorem dX4_narrower_2 : decode cX4_narrower 2 = .ok (.iload_n 1, 1) := by decide +kernel
theorem dX4_narrower_3 : decode cX4_narrower 3 = .ok (.ishl, 1) := by decide +kernel
theorem dX4_narrower_4 : decode cX4_narrower 4 = .ok (.iconst 1, 1) := by decide +kernel
theorem dX4_narrower_5 : decode cX4_narrower 5 = .ok (.isub, 1) := by decide +kernel
theorem dX4_narrower_6 : decode cX4_narrower 6 = .ok (.iand, 1) := by decide +kernel
theorem dX4_narrower_7 : decode cX4_narrower 7 = .ok (.iload_n 0, 1) := by decide +kernel
theorem dX4_narrower_8 : decode cX4_narrower 8 = .ok (.iload_n 1, 1) := by decide +kernel
theorem dX4_narrower_9 : decode cX4_narrower 9 = .ok (.iconst 1, 1) := by decide +kernel
theorem dX4_narrower_10 : decode cX4_narrower 10 = .ok (.iadd, 1) := by decide +kernel
theorem dX4_narrower_11 : decode cX4_narrower 11 = .ok (.ishr, 1) := by decide +kernel
theorem dX4_narrower_12 : decode cX4_narrower 12 = .ok (.iload_n 1, 1) := by decide +kernel
theorem dX4_narrower_13 : decode cX4_narrower 13 = .ok (.ishl, 1) := by decide +kernel
theorem dX4_narrower_14 : decode cX4_narrower 14 = .ok (.ior, 1) := by decide +kernel
theorem dX4_narrower_15 : decode cX4_narrower 15 = .ok (.ireturn, 1) := by decide +kernel
def wp_X4_narrower (x0 : Int32) (x1 : Int32) (P : Int32 → Prop) : Prop := (P ((x0 &&& (((1 : Int32) <<< (x1 &&& 31)) - 1)) ||| ((x0 >>> ((x1 + 1) &&& 31)) <<< (x1 &&& 31))))
theorem k_X4_narrower : KS yX4_narrower cX4_narrower 2 (some .int) 2 := ⟨q1149, q5, q1150, by decide +kernel⟩
set_option maxHeartbeats 4000000 in
set_option maxRecDepth 100000 in
theorem m_X4_narrower (l : Launch) (x0 : Int32) (x1 : Int32) (P : Int32 → Prop) (hF : wp_X4_narrower x0 x1 P) : Met l yX4_narrower (ws_ yX4_narrower cX4_narrower 2 (some .int)) ({ frames := 0, cells := 0, slots := 0, locals := 0 } : Room) (va_Pc [.int x0, .int x1] (fun _ => True)) (vp_Si P) 0 0 (fun _ => False) := by
  refine Met.ofCx (own := RX4) (by decide) rfl (Nat.le_of_ble_eq_true rfl) ?_
  intro p e s m below meth c hC hv ls hl
  obtain ⟨hx, hb, hr, hml, hown, hts, hlocks⟩ := hC
  have hl : lv_has ls 2 [(0, .int x0), (1, .int x1)] := hl
  unfold wp_X4_narrower at hF
  refine lv_iload_n hx hb dX4_narrower_0 rfl (lv_at hl 0 rfl) ?_
  refine lv_iconst (v := 1) hx hb dX4_narrower_1 (by decide) ?_
  refine lv_iload_n hx hb dX4_narrower_2 rfl (lv_at hl 1 rfl) ?_
  refine lv_ishl hx hb dX4_narrower_3 ?_
  refine lv_iconst (v := 1) hx hb dX4_narrower_4 (by decide) ?_
  refine lv_isub hx hb dX4_narrower_5 ?_
  refine lv_iand hx hb dX4_narrower_6 ?_
  refine lv_iload_n hx hb dX4_narrower_7 rfl (lv_at hl 0 rfl) ?_
  refine lv_iload_n hx hb dX4_narrower_8 rfl (lv_at hl 1 rfl) ?_
  refine lv_iconst (v := 1) hx hb dX4_narrower_9 (by decide) ?_
  refine lv_iadd hx hb dX4_narrower_10 ?_
  refine lv_ishr hx hb dX4_narrower_11 ?_
  refine lv_iload_n hx hb dX4_narrower_12 rfl (lv_at hl 1 rfl) ?_
  refine lv_ishl hx hb dX4_narrower_13 ?_
  refine lv_ior hx hb dX4_narrower_14 ?_
  exact W.iret (v := (x0 &&& (((1 : Int32) <<< (x1 &&& 31)) - 1)) ||| ((x0 >>> ((x1 + 1) &&& 31)) <<< (x1 &&& 31))) hx hb hr (fun t ht hW => ⟨(x0 &&& (((1 : Int32) <<< (x1 &&& 31)) - 1)) ||| ((x0 >>> ((x1 + 1) &&& 31)) <<< (x1 &&& 31)), rfl, hF, ht⟩) (fun q hq => absurd hq List.not_mem_nil) dX4_narrower_15
theorem dX4_now_0 : decode cX4_now 0 = .ok (.aload_n 0, 1) := by decide +kernel
theorem dX4_now_1 : decode cX4_now 1 = .ok (.iconst 0, 1) := by decide +kernel
theorem dX4_now_2 : decode cX4_now 2 = .ok (.putfield 60, 3) := by decide +kernel
theorem dX4_now_5 : decode cX4_now 5 = .ok (.aload_n 0, 1) := by decide +kernel
theorem dX4_now_6 : decode cX4_now 6 = .ok (.getfield 120, 3) := by decide +kernel
theorem dX4_now_9 : decode cX4_now 9 = .ok (.ireturn, 1) := by decide +kernel
def wp_X4_now (σ : SX) (P : Int32 → SX → Prop) : Prop := (P (σ.1 2) (sI σ 5 0))
theorem k_X4_now : KV RX4 yX4_now cX4_now 1 (some .int) 0 := ⟨q1203, q1204, q5, q1205, by decide +kernel⟩
set_option maxHeartbeats 4000000 in
set_option maxRecDepth 100000 in
theorem m_X4_now (l : Launch) (dC : Nat → ClassId) (dI : Nat → Nat → Nat) (h : Nat → Nat) (cy : Nat → ClassId) (sz : Nat) (σ : SX) (P : Int32 → SX → Prop) (hF : wp_X4_now σ P) : Met l yX4_now (ws_ yX4_now cX4_now 1 (some .int)) ({ frames := 0, cells := 0, slots := 0, locals := 0 } : Room) (va_Pc [.ref (h 0)] (fun U => U.heap.size = sz ∧ va_P (dC, dI) classes (wC h cy σ) U.heap ∧ kwX dC dI cy U ∧ va_D (fun _ => True) (wC h cy σ))) (va_Qi (fun r u => P r u) (fun (u : SX) t => va_P (dC, dI) classes (wC h cy u) t.heap ∧ kwX dC dI cy t ∧ va_D (va_A (wC h cy σ) sz) (wC h cy u)) (va_A (wC h cy σ) sz)) 0 0 (va_A (wC h cy σ) sz) := by
  refine Met.ofCx (own := RX4) (by decide) rfl (Nat.le_of_ble_eq_true rfl) ?_
  intro p e s m below meth c hC hv ls hl
  obtain ⟨hx, hb, hr, hml, hown, hts, hlocks⟩ := hC
  have hl : lv_has ls 1 [(0, .ref (h 0))] := hl
  obtain ⟨hsz, hP, hK, hD0⟩ := hv
  subst hsz
  have hD := hD0.self (sz := s.heap.size)
  generalize hAe : va_A (wC h cy σ) s.heap.size = A at hD ⊢
  have hA : ∀ q : Nat, s.heap.size ≤ q → A q := fun q h => by rw [← hAe]; exact Or.inr h
  have hS : va_S A s.heap s.heap [] := va_S.rf
  clear hAe
  unfold wp_X4_now at hF
  refine lv_aload_n hx hb dX4_now_0 rfl (lv_at hl 0 rfl) ?_
  refine lv_iconst (v := 0) hx hb dX4_now_1 (by decide) ?_
  refine va_put (D := (dC, dI)) (ci := 4) (v := .int 0) (ty := .int) (C := RX4) (T := TX4) (N := 19) hx hb hts in_X4 tyX4 tyX4_ok nmX4 hown hK.1 hP hD hS 0 rfl rfl 18 (by decide) (hts _ q968) (fun _ h9 => h9) rfl (by decide +kernel) rfl rfl (Nat.le_of_ble_eq_true rfl) dX4_now_2 (fun H locs hP hD hS => ?_)
  have hP : va_P (dC, dI) classes (wC h cy (sI σ 5 0)) H := hP
  have hD : va_D A (wC h cy (sI σ 5 0)) := hD
  refine lv_aload_n hx hb dX4_now_5 rfl (lv_at hl 0 rfl) ?_
  refine va_get (D := (dC, dI)) (ci := 4) (v := .int (σ.1 2)) (C := RX4) (T := TX4) (N := 19) hx hb hts in_X4 hown hK.1 hP 0 rfl rfl 15 (by decide) (hts _ q965) (fun _ h9 => h9) rfl dX4_now_6 ?_
  exact W.iret (v := σ.1 2) hx hb hr (fun t ht hW => ⟨⟨σ.1 2, sI σ 5 0, rfl, hF, by rw [ht]; exact hP, hK.warm hW, hD⟩, hS.F ht⟩) hS.2.2 dX4_now_9
theorem dX4_reached_0 : decode cX4_reached 0 = .ok (.aload_n 0, 1) := by decide +kernel
theorem dX4_reached_1 : decode cX4_reached 1 = .ok (.iconst 0, 1) := by decide +kernel
theorem dX4_reached_2 : decode cX4_reached 2 = .ok (.putfield 60, 3) := by decide +kernel
theorem dX4_reached_5 : decode cX4_reached 5 = .ok (.aload_n 0, 1) := by decide +kernel
theorem dX4_reached_6 : decode cX4_reached 6 = .ok (.invokevirtual 222, 3) := by decide +kernel
theorem dX4_reached_9 : decode cX4_reached 9 = .ok (.ireturn, 1) := by decide +kernel
def wp_X4_reached (fu : Nat) (σ : SX) (P : Int32 → SX → Prop) : Prop := (wp_X4_reaches fu (sI σ 5 0)  (fun r6 s6 => (P r6 s6)))
theorem k_X4_reached : KV RX4 yX4_reached cX4_reached 1 (some .int) 0 := ⟨q1431, q1432, q5, q1433, by decide +kernel⟩
set_option maxHeartbeats 4000000 in
set_option maxRecDepth 100000 in
theorem m_X4_reached (l : Launch) (dC : Nat → ClassId) (dI : Nat → Nat → Nat) (h : Nat → Nat) (cy : Nat → ClassId) (sz : Nat) (fu : Nat) (σ : SX) (P : Int32 → SX → Prop) (hF : wp_X4_reached fu σ P) : Met l yX4_reached (ws_ yX4_reached cX4_reached 1 (some .int)) ({ frames := 3, cells := 0, slots := 0, locals := 70 } : Room) (va_Pc [.ref (h 0)] (fun U => U.heap.size = sz ∧ va_P (dC, dI) classes (wC h cy σ) U.heap ∧ kwX dC dI cy U ∧ va_D (fun _ => True) (wC h cy σ))) (va_Qi (fun r u => P r u) (fun (u : SX) t => va_P (dC, dI) classes (wC h cy u) t.heap ∧ kwX dC dI cy t ∧ va_D (va_A (wC h cy σ) sz) (wC h cy u)) (va_A (wC h cy σ) sz)) 0 0 (va_A (wC h cy σ) sz) := by
  refine Met.ofCx (own := RX4) (by decide) rfl (Nat.le_of_ble_eq_true rfl) ?_
  intro p e s m below meth c hC hv ls hl
  obtain ⟨hx, hb, hr, hml, hown, hts, hlocks⟩ := hC
  have hl : lv_has ls 1 [(0, .ref (h 0))] := hl
  obtain ⟨hsz, hP, hK, hD0⟩ := hv
  subst hsz
  have hD := hD0.self (sz := s.heap.size)
  generalize hAe : va_A (wC h cy σ) s.heap.size = A at hD ⊢
  have hA : ∀ q : Nat, s.heap.size ≤ q → A q := fun q h => by rw [← hAe]; exact Or.inr h
  have hS : va_S A s.heap s.heap [] := va_S.rf
  clear hAe
  unfold wp_X4_reached at hF
  refine lv_aload_n hx hb dX4_reached_0 rfl (lv_at hl 0 rfl) ?_
  refine lv_iconst (v := 0) hx hb dX4_reached_1 (by decide) ?_
  refine va_put (D := (dC, dI)) (ci := 4) (v := .int 0) (ty := .int) (C := RX4) (T := TX4) (N := 19) hx hb hts in_X4 tyX4 tyX4_ok nmX4 hown hK.1 hP hD hS 0 rfl rfl 18 (by decide) (hts _ q968) (fun _ h9 => h9) rfl (by decide +kernel) rfl rfl (Nat.le_of_ble_eq_true rfl) dX4_reached_2 (fun H locs hP hD hS => ?_)
  have hP : va_P (dC, dI) classes (wC h cy (sI σ 5 0)) H := hP
  have hD : va_D A (wC h cy (sI σ 5 0)) := hD
  refine lv_aload_n hx hb dX4_reached_5 rfl (lv_at hl 0 rfl) ?_
  have hFc := va_free (wc := wC h cy (sI σ 5 0)) hD hS hA [0, 1, 2, 3, 4, 5, 6, 7, 8, 9] rfl
  refine cwVi (q0 := 0) (As := []) (rest := []) ⟨hx, hb, hr, hml, hown, hts, hlocks⟩ hK hP hD rfl rfl hS hFc (m_X4_reaches l dC dI h cy _ fu (sI σ 5 0)  _ hF) k_X4_reaches q1434 ⟨rfl, rfl⟩ ⟨Nat.le_of_ble_eq_true rfl, Nat.le_of_ble_eq_true rfl⟩ hl.1 rfl rfl (Nat.le_of_ble_eq_true rfl) dX4_reached_6 ⟨Nat.le_of_ble_eq_true rfl, Nat.le_of_ble_eq_true rfl⟩ (fun r6 u H1 locs hF hP1 hD1 hk1 hS => ?_)
  obtain ⟨s6, rfl⟩ : ∃ z, z = u := ⟨_, rfl⟩
  have hP := hP1
  have hD := hD1.weaken (fun _ q _ h => hFc q.1 h)
  generalize H1 = H at hP hS ⊢
  have hP : va_P (dC, dI) classes (wC h cy s6) H := hP
  have hD : va_D A (wC h cy s6) := hD
  exact W.iret (v := r6) hx hb hr (fun t ht hW => ⟨⟨r6, s6, rfl, hF, by rw [ht]; exact hP, hK.warm hW, hD⟩, hS.F ht⟩) hS.2.2 dX4_reached_9
theorem dX4_setEnd_0 : decode cX4_setEnd 0 = .ok (.aload_n 0, 1) := by decide +kernel
theorem dX4_setEnd_1 : decode cX4_setEnd 1 = .ok (.aload_n 0, 1) := by decide +kernel
theorem dX4_setEnd_2 : decode cX4_setEnd 2 = .ok (.iload_n 1, 1) := by decide +kernel
theorem dX4_setEnd_3 : decode cX4_setEnd 3 = .ok (.invokevirtual 147, 3) := by decide +kernel
theorem dX4_setEnd_6 : decode cX4_setEnd 6 = .ok (.ifCond .eq 7, 3) := by decide +kernel
theorem dX4_setEnd_9 : decode cX4_setEnd 9 = .ok (.iconst 0, 1) := by decide +kernel
theorem dX4_setEnd_10 : decode cX4_setEnd 10 = .ok (.goto 4, 3) := by decide +kernel
theorem dX4_setEnd_13 : decode cX4_setEnd 13 = .ok (.iconst 1, 1) := by decide +kernel
theorem dX4_setEnd_14 : decode cX4_setEnd 14 = .ok (.invokevirtual 100, 3) := by decide +kernel
theorem dX4_setEnd_17 : decode cX4_setEnd 17 = .ok (.ifCond .eq 5, 3) := by decide +kernel
theorem dX4_setEnd_20 : decode cX4_setEnd 20 = .ok (.iconst 0, 1) := by decide +kernel
theorem dX4_setEnd_21 : decode cX4_setEnd 21 = .ok (.ireturn, 1) := by decide +kernel
theorem dX4_setEnd_22 : decode cX4_setEnd 22 = .ok (.aload_n 0, 1) := by decide +kernel
theorem dX4_setEnd_23 : decode cX4_setEnd 23 = .ok (.getfield 114, 3) := by decide +kernel
theorem dX4_setEnd_26 : decode cX4_setEnd 26 = .ok (.istore_n 2, 1) := by decide +kernel
theorem dX4_setEnd_27 : decode cX4_setEnd 27 = .ok (.aload_n 0, 1) := by decide +kernel
theorem dX4_setEnd_28 : decode cX4_setEnd 28 = .ok (.iload_n 1, 1) := by decide +kernel
theorem dX4_setEnd_29 : decode cX4_setEnd 29 = .ok (.putfield 114, 3) := by decide +kernel
theorem dX4_setEnd_32 : decode cX4_setEnd 32 = .ok (.iload_n 2, 1) := by decide +kernel
theorem dX4_setEnd_33 : decode cX4_setEnd 33 = .ok (.ireturn, 1) := by decide +kernel
def wp_X4_setEnd_J14 (σ : SX) (x1 : Int32) (P : Int32 → SX → Prop) (t1_14 : Int32) : Prop := (wp_X4_fails σ t1_14 (fun r14 s14 => ((r14 = 0 → (P (s14.1 3) (sI s14 3 x1))) ∧ (¬ r14 = 0 → (P 0 s14)))))
def wp_X4_setEnd (σ : SX) (x1 : Int32) (P : Int32 → SX → Prop) : Prop := (wp_X4_isPosition σ x1 (fun r3 => ((r3 = 0 → (wp_X4_setEnd_J14 σ x1 P 1)) ∧ (¬ r3 = 0 → (wp_X4_setEnd_J14 σ x1 P 0)))))
theorem k_X4_setEnd : KV RX4 yX4_setEnd cX4_setEnd 3 (some .int) 1 := ⟨q1403, q1404, q5, q1405, by decide +kernel⟩
set_option maxHeartbeats 4000000 in
set_option maxRecDepth 100000 in
theorem m_X4_setEnd (l : Launch) (dC : Nat → ClassId) (dI : Nat → Nat → Nat) (h : Nat → Nat) (cy : Nat → ClassId) (sz : Nat) (σ : SX) (x1 : Int32) (P : Int32 → SX → Prop) (hF : wp_X4_setEnd σ x1 P) : Met l yX4_setEnd (ws_ yX4_setEnd cX4_setEnd 3 (some .int)) ({ frames := 2, cells := 0, slots := 0, locals := 43 } : Room) (va_Pc [.ref (h 0), .int x1] (fun U => U.heap.size = sz ∧ va_P (dC, dI) classes (wC h cy σ) U.heap ∧ kwX dC dI cy U ∧ va_D (fun _ => True) (wC h cy σ))) (va_Qi (fun r u => P r u) (fun (u : SX) t => va_P (dC, dI) classes (wC h cy u) t.heap ∧ kwX dC dI cy t ∧ va_D (va_A (wC h cy σ) sz) (wC h cy u)) (va_A (wC h cy σ) sz)) 0 0 (va_A (wC h cy σ) sz) := by
  refine Met.ofCx (own := RX4) (by decide) rfl (Nat.le_of_ble_eq_true rfl) ?_
  intro p e s m below meth c hC hv ls hl
  obtain ⟨hx, hb, hr, hml, hown, hts, hlocks⟩ := hC
  have hl : lv_has ls 3 [(0, .ref (h 0)), (1, .int x1)] := hl
  obtain ⟨hsz, hP, hK, hD0⟩ := hv
  subst hsz
  have hD := hD0.self (sz := s.heap.size)
  generalize hAe : va_A (wC h cy σ) s.heap.size = A at hD ⊢
  have hA : ∀ q : Nat, s.heap.size ≤ q → A q := fun q h => by rw [← hAe]; exact Or.inr h
  have hS : va_S A s.heap s.heap [] := va_S.rf
  clear hAe
  unfold wp_X4_setEnd at hF
  refine lv_aload_n hx hb dX4_setEnd_0 rfl (lv_at hl 0 rfl) ?_
  refine lv_aload_n hx hb dX4_setEnd_1 rfl (lv_at hl 0 rfl) ?_
  refine lv_iload_n hx hb dX4_setEnd_2 rfl (lv_at hl 1 rfl) ?_
  refine cpVi (q0 := 0) (As := [.int x1]) (rest := [.ref (h 0)]) ⟨hx, hb, hr, hml, hown, hts, hlocks⟩ hK hP rfl rfl (m_X4_isPosition l dC dI h cy σ x1 _ hF) k_X4_isPosition q1190 ⟨rfl, rfl⟩ ⟨Nat.le_of_ble_eq_true rfl, Nat.le_of_ble_eq_true rfl⟩ hl.1 rfl rfl (Nat.le_of_ble_eq_true rfl) dX4_setEnd_3 ⟨Nat.le_of_ble_eq_true rfl, Nat.le_of_ble_eq_true rfl⟩ (fun r3 hF => ?_)
  have hJ14 : ∀ (t1_14 : Int32), wp_X4_setEnd_J14 σ x1 P t1_14 → ∀ (H : Heap) (locs : List Loc), va_P (dC, dI) classes (wC h cy σ) H → va_D A (wC h cy σ) → va_S A s.heap H locs → ∀ (ls : Array Slot), lv_has ls 3 [(0, .ref (h 0)), (1, .int x1)] → W p l e ({ frames := 2, cells := 0, slots := 0, locals := 43 } : Room) s m ([.ref (h 0), .int x1] : List Value).toArray below meth c H locs 0 0 (MQ below (va_Qi (fun r u => P r u) (fun (u : SX) t => va_P (dC, dI) classes (wC h cy u) t.heap ∧ kwX dC dI cy t ∧ va_D A (wC h cy u)) A) ([.ref (h 0), .int x1] : List Value).toArray s 0 0 A) (F0 m 14 ls [.int t1_14, .ref (h 0)]) := by
    intro t1_14 hF H locs hP hD hS ls hl
    unfold wp_X4_setEnd_J14 at hF
    have hFc := va_free (wc := wC h cy σ) hD hS hA [0, 1, 2, 3, 4, 5, 6, 7, 8, 9] rfl
    refine cwVi (q0 := 0) (As := [.int t1_14]) (rest := []) ⟨hx, hb, hr, hml, hown, hts, hlocks⟩ hK hP hD rfl rfl hS hFc (m_X4_fails l dC dI h cy _ σ t1_14 _ hF) k_X4_fails q1102 ⟨rfl, rfl⟩ ⟨Nat.le_of_ble_eq_true rfl, Nat.le_of_ble_eq_true rfl⟩ hl.1 rfl rfl (Nat.le_of_ble_eq_true rfl) dX4_setEnd_14 ⟨Nat.le_of_ble_eq_true rfl, Nat.le_of_ble_eq_true rfl⟩ (fun r14 u H1 locs hF hP1 hD1 hk1 hS => ?_)
    obtain ⟨s14, rfl⟩ : ∃ z, z = u := ⟨_, rfl⟩
    have hP := hP1
    have hD := hD1.weaken (fun _ q _ h => hFc q.1 h)
    generalize H1 = H at hP hS ⊢
    have hP : va_P (dC, dI) classes (wC h cy s14) H := hP
    have hD : va_D A (wC h cy s14) := hD
    refine lv_if_eq (tgt := 22) hx hb dX4_setEnd_17 (by decide) (fun cz => ?_) (fun cz => ?_)
    · have hF := hF.1 cz
      refine lv_aload_n hx hb dX4_setEnd_22 rfl (lv_at hl 0 rfl) ?_
      refine va_get (D := (dC, dI)) (ci := 4) (v := .int (s14.1 3)) (C := RX4) (T := TX4) (N := 19) hx hb hts in_X4 hown hK.1 hP 0 rfl rfl 16 (by decide) (hts _ q966) (fun _ h9 => h9) rfl dX4_setEnd_23 ?_
      refine lv_istore_n (lv' := [(2, .int (s14.1 3)), (0, .ref (h 0)), (1, .int x1)]) hx hb dX4_setEnd_26 rfl hl (by decide) rfl (fun ls hl => ?_)
      refine lv_aload_n hx hb dX4_setEnd_27 rfl (lv_at hl 1 rfl) ?_
      refine lv_iload_n hx hb dX4_setEnd_28 rfl (lv_at hl 2 rfl) ?_
      refine va_put (D := (dC, dI)) (ci := 4) (v := .int x1) (ty := .int) (C := RX4) (T := TX4) (N := 19) hx hb hts in_X4 tyX4 tyX4_ok nmX4 hown hK.1 hP hD hS 0 rfl rfl 16 (by decide) (hts _ q966) (fun _ h9 => h9) rfl (by decide +kernel) rfl rfl (Nat.le_of_ble_eq_true rfl) dX4_setEnd_29 (fun H locs hP hD hS => ?_)
      have hP : va_P (dC, dI) classes (wC h cy (sI s14 3 x1)) H := hP
      have hD : va_D A (wC h cy (sI s14 3 x1)) := hD
      refine lv_iload_n hx hb dX4_setEnd_32 rfl (lv_at hl 0 rfl) ?_
      exact W.iret (v := s14.1 3) hx hb hr (fun t ht hW => ⟨⟨s14.1 3, sI s14 3 x1, rfl, hF, by rw [ht]; exact hP, hK.warm hW, hD⟩, hS.F ht⟩) hS.2.2 dX4_setEnd_33
    · have hF := hF.2 cz
      refine lv_iconst (v := 0) hx hb dX4_setEnd_20 (by decide) ?_
      exact W.iret (v := 0) hx hb hr (fun t ht hW => ⟨⟨0, s14, rfl, hF, by rw [ht]; exact hP, hK.warm hW, hD⟩, hS.F ht⟩) hS.2.2 dX4_setEnd_21
  refine lv_if_eq (tgt := 13) hx hb dX4_setEnd_6 (by decide) (fun cz => ?_) (fun cz => ?_)
  · have hF := hF.1 cz
    refine lv_iconst (v := 1) hx hb dX4_setEnd_13 (by decide) ?_
    exact hJ14 1 hF _ _ hP hD hS _ (lv_sub hl [0, 1] rfl)
  · have hF := hF.2 cz
    refine lv_iconst (v := 0) hx hb dX4_setEnd_9 (by decide) ?_
    refine lv_goto (tgt := 14) hx hb dX4_setEnd_10 (by decide) ?_
    exact hJ14 0 hF _ _ hP hD hS _ (lv_sub hl [0, 1] rfl)
theorem dX4_symmetries_0 : decode cX4_symmetries 0 = .ok (.aload_n 0, 1) := by decide +kernel
theorem dX4_symmetries_1 : decode cX4_symmetries 1 = .ok (.iconst 0, 1) := by decide +kernel
theorem dX4_symmetries_2 : decode cX4_symmetries 2 = .ok (.putfield 60, 3) := by decide +kernel
theorem dX4_symmetries_5 : decode cX4_symmetries 5 = .ok (.iconst 0, 1) := by decide +kernel
theorem dX4_symmetries_6 : decode cX4_symmetries 6 = .ok (.istore_n 1, 1) := by decide +kernel
theorem dX4_symmetries_7 : decode cX4_symmetries 7 = .ok (.iconst 0, 1) := by decide +kernel
theorem dX4_symmetries_8 : decode cX4_symmetries 8 = .ok (.istore_n 2, 1) := by decide +kernel
theorem dX4_symmetries_9 : decode cX4_symmetries 9 = .ok (.iload_n 2, 1) := by decide +kernel
theorem dX4_symmetries_10 : decode cX4_symmetries 10 = .ok (.bipush 8, 2) := by decide +kernel
theorem dX4_symmetries_12 : decode cX4_symmetries 12 = .ok (.if_icmp .ge 25, 3) := by decide +kernel
theorem dX4_symmetries_15 : decode cX4_symmetries 15 = .ok (.iload_n 1, 1) := by decide +kernel
theorem dX4_symmetries_16 : decode cX4_symmetries 16 = .ok (.aload_n 0, 1) := by decide +kernel
theorem dX4_symmetries_17 : decode cX4_symmetries 17 = .ok (.iload_n 2, 1) := by decide +kernel
theorem dX4_symmetries_18 : decode cX4_symmetries 18 = .ok (.invokevirtual 144, 3) := by decide +kernel
theorem dX4_symmetries_21 : decode cX4_symmetries 21 = .ok (.ifCond .eq 7, 3) := by decide +kernel
theorem dX4_symmetries_24 : decode cX4_symmetries 24 = .ok (.iconst 1, 1) := by decide +kernel
theorem dX4_symmetries_25 : decode cX4_symmetries 25 = .ok (.goto 4, 3) := by decide +kernel
theorem dX4_symmetries_28 : decode cX4_symmetries 28 = .ok (.iconst 0, 1) := by decide +kernel
theorem dX4_symmetries_29 : decode cX4_symmetries 29 = .ok (.iadd, 1) := by decide +kernel
theorem dX4_symmetries_30 : decode cX4_symmetries 30 = .ok (.istore_n 1, 1) := by decide +kernel
theorem dX4_symmetries_31 : decode cX4_symmetries 31 = .ok (.iinc 2 1, 3) := by decide +kernel
theorem dX4_symmetries_34 : decode cX4_symmetries 34 = .ok (.goto (-25), 3) := by decide +kernel
theorem dX4_symmetries_37 : decode cX4_symmetries 37 = .ok (.iload_n 1, 1) := by decide +kernel
theorem dX4_symmetries_38 : decode cX4_symmetries 38 = .ok (.ireturn, 1) := by decide +kernel
def wp_X4_symmetries_J29 (rec9 : Int32 → Int32 → Prop) (v2_9 : Int32) (v1_9 : Int32) (t1_29 : Int32) : Prop := (rec9 (v2_9 + 1) (v1_9 + t1_29))
def wp_X4_symmetries_B9 (fu : Nat) (σ : SX) (K9 : Int32 → Prop) (rec9 : Int32 → Int32 → Prop) (v2_9 : Int32) (v1_9 : Int32) : Prop := ((8 ≤ v2_9 → (K9 v1_9)) ∧ (¬ 8 ≤ v2_9 → (wp_X4_isSymmetry fu (sI σ 5 0) v2_9 (fun r18 => ((r18 = 0 → (wp_X4_symmetries_J29 rec9 v2_9 v1_9 0)) ∧ (¬ r18 = 0 → (wp_X4_symmetries_J29 rec9 v2_9 v1_9 1)))))))
def wp_X4_symmetries_L9 (fu : Nat) (σ : SX) (K9 : Int32 → Prop) : Nat → Int32 → Int32 → Prop
  | 0, _, _ => False
  | nn + 1, v2_9, v1_9 => wp_X4_symmetries_B9 fu σ K9 (wp_X4_symmetries_L9 fu σ K9 nn) v2_9 v1_9
def wp_X4_symmetries (fu : Nat) (σ : SX) (P : Int32 → SX → Prop) : Prop := (wp_X4_symmetries_L9 fu σ (fun (v1_37 : Int32) => (P v1_37 (sI σ 5 0))) fu 0 0)
theorem k_X4_symmetries : KV RX4 yX4_symmetries cX4_symmetries 3 (some .int) 0 := ⟨q1168, q1169, q5, q1170, by decide +kernel⟩
set_option maxHeartbeats 4000000 in
set_option maxRecDepth 100000 in
theorem m_X4_symmetries (l : Launch) (dC : Nat → ClassId) (dI : Nat → Nat → Nat) (h : Nat → Nat) (cy : Nat → ClassId) (sz : Nat) (fu : Nat) (σ : SX) (P : Int32 → SX → Prop) (hF : wp_X4_symmetries fu σ P) : Met l yX4_symmetries (ws_ yX4_symmetries cX4_symmetries 3 (some .int)) ({ frames := 3, cells := 0, slots := 0, locals := 67 } : Room) (va_Pc [.ref (h 0)] (fun U => U.heap.size = sz ∧ va_P (dC, dI) classes (wC h cy σ) U.heap ∧ kwX dC dI cy U ∧ va_D (fun _ => True) (wC h cy σ))) (va_Qi (fun r u => P r u) (fun (u : SX) t => va_P (dC, dI) classes (wC h cy u) t.heap ∧ kwX dC dI cy t ∧ va_D (va_A (wC h cy σ) sz) (wC h cy u)) (va_A (wC h cy σ) sz)) 0 0 (va_A (wC h cy σ) sz) := by
  refine Met.ofCx (own := RX4) (by decide) rfl (Nat.le_of_ble_eq_true rfl) ?_
  intro p e s m below meth c hC hv ls hl
  obtain ⟨hx, hb, hr, hml, hown, hts, hlocks⟩ := hC
  have hl : lv_has ls 3 [(0, .ref (h 0))] := hl
  obtain ⟨hsz, hP, hK, hD0⟩ := hv
  subst hsz
  have hD := hD0.self (sz := s.heap.size)
  generalize hAe : va_A (wC h cy σ) s.heap.size = A at hD ⊢
  have hA : ∀ q : Nat, s.heap.size ≤ q → A q := fun q h => by rw [← hAe]; exact Or.inr h
  have hS : va_S A s.heap s.heap [] := va_S.rf
  clear hAe
  unfold wp_X4_symmetries at hF
  refine lv_aload_n hx hb dX4_symmetries_0 rfl (lv_at hl 0 rfl) ?_
  refine lv_iconst (v := 0) hx hb dX4_symmetries_1 (by decide) ?_
  refine va_put (D := (dC, dI)) (ci := 4) (v := .int 0) (ty := .int) (C := RX4) (T := TX4) (N := 19) hx hb hts in_X4 tyX4 tyX4_ok nmX4 hown hK.1 hP hD hS 0 rfl rfl 18 (by decide) (hts _ q968) (fun _ h9 => h9) rfl (by decide +kernel) rfl rfl (Nat.le_of_ble_eq_true rfl) dX4_symmetries_2 (fun H locs hP hD hS => ?_)
  have hP : va_P (dC, dI) classes (wC h cy (sI σ 5 0)) H := hP
  have hD : va_D A (wC h cy (sI σ 5 0)) := hD
  refine lv_iconst (v := 0) hx hb dX4_symmetries_5 (by decide) ?_
  refine lv_istore_n (lv' := [(1, .int 0), (0, .ref (h 0))]) hx hb dX4_symmetries_6 rfl hl (by decide) rfl (fun ls hl => ?_)
  refine lv_iconst (v := 0) hx hb dX4_symmetries_7 (by decide) ?_
  refine lv_istore_n (lv' := [(2, .int 0), (1, .int 0), (0, .ref (h 0))]) hx hb dX4_symmetries_8 rfl hl (by decide) rfl (fun ls hl => ?_)
  have hX9 : ∀ (v1_37 : Int32), (fun (v1_37 : Int32) => (P v1_37 (sI σ 5 0))) v1_37 → ∀ (H : Heap) (locs : List Loc), va_P (dC, dI) classes (wC h cy (sI σ 5 0)) H → va_D A (wC h cy (sI σ 5 0)) → va_S A s.heap H locs → ∀ (ls : Array Slot), lv_has ls 3 [(1, .int v1_37)] → W p l e ({ frames := 3, cells := 0, slots := 0, locals := 67 } : Room) s m ([.ref (h 0)] : List Value).toArray below meth c H locs 0 0 (MQ below (va_Qi (fun r u => P r u) (fun (u : SX) t => va_P (dC, dI) classes (wC h cy u) t.heap ∧ kwX dC dI cy t ∧ va_D A (wC h cy u)) A) ([.ref (h 0)] : List Value).toArray s 0 0 A) (F0 m 37 ls []) := by
    intro v1_37 hF H locs hP hD hS ls hl
    refine lv_iload_n hx hb dX4_symmetries_37 rfl (lv_at hl 0 rfl) ?_
    exact W.iret (v := v1_37) hx hb hr (fun t ht hW => ⟨⟨v1_37, sI σ 5 0, rfl, hF, by rw [ht]; exact hP, hK.warm hW, hD⟩, hS.F ht⟩) hS.2.2 dX4_symmetries_38
  have hL9 : ∀ (K9 : Int32 → Prop), (∀ (v1_37 : Int32), K9 v1_37 → ∀ (H : Heap) (locs : List Loc), va_P (dC, dI) classes (wC h cy (sI σ 5 0)) H → va_D A (wC h cy (sI σ 5 0)) → va_S A s.heap H locs → ∀ (ls : Array Slot), lv_has ls 3 [(1, .int v1_37)] → W p l e ({ frames := 3, cells := 0, slots := 0, locals := 67 } : Room) s m ([.ref (h 0)] : List Value).toArray below meth c H locs 0 0 (MQ below (va_Qi (fun r u => P r u) (fun (u : SX) t => va_P (dC, dI) classes (wC h cy u) t.heap ∧ kwX dC dI cy t ∧ va_D A (wC h cy u)) A) ([.ref (h 0)] : List Value).toArray s 0 0 A) (F0 m 37 ls [])) → ∀ (nn : Nat), ∀ (v2_9 : Int32), ∀ (v1_9 : Int32), wp_X4_symmetries_L9 fu σ K9 nn v2_9 v1_9 → ∀ (H : Heap) (locs : List Loc), va_P (dC, dI) classes (wC h cy (sI σ 5 0)) H → va_D A (wC h cy (sI σ 5 0)) → va_S A s.heap H locs → ∀ (ls : Array Slot), lv_has ls 3 [(2, .int v2_9), (1, .int v1_9), (0, .ref (h 0))] → W p l e ({ frames := 3, cells := 0, slots := 0, locals := 67 } : Room) s m ([.ref (h 0)] : List Value).toArray below meth c H locs 0 0 (MQ below (va_Qi (fun r u => P r u) (fun (u : SX) t => va_P (dC, dI) classes (wC h cy u) t.heap ∧ kwX dC dI cy t ∧ va_D A (wC h cy u)) A) ([.ref (h 0)] : List Value).toArray s 0 0 A) (F0 m 9 ls []) := by
    intro K9 hX9 nn
    induction nn with
    | zero =>
      intro v2_9 v1_9 hF
      exact hF.elim
    | succ nn ih =>
      intro v2_9 v1_9 hF H locs hP hD hS ls hl
      obtain ⟨rec9, hrec⟩ : ∃ z : Int32 → Int32 → Prop, z = wp_X4_symmetries_L9 fu σ K9 nn := ⟨_, rfl⟩
      have hF : wp_X4_symmetries_B9 fu σ K9 rec9 v2_9 v1_9 := by rw [hrec]; exact hF
      rw [← hrec] at ih
      clear hrec
      unfold wp_X4_symmetries_B9 at hF
      refine lv_iload_n hx hb dX4_symmetries_9 rfl (lv_at hl 0 rfl) ?_
      refine lv_bipush (v := 8) hx hb dX4_symmetries_10 (by decide) ?_
      refine lv_icmp_ge (tgt := 37) hx hb dX4_symmetries_12 (by decide) (fun cz => ?_) (fun cz => ?_)
      · have hF := hF.1 cz
        exact hX9 v1_9 hF _ _ hP hD hS _ (lv_sub hl [1] rfl)
      · have hF := hF.2 cz
        refine lv_iload_n hx hb dX4_symmetries_15 rfl (lv_at hl 1 rfl) ?_
        refine lv_aload_n hx hb dX4_symmetries_16 rfl (lv_at hl 2 rfl) ?_
        refine lv_iload_n hx hb dX4_symmetries_17 rfl (lv_at hl 0 rfl) ?_
        refine cpVi (q0 := 0) (As := [.int v2_9]) (rest := [.int v1_9]) ⟨hx, hb, hr, hml, hown, hts, hlocks⟩ hK hP rfl rfl (m_X4_isSymmetry l dC dI h cy fu (sI σ 5 0) v2_9 _ hF) k_X4_isSymmetry q1171 ⟨rfl, rfl⟩ ⟨Nat.le_of_ble_eq_true rfl, Nat.le_of_ble_eq_true rfl⟩ hl.1 rfl rfl (Nat.le_of_ble_eq_true rfl) dX4_symmetries_18 ⟨Nat.le_of_ble_eq_true rfl, Nat.le_of_ble_eq_true rfl⟩ (fun r18 hF => ?_)
        have hJ29 : ∀ (t1_29 : Int32), wp_X4_symmetries_J29 rec9 v2_9 v1_9 t1_29 → ∀ (H : Heap) (locs : List Loc), va_P (dC, dI) classes (wC h cy (sI σ 5 0)) H → va_D A (wC h cy (sI σ 5 0)) → va_S A s.heap H locs → ∀ (ls : Array Slot), lv_has ls 3 [(2, .int v2_9), (0, .ref (h 0))] → W p l e ({ frames := 3, cells := 0, slots := 0, locals := 67 } : Room) s m ([.ref (h 0)] : List Value).toArray below meth c H locs 0 0 (MQ below (va_Qi (fun r u => P r u) (fun (u : SX) t => va_P (dC, dI) classes (wC h cy u) t.heap ∧ kwX dC dI cy t ∧ va_D A (wC h cy u)) A) ([.ref (h 0)] : List Value).toArray s 0 0 A) (F0 m 29 ls [.int t1_29, .int v1_9]) := by
          intro t1_29 hF H locs hP hD hS ls hl
          unfold wp_X4_symmetries_J29 at hF
          refine lv_iadd hx hb dX4_symmetries_29 ?_
          refine lv_istore_n (lv' := [(1, .int (v1_9 + t1_29)), (2, .int v2_9), (0, .ref (h 0))]) hx hb dX4_symmetries_30 rfl hl (by decide) rfl (fun ls hl => ?_)
          refine lv_iinc (v := v2_9 + 1) (lv' := [(2, .int (v2_9 + 1)), (1, .int (v1_9 + t1_29)), (0, .ref (h 0))]) hx hb dX4_symmetries_31 hl (k := 1) rfl (by rfl) (by decide) rfl (fun ls hl => ?_)
          refine lv_goto (tgt := 9) hx hb dX4_symmetries_34 (by decide) ?_
          exact ih (v2_9 + 1) (v1_9 + t1_29) hF _ _ hP hD hS _ (lv_sub hl [0, 1, 2] rfl)
        refine lv_if_eq (tgt := 28) hx hb dX4_symmetries_21 (by decide) (fun cz => ?_) (fun cz => ?_)
        · have hF := hF.1 cz
          refine lv_iconst (v := 0) hx hb dX4_symmetries_28 (by decide) ?_
          exact hJ29 0 hF _ _ hP hD hS _ (lv_sub hl [0, 2] rfl)
        · have hF := hF.2 cz
          refine lv_iconst (v := 1) hx hb dX4_symmetries_24 (by decide) ?_
          refine lv_goto (tgt := 29) hx hb dX4_symmetries_25 (by decide) ?_
          exact hJ29 1 hF _ _ hP hD hS _ (lv_sub hl [0, 2] rfl)
  exact hL9 _ hX9 fu 0 0 hF _ _ hP hD hS _ (lv_sub hl [0, 1, 2] rfl)
theorem dX4_thrown_0 : decode cX4_thrown 0 = .ok (.aload_n 0, 1) := by decide +kernel
theorem dX4_thrown_1 : decode cX4_thrown 1 = .ok (.getfield 60, 3) := by decide +kernel
theorem dX4_thrown_4 : decode cX4_thrown 4 = .ok (.ireturn, 1) := by decide +kernel
def wp_X4_thrown (σ : SX) (P : Int32 → Prop) : Prop := (P (σ.1 5))
theorem k_X4_thrown : KV RX4 yX4_thrown cX4_thrown 1 (some .int) 0 := ⟨q1010, q1011, q5, q1012, by decide +kernel⟩
set_option maxHeartbeats 4000000 in
set_option maxRecDepth 100000 in
theorem m_X4_thrown (l : Launch) (dC : Nat → ClassId) (dI : Nat → Nat → Nat) (h : Nat → Nat) (cy : Nat → ClassId) (σ : SX) (P : Int32 → Prop) (hF : wp_X4_thrown σ P) : Met l yX4_thrown (ws_ yX4_thrown cX4_thrown 1 (some .int)) ({ frames := 0, cells := 0, slots := 0, locals := 0 } : Room) (va_Pc [.ref (h 0)] (fun U => va_P (dC, dI) classes (wC h cy σ) U.heap ∧ kwX dC dI cy U)) (vp_Si P) 0 0 (fun _ => False) := by
  refine Met.ofCx (own := RX4) (by decide) rfl (Nat.le_of_ble_eq_true rfl) ?_
  intro p e s m below meth c hC hv ls hl
  obtain ⟨hx, hb, hr, hml, hown, hts, hlocks⟩ := hC
  have hl : lv_has ls 1 [(0, .ref (h 0))] := hl
  obtain ⟨hP, hK⟩ := hv
  unfold wp_X4_thrown at hF
  refine lv_aload_n hx hb dX4_thrown_0 rfl (lv_at hl 0 rfl) ?_
  refine va_get (D := (dC, dI)) (ci := 4) (v := .int (σ.1 5)) (C := RX4) (T := TX4) (N := 19) hx hb hts in_X4 hown hK.1 hP 0 rfl rfl 18 (by decide) (hts _ q968) (fun _ h9 => h9) rfl dX4_thrown_1 ?_
  exact W.iret (v := σ.1 5) hx hb hr (fun t ht hW => ⟨σ.1 5, rfl, hF, ht⟩) (fun q hq => absurd hq List.not_mem_nil) dX4_thrown_4
theorem dJ6_numberOfTrailingZeros_0f7a4_0 : decode cJ6_numberOfTrailingZeros_0f7a4 0 = .ok (.iload_n 0, 1) := by decide +kernel
theorem dJ6_numberOfTrailingZeros_0f7a4_1 : decode cJ6_numberOfTrailingZeros_0f7a4 1 = .ok (.iconst (-1), 1) := by decide +kernel
theorem dJ6_numberOfTrailingZeros_0f7a4_2 : decode cJ6_numberOfTrailingZeros_0f7a4 2 = .ok (.ixor, 1) := by decide +kernel
theorem dJ6_numberOfTrailingZeros_0f7a4_3 : decode cJ6_numberOfTrailingZeros_0f7a4 3 = .ok (.iload_n 0, 1) := by decide +kernel
theorem dJ6_numberOfTrailingZeros_0f7a4_4 : decode cJ6_numberOfTrailingZeros_0f7a4 4 = .ok (.iconst 1, 1) := by decide +kernel
theorem dJ6_numberOfTrailingZeros_0f7a4_5 : decode cJ6_numberOfTrailingZeros_0f7a4 5 = .ok (.isub, 1) := by decide +kernel
theorem dJ6_numberOfTrailingZeros_0f7a4_6 : decode cJ6_numberOfTrailingZeros_0f7a4 6 = .ok (.iand, 1) := by decide +kernel
theorem dJ6_numberOfTrailingZeros_0f7a4_7 : decode cJ6_numberOfTrailingZeros_0f7a4 7 = .ok (.istore_n 0, 1) := by decide +kernel
theorem dJ6_numberOfTrailingZeros_0f7a4_8 : decode cJ6_numberOfTrailingZeros_0f7a4 8 = .ok (.iload_n 0, 1) := by decide +kernel
theorem dJ6_numberOfTrailingZeros_0f7a4_9 : decode cJ6_numberOfTrailingZeros_0f7a4 9 = .ok (.ifCond .gt 8, 3) := by decide +kernel
theorem dJ6_numberOfTrailingZeros_0f7a4_12 : decode cJ6_numberOfTrailingZeros_0f7a4 12 = .ok (.iload_n 0, 1) := by decide +kernel
theorem dJ6_numberOfTrailingZeros_0f7a4_13 : decode cJ6_numberOfTrailingZeros_0f7a4 13 = .ok (.bipush 32, 2) := by decide +kernel
theorem dJ6_numberOfTrailingZeros_0f7a4_15 : decode cJ6_numberOfTrailingZeros_0f7a4 15 = .ok (.iand, 1) := by decide +kernel
theorem dJ6_numberOfTrailingZeros_0f7a4_16 : decode cJ6_numberOfTrailingZeros_0f7a4 16 = .ok (.ireturn, 1) := by decide +kernel
theorem dJ6_numberOfTrailingZeros_0f7a4_17 : decode cJ6_numberOfTrailingZeros_0f7a4 17 = .ok (.iconst 1, 1) := by decide +kernel
theorem dJ6_numberOfTrailingZeros_0f7a4_18 : decode cJ6_numberOfTrailingZeros_0f7a4 18 = .ok (.istore_n 1, 1) := by decide +kernel
theorem dJ6_numberOfTrailingZeros_0f7a4_19 : decode cJ6_numberOfTrailingZeros_0f7a4 19 = .ok (.iload_n 0, 1) := by decide +kernel
theorem dJ6_numberOfTrailingZeros_0f7a4_20 : decode cJ6_numberOfTrailingZeros_0f7a4 20 = .ok (.ldc_w 264, 3) := by decide +kernel
theorem dJ6_numberOfTrailingZeros_0f7a4_23 : decode cJ6_numberOfTrailingZeros_0f7a4 23 = .ok (.if_icmp .le 11, 3) := by decide +kernel
theorem dJ6_numberOfTrailingZeros_0f7a4_26 : decode cJ6_numberOfTrailingZeros_0f7a4 26 = .ok (.iinc 1 16, 3) := by decide +kernel
theorem dJ6_numberOfTrailingZeros_0f7a4_29 : decode cJ6_numberOfTrailingZeros_0f7a4 29 = .ok (.iload_n 0, 1) := by decide +kernel
theorem dJ6_numberOfTrailingZeros_0f7a4_30 : decode cJ6_numberOfTrailingZeros_0f7a4 30 = .ok (.bipush 16, 2) := by decide +kernel
theorem dJ6_numberOfTrailingZeros_0f7a4_32 : decode cJ6_numberOfTrailingZeros_0f7a4 32 = .ok (.iushr, 1) := by decide +kernel
theorem dJ6_numberOfTrailingZeros_0f7a4_33 : decode cJ6_numberOfTrailingZeros_0f7a4 33 = .ok (.istore_n 0, 1) := by decide +kernel
theorem dJ6_numberOfTrailingZeros_0f7a4_34 : decode cJ6_numberOfTrailingZeros_0f7a4 34 = .ok (.iload_n 0, 1) := by decide +kernel
theorem dJ6_numberOfTrailingZeros_0f7a4_35 : decode cJ6_numberOfTrailingZeros_0f7a4 35 = .ok (.sipush 256, 3) := by decide +kernel
theorem dJ6_numberOfTrailingZeros_0f7a4_38 : decode cJ6_numberOfTrailingZeros_0f7a4 38 = .ok (.if_icmp .le 11, 3) := by decide +kernel
theorem dJ6_numberOfTrailingZeros_0f7a4_41 : decode cJ6_numberOfTrailingZeros_0f7a4 41 = .ok (.iinc 1 8, 3) := by decide +kernel
theorem dJ6_numberOfTrailingZeros_0f7a4_44 : decode cJ6_numberOfTrailingZeros_0f7a4 44 = .ok (.iload_n 0, 1) := by decide +kernel
theorem dJ6_numberOfTrailingZeros_0f7a4_45 : decode cJ6_numberOfTrailingZeros_0f7a4 45 = .ok (.bipush 8, 2) := by decide +kernel
theorem dJ6_numberOfTrailingZeros_0f7a4_47 : decode cJ6_numberOfTrailingZeros_0f7a4 47 = .ok (.iushr, 1) := by decide +kernel
theorem dJ6_numberOfTrailingZeros_0f7a4_48 : decode cJ6_numberOfTrailingZeros_0f7a4 48 = .ok (.istore_n 0, 1) := by decide +kernel
theorem dJ6_numberOfTrailingZeros_0f7a4_49 : decode cJ6_numberOfTrailingZeros_0f7a4 49 = .ok (.iload_n 0, 1) := by decide +kernel
theorem dJ6_numberOfTrailingZeros_0f7a4_50 : decode cJ6_numberOfTrailingZeros_0f7a4 50 = .ok (.bipush 16, 2) := by decide +kernel
theorem dJ6_numberOfTrailingZeros_0f7a4_52 : decode cJ6_numberOfTrailingZeros_0f7a4 52 = .ok (.if_icmp .le 10, 3) := by decide +kernel
theorem dJ6_numberOfTrailingZeros_0f7a4_55 : decode cJ6_numberOfTrailingZeros_0f7a4 55 = .ok (.iinc 1 4, 3) := by decide +kernel
theorem dJ6_numberOfTrailingZeros_0f7a4_58 : decode cJ6_numberOfTrailingZeros_0f7a4 58 = .ok (.iload_n 0, 1) := by decide +kernel
theorem dJ6_numberOfTrailingZeros_0f7a4_59 : decode cJ6_numberOfTrailingZeros_0f7a4 59 = .ok (.iconst 4, 1) := by decide +kernel
theorem dJ6_numberOfTrailingZeros_0f7a4_60 : decode cJ6_numberOfTrailingZeros_0f7a4 60 = .ok (.iushr, 1) := by decide +kernel
theorem dJ6_numberOfTrailingZeros_0f7a4_61 : decode cJ6_numberOfTrailingZeros_0f7a4 61 = .ok (.istore_n 0, 1) := by decide +kernel
theorem dJ6_numberOfTrailingZeros_0f7a4_62 : decode cJ6_numberOfTrailingZeros_0f7a4 62 = .ok (.iload_n 0, 1) := by decide +kernel
theorem dJ6_numberOfTrailingZeros_0f7a4_63 : decode cJ6_numberOfTrailingZeros_0f7a4 63 = .ok (.iconst 4, 1) := by decide +kernel
theorem dJ6_numberOfTrailingZeros_0f7a4_64 : decode cJ6_numberOfTrailingZeros_0f7a4 64 = .ok (.if_icmp .le 10, 3) := by decide +kernel
theorem dJ6_numberOfTrailingZeros_0f7a4_67 : decode cJ6_numberOfTrailingZeros_0f7a4 67 = .ok (.iinc 1 2, 3) := by decide +kernel
theorem dJ6_numberOfTrailingZeros_0f7a4_70 : decode cJ6_numberOfTrailingZeros_0f7a4 70 = .ok (.iload_n 0, 1) := by decide +kernel
theorem dJ6_numberOfTrailingZeros_0f7a4_71 : decode cJ6_numberOfTrailingZeros_0f7a4 71 = .ok (.iconst 2, 1) := by decide +kernel
theorem dJ6_numberOfTrailingZeros_0f7a4_72 : decode cJ6_numberOfTrailingZeros_0f7a4 72 = .ok (.iushr, 1) := by decide +kernel
theorem dJ6_numberOfTrailingZeros_0f7a4_73 : decode cJ6_numberOfTrailingZeros_0f7a4 73 = .ok (.istore_n 0, 1) := by decide +kernel
theorem dJ6_numberOfTrailingZeros_0f7a4_74 : decode cJ6_numberOfTrailingZeros_0f7a4 74 = .ok (.iload_n 1, 1) := by decide +kernel
theorem dJ6_numberOfTrailingZeros_0f7a4_75 : decode cJ6_numberOfTrailingZeros_0f7a4 75 = .ok (.iload_n 0, 1) := by decide +kernel
theorem dJ6_numberOfTrailingZeros_0f7a4_76 : decode cJ6_numberOfTrailingZeros_0f7a4 76 = .ok (.iconst 1, 1) := by decide +kernel
theorem dJ6_numberOfTrailingZeros_0f7a4_77 : decode cJ6_numberOfTrailingZeros_0f7a4 77 = .ok (.iushr, 1) := by decide +kernel
theorem dJ6_numberOfTrailingZeros_0f7a4_78 : decode cJ6_numberOfTrailingZeros_0f7a4 78 = .ok (.iadd, 1) := by decide +kernel
theorem dJ6_numberOfTrailingZeros_0f7a4_79 : decode cJ6_numberOfTrailingZeros_0f7a4 79 = .ok (.ireturn, 1) := by decide +kernel
def wp_J6_numberOfTrailingZeros_0f7a4_J62 (P : Int32 → Prop) (v1_62 : Int32) (v0_62 : Int32) : Prop := ((v0_62 ≤ 4 → (P (v1_62 + ((v0_62.toUInt32 >>> ((1 : Int32).toUInt32 &&& Int32.toUInt32 31)).toInt32)))) ∧ (¬ v0_62 ≤ 4 → (P ((v1_62 + 2) + ((((v0_62.toUInt32 >>> ((2 : Int32).toUInt32 &&& Int32.toUInt32 31)).toInt32).toUInt32 >>> ((1 : Int32).toUInt32 &&& Int32.toUInt32 31)).toInt32)))))
def wp_J6_numberOfTrailingZeros_0f7a4_J49 (P : Int32 → Prop) (v1_49 : Int32) (v0_49 : Int32) : Prop := ((v0_49 ≤ 16 → (wp_J6_numberOfTrailingZeros_0f7a4_J62 P v1_49 v0_49)) ∧ (¬ v0_49 ≤ 16 → (wp_J6_numberOfTrailingZeros_0f7a4_J62 P (v1_49 + 4) ((v0_49.toUInt32 >>> ((4 : Int32).toUInt32 &&& Int32.toUInt32 31)).toInt32))))
def wp_J6_numberOfTrailingZeros_0f7a4_J34 (P : Int32 → Prop) (v1_34 : Int32) (v0_34 : Int32) : Prop := ((v0_34 ≤ 256 → (wp_J6_numberOfTrailingZeros_0f7a4_J49 P v1_34 v0_34)) ∧ (¬ v0_34 ≤ 256 → (wp_J6_numberOfTrailingZeros_0f7a4_J49 P (v1_34 + 8) ((v0_34.toUInt32 >>> ((8 : Int32).toUInt32 &&& Int32.toUInt32 31)).toInt32))))
def wp_J6_numberOfTrailingZeros_0f7a4 (x0 : Int32) (P : Int32 → Prop) : Prop := ((0 < ((x0 ^^^ (-1)) &&& (x0 - 1)) → ((((x0 ^^^ (-1)) &&& (x0 - 1)) ≤ 65536 → (wp_J6_numberOfTrailingZeros_0f7a4_J34 P 1 ((x0 ^^^ (-1)) &&& (x0 - 1)))) ∧ (¬ ((x0 ^^^ (-1)) &&& (x0 - 1)) ≤ 65536 → (wp_J6_numberOfTrailingZeros_0f7a4_J34 P (1 + 16) ((((x0 ^^^ (-1)) &&& (x0 - 1)).toUInt32 >>> ((16 : Int32).toUInt32 &&& Int32.toUInt32 31)).toInt32))))) ∧ (¬ 0 < ((x0 ^^^ (-1)) &&& (x0 - 1)) → (P (((x0 ^^^ (-1)) &&& (x0 - 1)) &&& 32))))
theorem k_J6_numberOfTrailingZeros_0f7a4 : KS yJ6_numberOfTrailingZeros_0f7a4 cJ6_numberOfTrailingZeros_0f7a4 2 (some .int) 1 := ⟨q1729, q15, q1730, by decide +kernel⟩
set_option maxHeartbeats 4000000 in
set_option maxRecDepth 100000 in
theorem m_J6_numberOfTrailingZeros_0f7a4 (l : Launch) (x0 : Int32) (P : Int32 → Prop) (hF : wp_J6_numberOfTrailingZeros_0f7a4 x0 P) : Met l yJ6_numberOfTrailingZeros_0f7a4 (ws_ yJ6_numberOfTrailingZeros_0f7a4 cJ6_numberOfTrailingZeros_0f7a4 2 (some .int)) ({ frames := 0, cells := 0, slots := 0, locals := 0 } : Room) (va_Pc [.int x0] (fun _ => True)) (vp_Si P) 0 0 (fun _ => False) := by
  refine Met.ofCx (own := RJ6) (by decide) rfl (Nat.le_of_ble_eq_true rfl) ?_
  intro p e s m below meth c hC hv ls hl
  obtain ⟨hx, hb, hr, hml, hown, hts, hlocks⟩ := hC
  have hl : lv_has ls 2 [(0, .int x0)] := hl
  unfold wp_J6_numberOfTrailingZeros_0f7a4 at hF
  refine lv_iload_n hx hb dJ6_numberOfTrailingZeros_0f7a4_0 rfl (lv_at hl 0 rfl) ?_
  refine lv_iconst (v := (-1)) hx hb dJ6_numberOfTrailingZeros_0f7a4_1 (by decide) ?_
  refine lv_ixor hx hb dJ6_numberOfTrailingZeros_0f7a4_2 ?_
  refine lv_iload_n hx hb dJ6_numberOfTrailingZeros_0f7a4_3 rfl (lv_at hl 0 rfl) ?_
  refine lv_iconst (v := 1) hx hb dJ6_numberOfTrailingZeros_0f7a4_4 (by decide) ?_
  refine lv_isub hx hb dJ6_numberOfTrailingZeros_0f7a4_5 ?_
  refine lv_iand hx hb dJ6_numberOfTrailingZeros_0f7a4_6 ?_
  refine lv_istore_n (lv' := [(0, .int ((x0 ^^^ (-1)) &&& (x0 - 1)))]) hx hb dJ6_numberOfTrailingZeros_0f7a4_7 rfl hl (by decide) rfl (fun ls hl => ?_)
  refine lv_iload_n hx hb dJ6_numberOfTrailingZeros_0f7a4_8 rfl (lv_at hl 0 rfl) ?_
  refine lv_if_gt (tgt := 17) hx hb dJ6_numberOfTrailingZeros_0f7a4_9 (by decide) (fun cz => ?_) (fun cz => ?_)
  · have hF := hF.1 cz
    refine lv_iconst (v := 1) hx hb dJ6_numberOfTrailingZeros_0f7a4_17 (by decide) ?_
    refine lv_istore_n (lv' := [(1, .int 1), (0, .int ((x0 ^^^ (-1)) &&& (x0 - 1)))]) hx hb dJ6_numberOfTrailingZeros_0f7a4_18 rfl hl (by decide) rfl (fun ls hl => ?_)
    refine lv_iload_n hx hb dJ6_numberOfTrailingZeros_0f7a4_19 rfl (lv_at hl 1 rfl) ?_
    refine lv_ldcw (v := 65536) hx hb hown (hts _ q1731) dJ6_numberOfTrailingZeros_0f7a4_20 ?_
    have hJ34 : ∀ (v1_34 : Int32), ∀ (v0_34 : Int32), wp_J6_numberOfTrailingZeros_0f7a4_J34 P v1_34 v0_34 → ∀ (ls : Array Slot), lv_has ls 2 [(1, .int v1_34), (0, .int v0_34)] → W p l e ({ frames := 0, cells := 0, slots := 0, locals := 0 } : Room) s m ([.int x0] : List Value).toArray below meth c s.heap [] 0 0 (MQ below (vp_Si P) ([.int x0] : List Value).toArray s 0 0 (fun _ => False)) (F0 m 34 ls []) := by
      intro v1_34 v0_34 hF ls hl
      unfold wp_J6_numberOfTrailingZeros_0f7a4_J34 at hF
      refine lv_iload_n hx hb dJ6_numberOfTrailingZeros_0f7a4_34 rfl (lv_at hl 1 rfl) ?_
      refine lv_sipush (v := 256) hx hb dJ6_numberOfTrailingZeros_0f7a4_35 (by decide) ?_
      have hJ49 : ∀ (v1_49 : Int32), ∀ (v0_49 : Int32), wp_J6_numberOfTrailingZeros_0f7a4_J49 P v1_49 v0_49 → ∀ (ls : Array Slot), lv_has ls 2 [(1, .int v1_49), (0, .int v0_49)] → W p l e ({ frames := 0, cells := 0, slots := 0, locals := 0 } : Room) s m ([.int x0] : List Value).toArray below meth c s.heap [] 0 0 (MQ below (vp_Si P) ([.int x0] : List Value).toArray s 0 0 (fun _ => False)) (F0 m 49 ls []) := by
        intro v1_49 v0_49 hF ls hl
        unfold wp_J6_numberOfTrailingZeros_0f7a4_J49 at hF
        refine lv_iload_n hx hb dJ6_numberOfTrailingZeros_0f7a4_49 rfl (lv_at hl 1 rfl) ?_
        refine lv_bipush (v := 16) hx hb dJ6_numberOfTrailingZeros_0f7a4_50 (by decide) ?_
        have hJ62 : ∀ (v1_62 : Int32), ∀ (v0_62 : Int32), wp_J6_numberOfTrailingZeros_0f7a4_J62 P v1_62 v0_62 → ∀ (ls : Array Slot), lv_has ls 2 [(1, .int v1_62), (0, .int v0_62)] → W p l e ({ frames := 0, cells := 0, slots := 0, locals := 0 } : Room) s m ([.int x0] : List Value).toArray below meth c s.heap [] 0 0 (MQ below (vp_Si P) ([.int x0] : List Value).toArray s 0 0 (fun _ => False)) (F0 m 62 ls []) := by
          intro v1_62 v0_62 hF ls hl
          unfold wp_J6_numberOfTrailingZeros_0f7a4_J62 at hF
          refine lv_iload_n hx hb dJ6_numberOfTrailingZeros_0f7a4_62 rfl (lv_at hl 1 rfl) ?_
          refine lv_iconst (v := 4) hx hb dJ6_numberOfTrailingZeros_0f7a4_63 (by decide) ?_
          refine lv_icmp_le (tgt := 74) hx hb dJ6_numberOfTrailingZeros_0f7a4_64 (by decide) (fun cz => ?_) (fun cz => ?_)
          · have hF := hF.1 cz
            refine lv_iload_n hx hb dJ6_numberOfTrailingZeros_0f7a4_74 rfl (lv_at hl 0 rfl) ?_
            refine lv_iload_n hx hb dJ6_numberOfTrailingZeros_0f7a4_75 rfl (lv_at hl 1 rfl) ?_
            refine lv_iconst (v := 1) hx hb dJ6_numberOfTrailingZeros_0f7a4_76 (by decide) ?_
            refine lv_iushr hx hb dJ6_numberOfTrailingZeros_0f7a4_77 rfl ?_
            refine lv_iadd hx hb dJ6_numberOfTrailingZeros_0f7a4_78 ?_
            exact W.iret (v := v1_62 + ((v0_62.toUInt32 >>> ((1 : Int32).toUInt32 &&& Int32.toUInt32 31)).toInt32)) hx hb hr (fun t ht hW => ⟨v1_62 + ((v0_62.toUInt32 >>> ((1 : Int32).toUInt32 &&& Int32.toUInt32 31)).toInt32), rfl, hF, ht⟩) (fun q hq => absurd hq List.not_mem_nil) dJ6_numberOfTrailingZeros_0f7a4_79
          · have hF := hF.2 cz
            refine lv_iinc (v := v1_62 + 2) (lv' := [(1, .int (v1_62 + 2)), (0, .int v0_62)]) hx hb dJ6_numberOfTrailingZeros_0f7a4_67 hl (k := 0) rfl (by rfl) (by decide) rfl (fun ls hl => ?_)
            refine lv_iload_n hx hb dJ6_numberOfTrailingZeros_0f7a4_70 rfl (lv_at hl 1 rfl) ?_
            refine lv_iconst (v := 2) hx hb dJ6_numberOfTrailingZeros_0f7a4_71 (by decide) ?_
            refine lv_iushr hx hb dJ6_numberOfTrailingZeros_0f7a4_72 rfl ?_
            refine lv_istore_n (lv' := [(0, .int ((v0_62.toUInt32 >>> ((2 : Int32).toUInt32 &&& Int32.toUInt32 31)).toInt32)), (1, .int (v1_62 + 2))]) hx hb dJ6_numberOfTrailingZeros_0f7a4_73 rfl hl (by decide) rfl (fun ls hl => ?_)
            refine lv_iload_n hx hb dJ6_numberOfTrailingZeros_0f7a4_74 rfl (lv_at hl 1 rfl) ?_
            refine lv_iload_n hx hb dJ6_numberOfTrailingZeros_0f7a4_75 rfl (lv_at hl 0 rfl) ?_
            refine lv_iconst (v := 1) hx hb dJ6_numberOfTrailingZeros_0f7a4_76 (by decide) ?_
            refine lv_iushr hx hb dJ6_numberOfTrailingZeros_0f7a4_77 rfl ?_
            refine lv_iadd hx hb dJ6_numberOfTrailingZeros_0f7a4_78 ?_
            exact W.iret (v := (v1_62 + 2) + ((((v0_62.toUInt32 >>> ((2 : Int32).toUInt32 &&& Int32.toUInt32 31)).toInt32).toUInt32 >>> ((1 : Int32).toUInt32 &&& Int32.toUInt32 31)).toInt32)) hx hb hr (fun t ht hW => ⟨(v1_62 + 2) + ((((v0_62.toUInt32 >>> ((2 : Int32).toUInt32 &&& Int32.toUInt32 31)).toInt32).toUInt32 >>> ((1 : Int32).toUInt32 &&& Int32.toUInt32 31)).toInt32), rfl, hF, ht⟩) (fun q hq => absurd hq List.not_mem_nil) dJ6_numberOfTrailingZeros_0f7a4_79
        refine lv_icmp_le (tgt := 62) hx hb dJ6_numberOfTrailingZeros_0f7a4_52 (by decide) (fun cz => ?_) (fun cz => ?_)
        · have hF := hF.1 cz
          exact hJ62 v1_49 v0_49 hF _ (lv_sub hl [0, 1] rfl)
        · have hF := hF.2 cz
          refine lv_iinc (v := v1_49 + 4) (lv' := [(1, .int (v1_49 + 4)), (0, .int v0_49)]) hx hb dJ6_numberOfTrailingZeros_0f7a4_55 hl (k := 0) rfl (by rfl) (by decide) rfl (fun ls hl => ?_)
          refine lv_iload_n hx hb dJ6_numberOfTrailingZeros_0f7a4_58 rfl (lv_at hl 1 rfl) ?_
          refine lv_iconst (v := 4) hx hb dJ6_numberOfTrailingZeros_0f7a4_59 (by decide) ?_
          refine lv_iushr hx hb dJ6_numberOfTrailingZeros_0f7a4_60 rfl ?_
          refine lv_istore_n (lv' := [(0, .int ((v0_49.toUInt32 >>> ((4 : Int32).toUInt32 &&& Int32.toUInt32 31)).toInt32)), (1, .int (v1_49 + 4))]) hx hb dJ6_numberOfTrailingZeros_0f7a4_61 rfl hl (by decide) rfl (fun ls hl => ?_)
          exact hJ62 (v1_49 + 4) ((v0_49.toUInt32 >>> ((4 : Int32).toUInt32 &&& Int32.toUInt32 31)).toInt32) hF _ (lv_sub hl [1, 0] rfl)
      refine lv_icmp_le (tgt := 49) hx hb dJ6_numberOfTrailingZeros_0f7a4_38 (by decide) (fun cz => ?_) (fun cz => ?_)
      · have hF := hF.1 cz
        exact hJ49 v1_34 v0_34 hF _ (lv_sub hl [0, 1] rfl)
      · have hF := hF.2 cz
        refine lv_iinc (v := v1_34 + 8) (lv' := [(1, .int (v1_34 + 8)), (0, .int v0_34)]) hx hb dJ6_numberOfTrailingZeros_0f7a4_41 hl (k := 0) rfl (by rfl) (by decide) rfl (fun ls hl => ?_)
        refine lv_iload_n hx hb dJ6_numberOfTrailingZeros_0f7a4_44 rfl (lv_at hl 1 rfl) ?_
        refine lv_bipush (v := 8) hx hb dJ6_numberOfTrailingZeros_0f7a4_45 (by decide) ?_
        refine lv_iushr hx hb dJ6_numberOfTrailingZeros_0f7a4_47 rfl ?_
        refine lv_istore_n (lv' := [(0, .int ((v0_34.toUInt32 >>> ((8 : Int32).toUInt32 &&& Int32.toUInt32 31)).toInt32)), (1, .int (v1_34 + 8))]) hx hb dJ6_numberOfTrailingZeros_0f7a4_48 rfl hl (by decide) rfl (fun ls hl => ?_)
        exact hJ49 (v1_34 + 8) ((v0_34.toUInt32 >>> ((8 : Int32).toUInt32 &&& Int32.toUInt32 31)).toInt32) hF _ (lv_sub hl [1, 0] rfl)
    refine lv_icmp_le (tgt := 34) hx hb dJ6_numberOfTrailingZeros_0f7a4_23 (by decide) (fun cz => ?_) (fun cz => ?_)
    · have hF := hF.1 cz
      exact hJ34 1 ((x0 ^^^ (-1)) &&& (x0 - 1)) hF _ (lv_sub hl [0, 1] rfl)
    · have hF := hF.2 cz
      refine lv_iinc (v := 1 + 16) (lv' := [(1, .int (1 + 16)), (0, .int ((x0 ^^^ (-1)) &&& (x0 - 1)))]) hx hb dJ6_numberOfTrailingZeros_0f7a4_26 hl (k := 0) rfl (by rfl) (by decide) rfl (fun ls hl => ?_)
      refine lv_iload_n hx hb dJ6_numberOfTrailingZeros_0f7a4_29 rfl (lv_at hl 1 rfl) ?_
      refine lv_bipush (v := 16) hx hb dJ6_numberOfTrailingZeros_0f7a4_30 (by decide) ?_
      refine lv_iushr hx hb dJ6_numberOfTrailingZeros_0f7a4_32 rfl ?_
      refine lv_istore_n (lv' := [(0, .int ((((x0 ^^^ (-1)) &&& (x0 - 1)).toUInt32 >>> ((16 : Int32).toUInt32 &&& Int32.toUInt32 31)).toInt32)), (1, .int (1 + 16))]) hx hb dJ6_numberOfTrailingZeros_0f7a4_33 rfl hl (by decide) rfl (fun ls hl => ?_)
      exact hJ34 (1 + 16) ((((x0 ^^^ (-1)) &&& (x0 - 1)).toUInt32 >>> ((16 : Int32).toUInt32 &&& Int32.toUInt32 31)).toInt32) hF _ (lv_sub hl [1, 0] rfl)
  · have hF := hF.2 cz
    refine lv_iload_n hx hb dJ6_numberOfTrailingZeros_0f7a4_12 rfl (lv_at hl 0 rfl) ?_
    refine lv_bipush (v := 32) hx hb dJ6_numberOfTrailingZeros_0f7a4_13 (by decide) ?_
    refine lv_iand hx hb dJ6_numberOfTrailingZeros_0f7a4_15 ?_
    exact W.iret (v := ((x0 ^^^ (-1)) &&& (x0 - 1)) &&& 32) hx hb hr (fun t ht hW => ⟨((x0 ^^^ (-1)) &&& (x0 - 1)) &&& 32, rfl, hF, ht⟩) (fun q hq => absurd hq List.not_mem_nil) dJ6_numberOfTrailingZeros_0f7a4_16
theorem dX4_value_0 : decode cX4_value 0 = .ok (.iconst 0, 1) := by decide +kernel
theorem dX4_value_1 : decode cX4_value 1 = .ok (.istore_n 2, 1) := by decide +kernel
theorem dX4_value_2 : decode cX4_value 2 = .ok (.iconst 0, 1) := by decide +kernel
theorem dX4_value_3 : decode cX4_value 3 = .ok (.istore_n 3, 1) := by decide +kernel
theorem dX4_value_4 : decode cX4_value 4 = .ok (.iload_n 3, 1) := by decide +kernel
theorem dX4_value_5 : decode cX4_value 5 = .ok (.aload_n 0, 1) := by decide +kernel
theorem dX4_value_6 : decode cX4_value 6 = .ok (.getfield 71, 3) := by decide +kernel
theorem dX4_value_9 : decode cX4_value 9 = .ok (.if_icmp .ge 34, 3) := by decide +kernel
theorem dX4_value_12 : decode cX4_value 12 = .ok (.aload_n 0, 1) := by decide +kernel
theorem dX4_value_13 : decode cX4_value 13 = .ok (.iload_n 1, 1) := by decide +kernel
theorem dX4_value_14 : decode cX4_value 14 = .ok (.iload_n 3, 1) := by decide +kernel
theorem dX4_value_15 : decode cX4_value 15 = .ok (.invokevirtual 159, 3) := by decide +kernel
theorem dX4_value_18 : decode cX4_value 18 = .ok (.ifCond .eq 19, 3) := by decide +kernel
theorem dX4_value_21 : decode cX4_value 21 = .ok (.iload_n 2, 1) := by decide +kernel
theorem dX4_value_22 : decode cX4_value 22 = .ok (.iconst 1, 1) := by decide +kernel
theorem dX4_value_23 : decode cX4_value 23 = .ok (.aload_n 0, 1) := by decide +kernel
theorem dX4_value_24 : decode cX4_value 24 = .ok (.getfield 49, 3) := by decide +kernel
theorem dX4_value_27 : decode cX4_value 27 = .ok (.aload_n 0, 1) := by decide +kernel
theorem dX4_value_28 : decode cX4_value 28 = .ok (.iload_n 1, 1) := by decide +kernel
theorem dX4_value_29 : decode cX4_value 29 = .ok (.iload_n 3, 1) := by decide +kernel
theorem dX4_value_30 : decode cX4_value 30 = .ok (.invokevirtual 166, 3) := by decide +kernel
theorem dX4_value_33 : decode cX4_value 33 = .ok (.iaload, 1) := by decide +kernel
theorem dX4_value_34 : decode cX4_value 34 = .ok (.ishl, 1) := by decide +kernel
theorem dX4_value_35 : decode cX4_value 35 = .ok (.ior, 1) := by decide +kernel
theorem dX4_value_36 : decode cX4_value 36 = .ok (.istore_n 2, 1) := by decide +kernel
theorem dX4_value_37 : decode cX4_value 37 = .ok (.iinc 3 1, 3) := by decide +kernel
theorem dX4_value_40 : decode cX4_value 40 = .ok (.goto (-36), 3) := by decide +kernel
theorem dX4_value_43 : decode cX4_value 43 = .ok (.aload_n 0, 1) := by decide +kernel
theorem dX4_value_44 : decode cX4_value 44 = .ok (.getfield 49, 3) := by decide +kernel
theorem dX4_value_47 : decode cX4_value 47 = .ok (.iload_n 1, 1) := by decide +kernel
theorem dX4_value_48 : decode cX4_value 48 = .ok (.iload_n 2, 1) := by decide +kernel
theorem dX4_value_49 : decode cX4_value 49 = .ok (.iconst (-1), 1) := by decide +kernel
theorem dX4_value_50 : decode cX4_value 50 = .ok (.ixor, 1) := by decide +kernel
theorem dX4_value_51 : decode cX4_value 51 = .ok (.invokestatic 246, 3) := by decide +kernel
theorem dX4_value_54 : decode cX4_value 54 = .ok (.iastore, 1) := by decide +kernel
theorem dX4_value_55 : decode cX4_value 55 = .ok (.return_, 1) := by decide +kernel
def wp_X4_value_J37 (rec4 : Int32 → Int32 → Prop) (v3_4 : Int32) (v2_37 : Int32) : Prop := (rec4 (v3_4 + 1) v2_37)
def wp_X4_value_B4 (σ : SX) (x1 : Int32) (K4 : Int32 → Prop) (rec4 : Int32 → Int32 → Prop) (v3_4 : Int32) (v2_4 : Int32) : Prop := (((σ.1 1) ≤ v3_4 → (K4 v2_4)) ∧ (¬ (σ.1 1) ≤ v3_4 → (wp_X4_can σ x1 v3_4 (fun r15 => ((r15 = 0 → (wp_X4_value_J37 rec4 v3_4 v2_4)) ∧ (¬ r15 = 0 → (wp_X4_behind σ x1 v3_4 (fun r30 => (vp_in r30 8192 ∧ (wp_X4_value_J37 rec4 v3_4 (v2_4 ||| ((1 : Int32) <<< (((σ.2.1 7) r30.toNatClampNeg) &&& 31)))))))))))))
def wp_X4_value_L4 (σ : SX) (x1 : Int32) (K4 : Int32 → Prop) : Nat → Int32 → Int32 → Prop
  | 0, _, _ => False
  | nn + 1, v3_4, v2_4 => wp_X4_value_B4 σ x1 K4 (wp_X4_value_L4 σ x1 K4 nn) v3_4 v2_4
def wp_X4_value (fu : Nat) (σ : SX) (x1 : Int32) (P : SX → Prop) : Prop := (wp_X4_value_L4 σ x1 (fun (v2_43 : Int32) => (wp_J6_numberOfTrailingZeros_0f7a4 (v2_43 ^^^ (-1)) (fun r51 => (vp_in x1 8192 ∧ (P (sA σ 7 (upd (σ.2.1 7) x1.toNatClampNeg r51))))))) fu 0 0)
theorem k_X4_value : KV RX4 yX4_value cX4_value 4 none 1 := ⟨q1726, qs56, q5, q1727, by decide +kernel⟩
set_option maxHeartbeats 4000000 in
set_option maxRecDepth 100000 in
theorem m_X4_value (l : Launch) (dC : Nat → ClassId) (dI : Nat → Nat → Nat) (h : Nat → Nat) (cy : Nat → ClassId) (sz : Nat) (fu : Nat) (σ : SX) (x1 : Int32) (P : SX → Prop) (hF : wp_X4_value fu σ x1 P) : Met l yX4_value (ws_ yX4_value cX4_value 4 none) ({ frames := 2, cells := 0, slots := 0, locals := 43 } : Room) (va_Pc [.ref (h 0), .int x1] (fun U => U.heap.size = sz ∧ va_P (dC, dI) classes (wC h cy σ) U.heap ∧ kwX dC dI cy U ∧ va_D (fun _ => True) (wC h cy σ))) (va_Qv (fun u => P u) (fun (u : SX) t => va_P (dC, dI) classes (wC h cy u) t.heap ∧ kwX dC dI cy t ∧ va_D (va_A (wC h cy σ) sz) (wC h cy u)) (va_A (wC h cy σ) sz)) 0 0 (va_A (wC h cy σ) sz) := by
  refine Met.ofCx (own := RX4) (by decide) rfl (Nat.le_of_ble_eq_true rfl) ?_
  intro p e s m below meth c hC hv ls hl
  obtain ⟨hx, hb, hr, hml, hown, hts, hlocks⟩ := hC
  have hl : lv_has ls 4 [(0, .ref (h 0)), (1, .int x1)] := hl
  obtain ⟨hsz, hP, hK, hD0⟩ := hv
  subst hsz
  have hD := hD0.self (sz := s.heap.size)
  generalize hAe : va_A (wC h cy σ) s.heap.size = A at hD ⊢
  have hA : ∀ q : Nat, s.heap.size ≤ q → A q := fun q h => by rw [← hAe]; exact Or.inr h
  have hS : va_S A s.heap s.heap [] := va_S.rf
  clear hAe
  unfold wp_X4_value at hF
  refine lv_iconst (v := 0) hx hb dX4_value_0 (by decide) ?_
  refine lv_istore_n (lv' := [(2, .int 0), (0, .ref (h 0)), (1, .int x1)]) hx hb dX4_value_1 rfl hl (by decide) rfl (fun ls hl => ?_)
  refine lv_iconst (v := 0) hx hb dX4_value_2 (by decide) ?_
  refine lv_istore_n (lv' := [(3, .int 0), (2, .int 0), (0, .ref (h 0)), (1, .int x1)]) hx hb dX4_value_3 rfl hl (by decide) rfl (fun ls hl => ?_)
  have hX4 : ∀ (v2_43 : Int32), (fun (v2_43 : Int32) => (wp_J6_numberOfTrailingZeros_0f7a4 (v2_43 ^^^ (-1)) (fun r51 => (vp_in x1 8192 ∧ (P (sA σ 7 (upd (σ.2.1 7) x1.toNatClampNeg r51))))))) v2_43 → ∀ (H : Heap) (locs : List Loc), va_P (dC, dI) classes (wC h cy σ) H → va_D A (wC h cy σ) → va_S A s.heap H locs → ∀ (ls : Array Slot), lv_has ls 4 [(2, .int v2_43), (0, .ref (h 0)), (1, .int x1)] → W p l e ({ frames := 2, cells := 0, slots := 0, locals := 43 } : Room) s m ([.ref (h 0), .int x1] : List Value).toArray below meth c H locs 0 0 (MQ below (va_Qv (fun u => P u) (fun (u : SX) t => va_P (dC, dI) classes (wC h cy u) t.heap ∧ kwX dC dI cy t ∧ va_D A (wC h cy u)) A) ([.ref (h 0), .int x1] : List Value).toArray s 0 0 A) (F0 m 43 ls []) := by
    intro v2_43 hF H locs hP hD hS ls hl
    refine lv_aload_n hx hb dX4_value_43 rfl (lv_at hl 1 rfl) ?_
    refine va_get (D := (dC, dI)) (ci := 4) (v := .ref (h 9)) (C := RX4) (T := TX4) (N := 19) hx hb hts in_X4 hown hK.1 hP 0 rfl rfl 11 (by decide) (hts _ q961) (fun _ h9 => h9) rfl dX4_value_44 ?_
    refine lv_iload_n hx hb dX4_value_47 rfl (lv_at hl 2 rfl) ?_
    refine lv_iload_n hx hb dX4_value_48 rfl (lv_at hl 0 rfl) ?_
    refine lv_iconst (v := (-1)) hx hb dX4_value_49 (by decide) ?_
    refine lv_ixor hx hb dX4_value_50 ?_
    refine cpSi (As := [.int (v2_43 ^^^ (-1))]) (rest := [.int x1, .ref (h 9)]) ⟨hx, hb, hr, hml, hown, hts, hlocks⟩ (m_J6_numberOfTrailingZeros_0f7a4 l (v2_43 ^^^ (-1)) _ hF) k_J6_numberOfTrailingZeros_0f7a4 q1728 ⟨rfl, rfl⟩ ⟨Nat.le_of_ble_eq_true rfl, Nat.le_of_ble_eq_true rfl⟩ hl.1 rfl rfl (Nat.le_of_ble_eq_true rfl) dX4_value_51 ⟨Nat.le_of_ble_eq_true rfl, Nat.le_of_ble_eq_true rfl⟩ (fun r51 hF => ?_)
    have hI := hF.1
    have hF := hF.2
    refine va_iast hx hb hK.1 hP hD hS 9 0 rfl rfl hI dX4_value_54 (fun H locs hP hD hS => ?_)
    have hP : va_P (dC, dI) classes (wC h cy (sA σ 7 (upd (σ.2.1 7) x1.toNatClampNeg r51))) H := hP
    have hD : va_D A (wC h cy (sA σ 7 (upd (σ.2.1 7) x1.toNatClampNeg r51))) := hD
    exact W.vret hx hb hr (fun t ht hW => ⟨⟨sA σ 7 (upd (σ.2.1 7) x1.toNatClampNeg r51), rfl, hF, by rw [ht]; exact hP, hK.warm hW, hD⟩, hS.F ht⟩) hS.2.2 dX4_value_55
  have hL4 : ∀ (K4 : Int32 → Prop), (∀ (v2_43 : Int32), K4 v2_43 → ∀ (H : Heap) (locs : List Loc), va_P (dC, dI) classes (wC h cy σ) H → va_D A (wC h cy σ) → va_S A s.heap H locs → ∀ (ls : Array Slot), lv_has ls 4 [(2, .int v2_43), (0, .ref (h 0)), (1, .int x1)] → W p l e ({ frames := 2, cells := 0, slots := 0, locals := 43 } : Room) s m ([.ref (h 0), .int x1] : List Value).toArray below meth c H locs 0 0 (MQ below (va_Qv (fun u => P u) (fun (u : SX) t => va_P (dC, dI) classes (wC h cy u) t.heap ∧ kwX dC dI cy t ∧ va_D A (wC h cy u)) A) ([.ref (h 0), .int x1] : List Value).toArray s 0 0 A) (F0 m 43 ls [])) → ∀ (nn : Nat), ∀ (v3_4 : Int32), ∀ (v2_4 : Int32), wp_X4_value_L4 σ x1 K4 nn v3_4 v2_4 → ∀ (H : Heap) (locs : List Loc), va_P (dC, dI) classes (wC h cy σ) H → va_D A (wC h cy σ) → va_S A s.heap H locs → ∀ (ls : Array Slot), lv_has ls 4 [(3, .int v3_4), (2, .int v2_4), (0, .ref (h 0)), (1, .int x1)] → W p l e ({ frames := 2, cells := 0, slots := 0, locals := 43 } : Room) s m ([.ref (h 0), .int x1] : List Value).toArray below meth c H locs 0 0 (MQ below (va_Qv (fun u => P u) (fun (u : SX) t => va_P (dC, dI) classes (wC h cy u) t.heap ∧ kwX dC dI cy t ∧ va_D A (wC h cy u)) A) ([.ref (h 0), .int x1] : List Value).toArray s 0 0 A) (F0 m 4 ls []) := by
    intro K4 hX4 nn
    induction nn with
    | zero =>
      intro v3_4 v2_4 hF
      exact hF.elim
    | succ nn ih =>
      intro v3_4 v2_4 hF H locs hP hD hS ls hl
      obtain ⟨rec4, hrec⟩ : ∃ z : Int32 → Int32 → Prop, z = wp_X4_value_L4 σ x1 K4 nn := ⟨_, rfl⟩
      have hF : wp_X4_value_B4 σ x1 K4 rec4 v3_4 v2_4 := by rw [hrec]; exact hF
      rw [← hrec] at ih
      clear hrec
      unfold wp_X4_value_B4 at hF
      refine lv_iload_n hx hb dX4_value_4 rfl (lv_at hl 0 rfl) ?_
      refine lv_aload_n hx hb dX4_value_5 rfl (lv_at hl 2 rfl) ?_
      refine va_get (D := (dC, dI)) (ci := 4) (v := .int (σ.1 1)) (C := RX4) (T := TX4) (N := 19) hx hb hts in_X4 hown hK.1 hP 0 rfl rfl 14 (by decide) (hts _ q964) (fun _ h9 => h9) rfl dX4_value_6 ?_
      refine lv_icmp_ge (tgt := 43) hx hb dX4_value_9 (by decide) (fun cz => ?_) (fun cz => ?_)
      · have hF := hF.1 cz
        exact hX4 v2_4 hF _ _ hP hD hS _ (lv_sub hl [1, 2, 3] rfl)
      · have hF := hF.2 cz
        refine lv_aload_n hx hb dX4_value_12 rfl (lv_at hl 2 rfl) ?_
        refine lv_iload_n hx hb dX4_value_13 rfl (lv_at hl 3 rfl) ?_
        refine lv_iload_n hx hb dX4_value_14 rfl (lv_at hl 0 rfl) ?_
        refine cpVi (q0 := 0) (As := [.int x1, .int v3_4]) (rest := []) ⟨hx, hb, hr, hml, hown, hts, hlocks⟩ hK hP rfl rfl (m_X4_can l dC dI h cy σ x1 v3_4 _ hF) k_X4_can q1214 ⟨rfl, rfl⟩ ⟨Nat.le_of_ble_eq_true rfl, Nat.le_of_ble_eq_true rfl⟩ hl.1 rfl rfl (Nat.le_of_ble_eq_true rfl) dX4_value_15 ⟨Nat.le_of_ble_eq_true rfl, Nat.le_of_ble_eq_true rfl⟩ (fun r15 hF => ?_)
        have hJ37 : ∀ (v2_37 : Int32), wp_X4_value_J37 rec4 v3_4 v2_37 → ∀ (H : Heap) (locs : List Loc), va_P (dC, dI) classes (wC h cy σ) H → va_D A (wC h cy σ) → va_S A s.heap H locs → ∀ (ls : Array Slot), lv_has ls 4 [(3, .int v3_4), (2, .int v2_37), (0, .ref (h 0)), (1, .int x1)] → W p l e ({ frames := 2, cells := 0, slots := 0, locals := 43 } : Room) s m ([.ref (h 0), .int x1] : List Value).toArray below meth c H locs 0 0 (MQ below (va_Qv (fun u => P u) (fun (u : SX) t => va_P (dC, dI) classes (wC h cy u) t.heap ∧ kwX dC dI cy t ∧ va_D A (wC h cy u)) A) ([.ref (h 0), .int x1] : List Value).toArray s 0 0 A) (F0 m 37 ls []) := by
          intro v2_37 hF H locs hP hD hS ls hl
          unfold wp_X4_value_J37 at hF
          refine lv_iinc (v := v3_4 + 1) (lv' := [(3, .int (v3_4 + 1)), (2, .int v2_37), (0, .ref (h 0)), (1, .int x1)]) hx hb dX4_value_37 hl (k := 0) rfl (by rfl) (by decide) rfl (fun ls hl => ?_)
          refine lv_goto (tgt := 4) hx hb dX4_value_40 (by decide) ?_
          exact ih (v3_4 + 1) v2_37 hF _ _ hP hD hS _ (lv_sub hl [0, 1, 2, 3] rfl)
        refine lv_if_eq (tgt := 37) hx hb dX4_value_18 (by decide) (fun cz => ?_) (fun cz => ?_)
        · have hF := hF.1 cz
          exact hJ37 v2_4 hF _ _ hP hD hS _ (lv_sub hl [0, 1, 2, 3] rfl)
        · have hF := hF.2 cz
          refine lv_iload_n hx hb dX4_value_21 rfl (lv_at hl 1 rfl) ?_
          refine lv_iconst (v := 1) hx hb dX4_value_22 (by decide) ?_
          refine lv_aload_n hx hb dX4_value_23 rfl (lv_at hl 2 rfl) ?_
          refine va_get (D := (dC, dI)) (ci := 4) (v := .ref (h 9)) (C := RX4) (T := TX4) (N := 19) hx hb hts in_X4 hown hK.1 hP 0 rfl rfl 11 (by decide) (hts _ q961) (fun _ h9 => h9) rfl dX4_value_24 ?_
          refine lv_aload_n hx hb dX4_value_27 rfl (lv_at hl 2 rfl) ?_
          refine lv_iload_n hx hb dX4_value_28 rfl (lv_at hl 3 rfl) ?_
          refine lv_iload_n hx hb dX4_value_29 rfl (lv_at hl 0 rfl) ?_
          refine cpVi (q0 := 0) (As := [.int x1, .int v3_4]) (rest := [.ref (h 9), .int 1, .int v2_4]) ⟨hx, hb, hr, hml, hown, hts, hlocks⟩ hK hP rfl rfl (m_X4_behind l dC dI h cy σ x1 v3_4 _ hF) k_X4_behind q1230 ⟨rfl, rfl⟩ ⟨Nat.le_of_ble_eq_true rfl, Nat.le_of_ble_eq_true rfl⟩ hl.1 rfl rfl (Nat.le_of_ble_eq_true rfl) dX4_value_30 ⟨Nat.le_of_ble_eq_true rfl, Nat.le_of_ble_eq_true rfl⟩ (fun r30 hF => ?_)
          have hI := hF.1
          have hF := hF.2
          refine va_iald hx hb hK.1 hP 9 0 rfl rfl hI dX4_value_33 ?_
          refine lv_ishl hx hb dX4_value_34 ?_
          refine lv_ior hx hb dX4_value_35 ?_
          refine lv_istore_n (lv' := [(2, .int (v2_4 ||| ((1 : Int32) <<< (((σ.2.1 7) r30.toNatClampNeg) &&& 31)))), (3, .int v3_4), (0, .ref (h 0)), (1, .int x1)]) hx hb dX4_value_36 rfl hl (by decide) rfl (fun ls hl => ?_)
          exact hJ37 (v2_4 ||| ((1 : Int32) <<< (((σ.2.1 7) r30.toNatClampNeg) &&& 31))) hF _ _ hP hD hS _ (lv_sub hl [1, 0, 2, 3] rfl)
  exact hL4 _ hX4 fu 0 0 hF _ _ hP hD hS _ (lv_sub hl [0, 1, 2, 3] rfl)
theorem dX4_valueAll_0 : decode cX4_valueAll 0 = .ok (.iconst 0, 1) := by decide +kernel
theorem dX4_valueAll_1 : decode cX4_valueAll 1 = .ok (.istore_n 1, 1) := by decide +kernel
theorem dX4_valueAll_2 : decode cX4_valueAll 2 = .ok (.iload_n 1, 1) := by decide +kernel
theorem dX4_valueAll_3 : decode cX4_valueAll 3 = .ok (.aload_n 0, 1) := by decide +kernel
theorem dX4_valueAll_4 : decode cX4_valueAll 4 = .ok (.getfield 64, 3) := by decide +kernel
theorem dX4_valueAll_7 : decode cX4_valueAll 7 = .ok (.if_icmp .gt 40, 3) := by decide +kernel
theorem dX4_valueAll_10 : decode cX4_valueAll 10 = .ok (.iconst 0, 1) := by decide +kernel
theorem dX4_valueAll_11 : decode cX4_valueAll 11 = .ok (.istore_n 2, 1) := by decide +kernel
theorem dX4_valueAll_12 : decode cX4_valueAll 12 = .ok (.iload_n 2, 1) := by decide +kernel
theorem dX4_valueAll_13 : decode cX4_valueAll 13 = .ok (.iconst 1, 1) := by decide +kernel
theorem dX4_valueAll_14 : decode cX4_valueAll 14 = .ok (.aload_n 0, 1) := by decide +kernel
theorem dX4_valueAll_15 : decode cX4_valueAll 15 = .ok (.getfield 64, 3) := by decide +kernel
theorem dX4_valueAll_18 : decode cX4_valueAll 18 = .ok (.ishl, 1) := by decide +kernel
theorem dX4_valueAll_19 : decode cX4_valueAll 19 = .ok (.if_icmp .ge 22, 3) := by decide +kernel
theorem dX4_valueAll_22 : decode cX4_valueAll 22 = .ok (.iload_n 2, 1) := by decide +kernel
theorem dX4_valueAll_23 : decode cX4_valueAll 23 = .ok (.invokestatic 179, 3) := by decide +kernel
theorem dX4_valueAll_26 : decode cX4_valueAll 26 = .ok (.iload_n 1, 1) := by decide +kernel
theorem dX4_valueAll_27 : decode cX4_valueAll 27 = .ok (.if_icmp .ne 8, 3) := by decide +kernel
theorem dX4_valueAll_30 : decode cX4_valueAll 30 = .ok (.aload_n 0, 1) := by decide +kernel
theorem dX4_valueAll_31 : decode cX4_valueAll 31 = .ok (.iload_n 2, 1) := by decide +kernel
theorem dX4_valueAll_32 : decode cX4_valueAll 32 = .ok (.invokevirtual 249, 3) := by decide +kernel
theorem dX4_valueAll_35 : decode cX4_valueAll 35 = .ok (.iinc 2 1, 3) := by decide +kernel
theorem dX4_valueAll_38 : decode cX4_valueAll 38 = .ok (.goto (-26), 3) := by decide +kernel
theorem dX4_valueAll_41 : decode cX4_valueAll 41 = .ok (.iinc 1 1, 3) := by decide +kernel
theorem dX4_valueAll_44 : decode cX4_valueAll 44 = .ok (.goto (-42), 3) := by decide +kernel
theorem dX4_valueAll_47 : decode cX4_valueAll 47 = .ok (.return_, 1) := by decide +kernel
def wp_X4_valueAll_J35 (rec12 : Int32 → SX → Prop) (v2_12 : Int32) (s_35 : SX) : Prop := (rec12 (v2_12 + 1) s_35)
def wp_X4_valueAll_B12 (fu : Nat) (v1_2 : Int32) (K12 : SX → Prop) (rec12 : Int32 → SX → Prop) (v2_12 : Int32) (s_12 : SX) : Prop := ((((1 : Int32) <<< ((s_12.1 0) &&& 31)) ≤ v2_12 → (K12 s_12)) ∧ (¬ ((1 : Int32) <<< ((s_12.1 0) &&& 31)) ≤ v2_12 → (wp_J6_bitCount_0f7a4 v2_12 (fun r23 => ((¬ r23 = v1_2 → (wp_X4_valueAll_J35 rec12 v2_12 s_12)) ∧ (r23 = v1_2 → (wp_X4_value fu s_12 v2_12 (fun s32 => (wp_X4_valueAll_J35 rec12 v2_12 s32)))))))))
def wp_X4_valueAll_L12 (fu : Nat) (v1_2 : Int32) (K12 : SX → Prop) : Nat → Int32 → SX → Prop
  | 0, _, _ => False
  | nn + 1, v2_12, s_12 => wp_X4_valueAll_B12 fu v1_2 K12 (wp_X4_valueAll_L12 fu v1_2 K12 nn) v2_12 s_12
def wp_X4_valueAll_B2 (fu : Nat) (K2 : SX → Prop) (rec2 : Int32 → SX → Prop) (v1_2 : Int32) (s_2 : SX) : Prop := (((s_2.1 0) < v1_2 → (K2 s_2)) ∧ (¬ (s_2.1 0) < v1_2 → (wp_X4_valueAll_L12 fu v1_2 (fun (s_41 : SX) => (rec2 (v1_2 + 1) s_41)) fu 0 s_2)))
def wp_X4_valueAll_L2 (fu : Nat) (K2 : SX → Prop) : Nat → Int32 → SX → Prop
  | 0, _, _ => False
  | nn + 1, v1_2, s_2 => wp_X4_valueAll_B2 fu K2 (wp_X4_valueAll_L2 fu K2 nn) v1_2 s_2
def wp_X4_valueAll (fu : Nat) (σ : SX) (P : SX → Prop) : Prop := (wp_X4_valueAll_L2 fu (fun (s_47 : SX) => (P s_47)) fu 0 σ)
theorem k_X4_valueAll : KV RX4 yX4_valueAll cX4_valueAll 3 none 0 := ⟨q1722, qs55, q5, q1723, by decide +kernel⟩
set_option maxHeartbeats 4000000 in
set_option maxRecDepth 100000 in
theorem m_X4_valueAll (l : Launch) (dC : Nat → ClassId) (dI : Nat → Nat → Nat) (h : Nat → Nat) (cy : Nat → ClassId) (sz : Nat) (fu : Nat) (σ : SX) (P : SX → Prop) (hF : wp_X4_valueAll fu σ P) : Met l yX4_valueAll (ws_ yX4_valueAll cX4_valueAll 3 none) ({ frames := 3, cells := 0, slots := 0, locals := 66 } : Room) (va_Pc [.ref (h 0)] (fun U => U.heap.size = sz ∧ va_P (dC, dI) classes (wC h cy σ) U.heap ∧ kwX dC dI cy U ∧ va_D (fun _ => True) (wC h cy σ))) (va_Qv (fun u => P u) (fun (u : SX) t => va_P (dC, dI) classes (wC h cy u) t.heap ∧ kwX dC dI cy t ∧ va_D (va_A (wC h cy σ) sz) (wC h cy u)) (va_A (wC h cy σ) sz)) 0 0 (va_A (wC h cy σ) sz) := by
  refine Met.ofCx (own := RX4) (by decide) rfl (Nat.le_of_ble_eq_true rfl) ?_
  intro p e s m below meth c hC hv ls hl
  obtain ⟨hx, hb, hr, hml, hown, hts, hlocks⟩ := hC
  have hl : lv_has ls 3 [(0, .ref (h 0))] := hl
  obtain ⟨hsz, hP, hK, hD0⟩ := hv
  subst hsz
  have hD := hD0.self (sz := s.heap.size)
  generalize hAe : va_A (wC h cy σ) s.heap.size = A at hD ⊢
  have hA : ∀ q : Nat, s.heap.size ≤ q → A q := fun q h => by rw [← hAe]; exact Or.inr h
  have hS : va_S A s.heap s.heap [] := va_S.rf
  clear hAe
  unfold wp_X4_valueAll at hF
  refine lv_iconst (v := 0) hx hb dX4_valueAll_0 (by decide) ?_
  refine lv_istore_n (lv' := [(1, .int 0), (0, .ref (h 0))]) hx hb dX4_valueAll_1 rfl hl (by decide) rfl (fun ls hl => ?_)
  have hX2 : ∀ (s_47 : SX), (fun (s_47 : SX) => (P s_47)) s_47 → ∀ (H : Heap) (locs : List Loc), va_P (dC, dI) classes (wC h cy s_47) H → va_D A (wC h cy s_47) → va_S A s.heap H locs → ∀ (ls : Array Slot), lv_has ls 3 [] → W p l e ({ frames := 3, cells := 0, slots := 0, locals := 66 } : Room) s m ([.ref (h 0)] : List Value).toArray below meth c H locs 0 0 (MQ below (va_Qv (fun u => P u) (fun (u : SX) t => va_P (dC, dI) classes (wC h cy u) t.heap ∧ kwX dC dI cy t ∧ va_D A (wC h cy u)) A) ([.ref (h 0)] : List Value).toArray s 0 0 A) (F0 m 47 ls []) := by
    intro s_47 hF H locs hP hD hS ls hl
    exact W.vret hx hb hr (fun t ht hW => ⟨⟨s_47, rfl, hF, by rw [ht]; exact hP, hK.warm hW, hD⟩, hS.F ht⟩) hS.2.2 dX4_valueAll_47
  have hL2 : ∀ (K2 : SX → Prop), (∀ (s_47 : SX), K2 s_47 → ∀ (H : Heap) (locs : List Loc), va_P (dC, dI) classes (wC h cy s_47) H → va_D A (wC h cy s_47) → va_S A s.heap H locs → ∀ (ls : Array Slot), lv_has ls 3 [] → W p l e ({ frames := 3, cells := 0, slots := 0, locals := 66 } : Room) s m ([.ref (h 0)] : List Value).toArray below meth c H locs 0 0 (MQ below (va_Qv (fun u => P u) (fun (u : SX) t => va_P (dC, dI) classes (wC h cy u) t.heap ∧ kwX dC dI cy t ∧ va_D A (wC h cy u)) A) ([.ref (h 0)] : List Value).toArray s 0 0 A) (F0 m 47 ls [])) → ∀ (nn : Nat), ∀ (v1_2 : Int32), ∀ (s_2 : SX), wp_X4_valueAll_L2 fu K2 nn v1_2 s_2 → ∀ (H : Heap) (locs : List Loc), va_P (dC, dI) classes (wC h cy s_2) H → va_D A (wC h cy s_2) → va_S A s.heap H locs → ∀ (ls : Array Slot), lv_has ls 3 [(1, .int v1_2), (0, .ref (h 0))] → W p l e ({ frames := 3, cells := 0, slots := 0, locals := 66 } : Room) s m ([.ref (h 0)] : List Value).toArray below meth c H locs 0 0 (MQ below (va_Qv (fun u => P u) (fun (u : SX) t => va_P (dC, dI) classes (wC h cy u) t.heap ∧ kwX dC dI cy t ∧ va_D A (wC h cy u)) A) ([.ref (h 0)] : List Value).toArray s 0 0 A) (F0 m 2 ls []) := by
    intro K2 hX2 nn
    induction nn with
    | zero =>
      intro v1_2 s_2 hF
      exact hF.elim
    | succ nn ih =>
      intro v1_2 s_2 hF H locs hP hD hS ls hl
      obtain ⟨rec2, hrec⟩ : ∃ z : Int32 → SX → Prop, z = wp_X4_valueAll_L2 fu K2 nn := ⟨_, rfl⟩
      have hF : wp_X4_valueAll_B2 fu K2 rec2 v1_2 s_2 := by rw [hrec]; exact hF
      rw [← hrec] at ih
      clear hrec
      unfold wp_X4_valueAll_B2 at hF
      refine lv_iload_n hx hb dX4_valueAll_2 rfl (lv_at hl 0 rfl) ?_
      refine lv_aload_n hx hb dX4_valueAll_3 rfl (lv_at hl 1 rfl) ?_
      refine va_get (D := (dC, dI)) (ci := 4) (v := .int (s_2.1 0)) (C := RX4) (T := TX4) (N := 19) hx hb hts in_X4 hown hK.1 hP 0 rfl rfl 13 (by decide) (hts _ q963) (fun _ h9 => h9) rfl dX4_valueAll_4 ?_
      refine lv_icmp_gt (tgt := 47) hx hb dX4_valueAll_7 (by decide) (fun cz => ?_) (fun cz => ?_)
      · have hF := hF.1 cz
        exact hX2 s_2 hF _ _ hP hD hS _ (lv_sub hl [] rfl)
      · have hF := hF.2 cz
        refine lv_iconst (v := 0) hx hb dX4_valueAll_10 (by decide) ?_
        refine lv_istore_n (lv' := [(2, .int 0), (1, .int v1_2), (0, .ref (h 0))]) hx hb dX4_valueAll_11 rfl hl (by decide) rfl (fun ls hl => ?_)
        have hX12 : ∀ (s_41 : SX), (fun (s_41 : SX) => (rec2 (v1_2 + 1) s_41)) s_41 → ∀ (H : Heap) (locs : List Loc), va_P (dC, dI) classes (wC h cy s_41) H → va_D A (wC h cy s_41) → va_S A s.heap H locs → ∀ (ls : Array Slot), lv_has ls 3 [(1, .int v1_2), (0, .ref (h 0))] → W p l e ({ frames := 3, cells := 0, slots := 0, locals := 66 } : Room) s m ([.ref (h 0)] : List Value).toArray below meth c H locs 0 0 (MQ below (va_Qv (fun u => P u) (fun (u : SX) t => va_P (dC, dI) classes (wC h cy u) t.heap ∧ kwX dC dI cy t ∧ va_D A (wC h cy u)) A) ([.ref (h 0)] : List Value).toArray s 0 0 A) (F0 m 41 ls []) := by
          intro s_41 hF H locs hP hD hS ls hl
          refine lv_iinc (v := v1_2 + 1) (lv' := [(1, .int (v1_2 + 1)), (0, .ref (h 0))]) hx hb dX4_valueAll_41 hl (k := 0) rfl (by rfl) (by decide) rfl (fun ls hl => ?_)
          refine lv_goto (tgt := 2) hx hb dX4_valueAll_44 (by decide) ?_
          exact ih (v1_2 + 1) s_41 hF _ _ hP hD hS _ (lv_sub hl [0, 1] rfl)
        have hL12 : ∀ (K12 : SX → Prop), (∀ (s_41 : SX), K12 s_41 → ∀ (H : Heap) (locs : List Loc), va_P (dC, dI) classes (wC h cy s_41) H → va_D A (wC h cy s_41) → va_S A s.heap H locs → ∀ (ls : Array Slot), lv_has ls 3 [(1, .int v1_2), (0, .ref (h 0))] → W p l e ({ frames := 3, cells := 0, slots := 0, locals := 66 } : Room) s m ([.ref (h 0)] : List Value).toArray below meth c H locs 0 0 (MQ below (va_Qv (fun u => P u) (fun (u : SX) t => va_P (dC, dI) classes (wC h cy u) t.heap ∧ kwX dC dI cy t ∧ va_D A (wC h cy u)) A) ([.ref (h 0)] : List Value).toArray s 0 0 A) (F0 m 41 ls [])) → ∀ (nn : Nat), ∀ (v2_12 : Int32), ∀ (s_12 : SX), wp_X4_valueAll_L12 fu v1_2 K12 nn v2_12 s_12 → ∀ (H : Heap) (locs : List Loc), va_P (dC, dI) classes (wC h cy s_12) H → va_D A (wC h cy s_12) → va_S A s.heap H locs → ∀ (ls : Array Slot), lv_has ls 3 [(2, .int v2_12), (1, .int v1_2), (0, .ref (h 0))] → W p l e ({ frames := 3, cells := 0, slots := 0, locals := 66 } : Room) s m ([.ref (h 0)] : List Value).toArray below meth c H locs 0 0 (MQ below (va_Qv (fun u => P u) (fun (u : SX) t => va_P (dC, dI) classes (wC h cy u) t.heap ∧ kwX dC dI cy t ∧ va_D A (wC h cy u)) A) ([.ref (h 0)] : List Value).toArray s 0 0 A) (F0 m 12 ls []) := by
          intro K12 hX12 nn
          induction nn with
          | zero =>
            intro v2_12 s_12 hF
            exact hF.elim
          | succ nn ih =>
            intro v2_12 s_12 hF H locs hP hD hS ls hl
            obtain ⟨rec12, hrec⟩ : ∃ z : Int32 → SX → Prop, z = wp_X4_valueAll_L12 fu v1_2 K12 nn := ⟨_, rfl⟩
            have hF : wp_X4_valueAll_B12 fu v1_2 K12 rec12 v2_12 s_12 := by rw [hrec]; exact hF
            rw [← hrec] at ih
            clear hrec
            unfold wp_X4_valueAll_B12 at hF
            refine lv_iload_n hx hb dX4_valueAll_12 rfl (lv_at hl 0 rfl) ?_
            refine lv_iconst (v := 1) hx hb dX4_valueAll_13 (by decide) ?_
            refine lv_aload_n hx hb dX4_valueAll_14 rfl (lv_at hl 2 rfl) ?_
            refine va_get (D := (dC, dI)) (ci := 4) (v := .int (s_12.1 0)) (C := RX4) (T := TX4) (N := 19) hx hb hts in_X4 hown hK.1 hP 0 rfl rfl 13 (by decide) (hts _ q963) (fun _ h9 => h9) rfl dX4_valueAll_15 ?_
            refine lv_ishl hx hb dX4_valueAll_18 ?_
            refine lv_icmp_ge (tgt := 41) hx hb dX4_valueAll_19 (by decide) (fun cz => ?_) (fun cz => ?_)
            · have hF := hF.1 cz
              exact hX12 s_12 hF _ _ hP hD hS _ (lv_sub hl [1, 2] rfl)
            · have hF := hF.2 cz
              refine lv_iload_n hx hb dX4_valueAll_22 rfl (lv_at hl 0 rfl) ?_
              refine cpSi (As := [.int v2_12]) (rest := []) ⟨hx, hb, hr, hml, hown, hts, hlocks⟩ (m_J6_bitCount_0f7a4 l v2_12 _ hF) k_J6_bitCount_0f7a4 q1319 ⟨rfl, rfl⟩ ⟨Nat.le_of_ble_eq_true rfl, Nat.le_of_ble_eq_true rfl⟩ hl.1 rfl rfl (Nat.le_of_ble_eq_true rfl) dX4_valueAll_23 ⟨Nat.le_of_ble_eq_true rfl, Nat.le_of_ble_eq_true rfl⟩ (fun r23 hF => ?_)
              refine lv_iload_n hx hb dX4_valueAll_26 rfl (lv_at hl 1 rfl) ?_
              have hJ35 : ∀ (s_35 : SX), wp_X4_valueAll_J35 rec12 v2_12 s_35 → ∀ (H : Heap) (locs : List Loc), va_P (dC, dI) classes (wC h cy s_35) H → va_D A (wC h cy s_35) → va_S A s.heap H locs → ∀ (ls : Array Slot), lv_has ls 3 [(2, .int v2_12), (1, .int v1_2), (0, .ref (h 0))] → W p l e ({ frames := 3, cells := 0, slots := 0, locals := 66 } : Room) s m ([.ref (h 0)] : List Value).toArray below meth c H locs 0 0 (MQ below (va_Qv (fun u => P u) (fun (u : SX) t => va_P (dC, dI) classes (wC h cy u) t.heap ∧ kwX dC dI cy t ∧ va_D A (wC h cy u)) A) ([.ref (h 0)] : List Value).toArray s 0 0 A) (F0 m 35 ls []) := by
                intro s_35 hF H locs hP hD hS ls hl
                unfold wp_X4_valueAll_J35 at hF
                refine lv_iinc (v := v2_12 + 1) (lv' := [(2, .int (v2_12 + 1)), (1, .int v1_2), (0, .ref (h 0))]) hx hb dX4_valueAll_35 hl (k := 0) rfl (by rfl) (by decide) rfl (fun ls hl => ?_)
                refine lv_goto (tgt := 12) hx hb dX4_valueAll_38 (by decide) ?_
                exact ih (v2_12 + 1) s_35 hF _ _ hP hD hS _ (lv_sub hl [0, 1, 2] rfl)
              refine lv_icmp_ne (tgt := 35) hx hb dX4_valueAll_27 (by decide) (fun cz => ?_) (fun cz => ?_)
              · have hF := hF.1 cz
                exact hJ35 s_12 hF _ _ hP hD hS _ (lv_sub hl [0, 1, 2] rfl)
              · have hF := hF.2 cz
                refine lv_aload_n hx hb dX4_valueAll_30 rfl (lv_at hl 2 rfl) ?_
                refine lv_iload_n hx hb dX4_valueAll_31 rfl (lv_at hl 0 rfl) ?_
                have hFc := va_free (wc := wC h cy s_12) hD hS hA [0, 1, 2, 3, 4, 5, 6, 7, 8, 9] rfl
                refine cwVv (q0 := 0) (As := [.int v2_12]) (rest := []) ⟨hx, hb, hr, hml, hown, hts, hlocks⟩ hK hP hD rfl rfl hS hFc (m_X4_value l dC dI h cy _ fu s_12 v2_12 _ hF) k_X4_value q1724 ⟨rfl, rfl⟩ ⟨Nat.le_of_ble_eq_true rfl, Nat.le_of_ble_eq_true rfl⟩ hl.1 rfl rfl (Nat.le_of_ble_eq_true rfl) dX4_valueAll_32 ⟨Nat.le_of_ble_eq_true rfl, Nat.le_of_ble_eq_true rfl⟩ (fun u H1 locs hF hP1 hD1 hk1 hS => ?_)
                obtain ⟨s32, rfl⟩ : ∃ z, z = u := ⟨_, rfl⟩
                have hP := hP1
                have hD := hD1.weaken (fun _ q _ h => hFc q.1 h)
                generalize H1 = H at hP hS ⊢
                have hP : va_P (dC, dI) classes (wC h cy s32) H := hP
                have hD : va_D A (wC h cy s32) := hD
                exact hJ35 s32 hF _ _ hP hD hS _ (lv_sub hl [0, 1, 2] rfl)
        exact hL12 _ hX12 fu 0 s_2 hF _ _ hP hD hS _ (lv_sub hl [0, 1, 2] rfl)
  exact hL2 _ hX2 fu 0 σ hF _ _ hP hD hS _ (lv_sub hl [0, 1] rfl)
theorem dX4_value__0 : decode cX4_value_ 0 = .ok (.aload_n 0, 1) := by decide +kernel
theorem dX4_value__1 : decode cX4_value_ 1 = .ok (.iconst 0, 1) := by decide +kernel
theorem dX4_value__2 : decode cX4_value_ 2 = .ok (.putfield 60, 3) := by decide +kernel
theorem dX4_value__5 : decode cX4_value_ 5 = .ok (.aload_n 0, 1) := by decide +kernel
theorem dX4_value__6 : decode cX4_value_ 6 = .ok (.invokevirtual 253, 3) := by decide +kernel
theorem dX4_value__9 : decode cX4_value_ 9 = .ok (.aload_n 0, 1) := by decide +kernel
theorem dX4_value__10 : decode cX4_value_ 10 = .ok (.getfield 49, 3) := by decide +kernel
theorem dX4_value__13 : decode cX4_value_ 13 = .ok (.aload_n 0, 1) := by decide +kernel
theorem dX4_value__14 : decode cX4_value_ 14 = .ok (.getfield 120, 3) := by decide +kernel
theorem dX4_value__17 : decode cX4_value_ 17 = .ok (.iaload, 1) := by decide +kernel
theorem dX4_value__18 : decode cX4_value_ 18 = .ok (.ireturn, 1) := by decide +kernel
def wp_X4_value_ (fu : Nat) (σ : SX) (P : Int32 → SX → Prop) : Prop := (wp_X4_valueAll fu (sI σ 5 0)  (fun s6 => (vp_in (s6.1 2) 8192 ∧ (P ((s6.2.1 7) (s6.1 2).toNatClampNeg) s6))))
theorem k_X4_value_ : KV RX4 yX4_value_ cX4_value_ 1 (some .int) 0 := ⟨q1717, q1718, q5, q1719, by decide +kernel⟩
set_option maxHeartbeats 4000000 in
set_option maxRecDepth 100000 in
theorem m_X4_value_ (l : Launch) (dC : Nat → ClassId) (dI : Nat → Nat → Nat) (h : Nat → Nat) (cy : Nat → ClassId) (sz : Nat) (fu : Nat) (σ : SX) (P : Int32 → SX → Prop) (hF : wp_X4_value_ fu σ P) : Met l yX4_value_ (ws_ yX4_value_ cX4_value_ 1 (some .int)) ({ frames := 4, cells := 0, slots := 0, locals := 88 } : Room) (va_Pc [.ref (h 0)] (fun U => U.heap.size = sz ∧ va_P (dC, dI) classes (wC h cy σ) U.heap ∧ kwX dC dI cy U ∧ va_D (fun _ => True) (wC h cy σ))) (va_Qi (fun r u => P r u) (fun (u : SX) t => va_P (dC, dI) classes (wC h cy u) t.heap ∧ kwX dC dI cy t ∧ va_D (va_A (wC h cy σ) sz) (wC h cy u)) (va_A (wC h cy σ) sz)) 0 0 (va_A (wC h cy σ) sz) := by
  refine Met.ofCx (own := RX4) (by decide) rfl (Nat.le_of_ble_eq_true rfl) ?_
  intro p e s m below meth c hC hv ls hl
  obtain ⟨hx, hb, hr, hml, hown, hts, hlocks⟩ := hC
  have hl : lv_has ls 1 [(0, .ref (h 0))] := hl
  obtain ⟨hsz, hP, hK, hD0⟩ := hv
  subst hsz
  have hD := hD0.self (sz := s.heap.size)
  generalize hAe : va_A (wC h cy σ) s.heap.size = A at hD ⊢
  have hA : ∀ q : Nat, s.heap.size ≤ q → A q := fun q h => by rw [← hAe]; exact Or.inr h
  have hS : va_S A s.heap s.heap [] := va_S.rf
  clear hAe
  unfold wp_X4_value_ at hF
  refine lv_aload_n hx hb dX4_value__0 rfl (lv_at hl 0 rfl) ?_
  refine lv_iconst (v := 0) hx hb dX4_value__1 (by decide) ?_
  refine va_put (D := (dC, dI)) (ci := 4) (v := .int 0) (ty := .int) (C := RX4) (T := TX4) (N := 19) hx hb hts in_X4 tyX4 tyX4_ok nmX4 hown hK.1 hP hD hS 0 rfl rfl 18 (by decide) (hts _ q968) (fun _ h9 => h9) rfl (by decide +kernel) rfl rfl (Nat.le_of_ble_eq_true rfl) dX4_value__2 (fun H locs hP hD hS => ?_)
  have hP : va_P (dC, dI) classes (wC h cy (sI σ 5 0)) H := hP
  have hD : va_D A (wC h cy (sI σ 5 0)) := hD
  refine lv_aload_n hx hb dX4_value__5 rfl (lv_at hl 0 rfl) ?_
  have hFc := va_free (wc := wC h cy (sI σ 5 0)) hD hS hA [0, 1, 2, 3, 4, 5, 6, 7, 8, 9] rfl
  refine cwVv (q0 := 0) (As := []) (rest := []) ⟨hx, hb, hr, hml, hown, hts, hlocks⟩ hK hP hD rfl rfl hS hFc (m_X4_valueAll l dC dI h cy _ fu (sI σ 5 0)  _ hF) k_X4_valueAll q1720 ⟨rfl, rfl⟩ ⟨Nat.le_of_ble_eq_true rfl, Nat.le_of_ble_eq_true rfl⟩ hl.1 rfl rfl (Nat.le_of_ble_eq_true rfl) dX4_value__6 ⟨Nat.le_of_ble_eq_true rfl, Nat.le_of_ble_eq_true rfl⟩ (fun u H1 locs hF hP1 hD1 hk1 hS => ?_)
  obtain ⟨s6, rfl⟩ : ∃ z, z = u := ⟨_, rfl⟩
  have hP := hP1
  have hD := hD1.weaken (fun _ q _ h => hFc q.1 h)
  generalize H1 = H at hP hS ⊢
  have hP : va_P (dC, dI) classes (wC h cy s6) H := hP
  have hD : va_D A (wC h cy s6) := hD
  refine lv_aload_n hx hb dX4_value__9 rfl (lv_at hl 0 rfl) ?_
  refine va_get (D := (dC, dI)) (ci := 4) (v := .ref (h 9)) (C := RX4) (T := TX4) (N := 19) hx hb hts in_X4 hown hK.1 hP 0 rfl rfl 11 (by decide) (hts _ q961) (fun _ h9 => h9) rfl dX4_value__10 ?_
  refine lv_aload_n hx hb dX4_value__13 rfl (lv_at hl 0 rfl) ?_
  refine va_get (D := (dC, dI)) (ci := 4) (v := .int (s6.1 2)) (C := RX4) (T := TX4) (N := 19) hx hb hts in_X4 hown hK.1 hP 0 rfl rfl 15 (by decide) (hts _ q965) (fun _ h9 => h9) rfl dX4_value__14 ?_
  have hI := hF.1
  have hF := hF.2
  refine va_iald hx hb hK.1 hP 9 0 rfl rfl hI dX4_value__17 ?_
  exact W.iret (v := (s6.2.1 7) (s6.1 2).toNatClampNeg) hx hb hr (fun t ht hW => ⟨⟨(s6.2.1 7) (s6.1 2).toNatClampNeg, s6, rfl, hF, by rw [ht]; exact hP, hK.warm hW, hD⟩, hS.F ht⟩) hS.2.2 dX4_value__18
theorem dX4_ways_0 : decode cX4_ways 0 = .ok (.aload_n 0, 1) := by decide +kernel
theorem dX4_ways_1 : decode cX4_ways 1 = .ok (.iconst 0, 1) := by decide +kernel
theorem dX4_ways_2 : decode cX4_ways 2 = .ok (.putfield 60, 3) := by decide +kernel
theorem dX4_ways_5 : decode cX4_ways 5 = .ok (.aload_n 0, 1) := by decide +kernel
theorem dX4_ways_6 : decode cX4_ways 6 = .ok (.invokevirtual 215, 3) := by decide +kernel
theorem dX4_ways_9 : decode cX4_ways 9 = .ok (.lreturn, 1) := by decide +kernel
def wp_X4_ways (fu : Nat) (σ : SX) (P : Int64 → SX → Prop) : Prop := (wp_X4_waysNow fu (sI σ 5 0)  (fun r6 s6 => (P r6 s6)))
theorem k_X4_ways : KV RX4 yX4_ways cX4_ways 1 (some .long) 0 := ⟨q1419, q1420, q5, q1421, by decide +kernel⟩
set_option maxHeartbeats 4000000 in
set_option maxRecDepth 100000 in
theorem m_X4_ways (l : Launch) (dC : Nat → ClassId) (dI : Nat → Nat → Nat) (h : Nat → Nat) (cy : Nat → ClassId) (sz : Nat) (fu : Nat) (σ : SX) (P : Int64 → SX → Prop) (hF : wp_X4_ways fu σ P) : Met l yX4_ways (ws_ yX4_ways cX4_ways 1 (some .long)) ({ frames := 4, cells := 0, slots := 0, locals := 86 } : Room) (va_Pc [.ref (h 0)] (fun U => U.heap.size = sz ∧ va_P (dC, dI) classes (wC h cy σ) U.heap ∧ kwX dC dI cy U ∧ va_D (fun _ => True) (wC h cy σ))) (va_Ql (fun r u => P r u) (fun (u : SX) t => va_P (dC, dI) classes (wC h cy u) t.heap ∧ kwX dC dI cy t ∧ va_D (va_A (wC h cy σ) sz) (wC h cy u)) (va_A (wC h cy σ) sz)) 0 0 (va_A (wC h cy σ) sz) := by
  refine Met.ofCx (own := RX4) (by decide) rfl (Nat.le_of_ble_eq_true rfl) ?_
  intro p e s m below meth c hC hv ls hl
  obtain ⟨hx, hb, hr, hml, hown, hts, hlocks⟩ := hC
  have hl : lv_has ls 1 [(0, .ref (h 0))] := hl
  obtain ⟨hsz, hP, hK, hD0⟩ := hv
  subst hsz
  have hD := hD0.self (sz := s.heap.size)
  generalize hAe : va_A (wC h cy σ) s.heap.size = A at hD ⊢
  have hA : ∀ q : Nat, s.heap.size ≤ q → A q := fun q h => by rw [← hAe]; exact Or.inr h
  have hS : va_S A s.heap s.heap [] := va_S.rf
  clear hAe
  unfold wp_X4_ways at hF
  refine lv_aload_n hx hb dX4_ways_0 rfl (lv_at hl 0 rfl) ?_
  refine lv_iconst (v := 0) hx hb dX4_ways_1 (by decide) ?_
  refine va_put (D := (dC, dI)) (ci := 4) (v := .int 0) (ty := .int) (C := RX4) (T := TX4) (N := 19) hx hb hts in_X4 tyX4 tyX4_ok nmX4 hown hK.1 hP hD hS 0 rfl rfl 18 (by decide) (hts _ q968) (fun _ h9 => h9) rfl (by decide +kernel) rfl rfl (Nat.le_of_ble_eq_true rfl) dX4_ways_2 (fun H locs hP hD hS => ?_)
  have hP : va_P (dC, dI) classes (wC h cy (sI σ 5 0)) H := hP
  have hD : va_D A (wC h cy (sI σ 5 0)) := hD
  refine lv_aload_n hx hb dX4_ways_5 rfl (lv_at hl 0 rfl) ?_
  have hFc := va_free (wc := wC h cy (sI σ 5 0)) hD hS hA [0, 1, 2, 3, 4, 5, 6, 7, 8, 9] rfl
  refine cwVl (q0 := 0) (As := []) (rest := []) ⟨hx, hb, hr, hml, hown, hts, hlocks⟩ hK hP hD rfl rfl hS hFc (m_X4_waysNow l dC dI h cy _ fu (sI σ 5 0)  _ hF) k_X4_waysNow q1410 ⟨rfl, rfl⟩ ⟨Nat.le_of_ble_eq_true rfl, Nat.le_of_ble_eq_true rfl⟩ hl.1 rfl rfl (Nat.le_of_ble_eq_true rfl) dX4_ways_6 ⟨Nat.le_of_ble_eq_true rfl, Nat.le_of_ble_eq_true rfl⟩ (fun r6 u H1 locs hF hP1 hD1 hk1 hS => ?_)
  obtain ⟨s6, rfl⟩ : ∃ z, z = u := ⟨_, rfl⟩
  have hP := hP1
  have hD := hD1.weaken (fun _ q _ h => hFc q.1 h)
  generalize H1 = H at hP hS ⊢
  have hP : va_P (dC, dI) classes (wC h cy s6) H := hP
  have hD : va_D A (wC h cy s6) := hD
  exact W.lret (v := r6) hx hb hr (fun t ht hW => ⟨⟨r6, s6, rfl, hF, by rw [ht]; exact hP, hK.warm hW, hD⟩, hS.F ht⟩) hS.2.2 dX4_ways_9
theorem dX4_weigh_0 : decode cX4_weigh 0 = .ok (.aload_n 0, 1) := by decide +kernel
theorem dX4_weigh_1 : decode cX4_weigh 1 = .ok (.aload_n 0, 1) := by decide +kernel
theorem dX4_weigh_2 : decode cX4_weigh 2 = .ok (.iload_n 1, 1) := by decide +kernel
theorem dX4_weigh_3 : decode cX4_weigh 3 = .ok (.invokevirtual 132, 3) := by decide +kernel
theorem dX4_weigh_6 : decode cX4_weigh 6 = .ok (.ifCond .ne 7, 3) := by decide +kernel
theorem dX4_weigh_9 : decode cX4_weigh 9 = .ok (.iconst 1, 1) := by decide +kernel
theorem dX4_weigh_10 : decode cX4_weigh 10 = .ok (.goto 19, 3) := by decide +kernel
theorem dX4_weigh_13 : decode cX4_weigh 13 = .ok (.iload_n 2, 1) := by decide +kernel
theorem dX4_weigh_14 : decode cX4_weigh 14 = .ok (.bipush (-99), 2) := by decide +kernel
theorem dX4_weigh_16 : decode cX4_weigh 16 = .ok (.bipush 99, 2) := by decide +kernel
theorem dX4_weigh_18 : decode cX4_weigh 18 = .ok (.invokestatic 67, 3) := by decide +kernel
theorem dX4_weigh_21 : decode cX4_weigh 21 = .ok (.ifCond .eq 7, 3) := by decide +kernel
theorem dX4_weigh_24 : decode cX4_weigh 24 = .ok (.iconst 0, 1) := by decide +kernel
theorem dX4_weigh_25 : decode cX4_weigh 25 = .ok (.goto 4, 3) := by decide +kernel
theorem dX4_weigh_28 : decode cX4_weigh 28 = .ok (.iconst 2, 1) := by decide +kernel
theorem dX4_weigh_29 : decode cX4_weigh 29 = .ok (.invokevirtual 100, 3) := by decide +kernel
theorem dX4_weigh_32 : decode cX4_weigh 32 = .ok (.ifCond .eq 5, 3) := by decide +kernel
theorem dX4_weigh_35 : decode cX4_weigh 35 = .ok (.iconst 0, 1) := by decide +kernel
theorem dX4_weigh_36 : decode cX4_weigh 36 = .ok (.ireturn, 1) := by decide +kernel
theorem dX4_weigh_37 : decode cX4_weigh 37 = .ok (.aload_n 0, 1) := by decide +kernel
theorem dX4_weigh_38 : decode cX4_weigh 38 = .ok (.getfield 16, 3) := by decide +kernel
theorem dX4_weigh_41 : decode cX4_weigh 41 = .ok (.iload_n 1, 1) := by decide +kernel
theorem dX4_weigh_42 : decode cX4_weigh 42 = .ok (.iaload, 1) := by decide +kernel
theorem dX4_weigh_43 : decode cX4_weigh 43 = .ok (.istore_n 3, 1) := by decide +kernel
theorem dX4_weigh_44 : decode cX4_weigh 44 = .ok (.aload_n 0, 1) := by decide +kernel
theorem dX4_weigh_45 : decode cX4_weigh 45 = .ok (.getfield 16, 3) := by decide +kernel
theorem dX4_weigh_48 : decode cX4_weigh 48 = .ok (.iload_n 1, 1) := by decide +kernel
theorem dX4_weigh_49 : decode cX4_weigh 49 = .ok (.iload_n 2, 1) := by decide +kernel
theorem dX4_weigh_50 : decode cX4_weigh 50 = .ok (.iastore, 1) := by decide +kernel
theorem dX4_weigh_51 : decode cX4_weigh 51 = .ok (.iload_n 3, 1) := by decide +kernel
theorem dX4_weigh_52 : decode cX4_weigh 52 = .ok (.ireturn, 1) := by decide +kernel
def wp_X4_weigh_J29 (σ : SX) (x1 : Int32) (x2 : Int32) (P : Int32 → SX → Prop) (t1_29 : Int32) : Prop := (wp_X4_fails σ t1_29 (fun r29 s29 => ((r29 = 0 → (vp_in x1 13 ∧ (vp_in x1 13 ∧ (P ((s29.2.1 2) x1.toNatClampNeg) (sA s29 2 (upd (s29.2.1 2) x1.toNatClampNeg x2)))))) ∧ (¬ r29 = 0 → (P 0 s29)))))
def wp_X4_weigh (σ : SX) (x1 : Int32) (x2 : Int32) (P : Int32 → SX → Prop) : Prop := (wp_X4_isHole σ x1 (fun r3 => ((¬ r3 = 0 → (wp_X4_in x2 (-99) 99 (fun r18 => ((r18 = 0 → (wp_X4_weigh_J29 σ x1 x2 P 2)) ∧ (¬ r18 = 0 → (wp_X4_weigh_J29 σ x1 x2 P 0)))))) ∧ (r3 = 0 → (wp_X4_weigh_J29 σ x1 x2 P 1)))))
theorem k_X4_weigh : KV RX4 yX4_weigh cX4_weigh 4 (some .int) 2 := ⟨q1665, q1666, q5, q1667, by decide +kernel⟩
set_option maxHeartbeats 4000000 in
set_option maxRecDepth 100000 in
theorem m_X4_weigh (l : Launch) (dC : Nat → ClassId) (dI : Nat → Nat → Nat) (h : Nat → Nat) (cy : Nat → ClassId) (sz : Nat) (σ : SX) (x1 : Int32) (x2 : Int32) (P : Int32 → SX → Prop) (hF : wp_X4_weigh σ x1 x2 P) : Met l yX4_weigh (ws_ yX4_weigh cX4_weigh 4 (some .int)) ({ frames := 2, cells := 0, slots := 0, locals := 43 } : Room) (va_Pc [.ref (h 0), .int x1, .int x2] (fun U => U.heap.size = sz ∧ va_P (dC, dI) classes (wC h cy σ) U.heap ∧ kwX dC dI cy U ∧ va_D (fun _ => True) (wC h cy σ))) (va_Qi (fun r u => P r u) (fun (u : SX) t => va_P (dC, dI) classes (wC h cy u) t.heap ∧ kwX dC dI cy t ∧ va_D (va_A (wC h cy σ) sz) (wC h cy u)) (va_A (wC h cy σ) sz)) 0 0 (va_A (wC h cy σ) sz) := by
  refine Met.ofCx (own := RX4) (by decide) rfl (Nat.le_of_ble_eq_true rfl) ?_
  intro p e s m below meth c hC hv ls hl
  obtain ⟨hx, hb, hr, hml, hown, hts, hlocks⟩ := hC
  have hl : lv_has ls 4 [(0, .ref (h 0)), (1, .int x1), (2, .int x2)] := hl
  obtain ⟨hsz, hP, hK, hD0⟩ := hv
  subst hsz
  have hD := hD0.self (sz := s.heap.size)
  generalize hAe : va_A (wC h cy σ) s.heap.size = A at hD ⊢
  have hA : ∀ q : Nat, s.heap.size ≤ q → A q := fun q h => by rw [← hAe]; exact Or.inr h
  have hS : va_S A s.heap s.heap [] := va_S.rf
  clear hAe
  unfold wp_X4_weigh at hF
  refine lv_aload_n hx hb dX4_weigh_0 rfl (lv_at hl 0 rfl) ?_
  refine lv_aload_n hx hb dX4_weigh_1 rfl (lv_at hl 0 rfl) ?_
  refine lv_iload_n hx hb dX4_weigh_2 rfl (lv_at hl 1 rfl) ?_
  refine cpVi (q0 := 0) (As := [.int x1]) (rest := [.ref (h 0)]) ⟨hx, hb, hr, hml, hown, hts, hlocks⟩ hK hP rfl rfl (m_X4_isHole l dC dI h cy σ x1 _ hF) k_X4_isHole q1159 ⟨rfl, rfl⟩ ⟨Nat.le_of_ble_eq_true rfl, Nat.le_of_ble_eq_true rfl⟩ hl.1 rfl rfl (Nat.le_of_ble_eq_true rfl) dX4_weigh_3 ⟨Nat.le_of_ble_eq_true rfl, Nat.le_of_ble_eq_true rfl⟩ (fun r3 hF => ?_)
  have hJ29 : ∀ (t1_29 : Int32), wp_X4_weigh_J29 σ x1 x2 P t1_29 → ∀ (H : Heap) (locs : List Loc), va_P (dC, dI) classes (wC h cy σ) H → va_D A (wC h cy σ) → va_S A s.heap H locs → ∀ (ls : Array Slot), lv_has ls 4 [(0, .ref (h 0)), (1, .int x1), (2, .int x2)] → W p l e ({ frames := 2, cells := 0, slots := 0, locals := 43 } : Room) s m ([.ref (h 0), .int x1, .int x2] : List Value).toArray below meth c H locs 0 0 (MQ below (va_Qi (fun r u => P r u) (fun (u : SX) t => va_P (dC, dI) classes (wC h cy u) t.heap ∧ kwX dC dI cy t ∧ va_D A (wC h cy u)) A) ([.ref (h 0), .int x1, .int x2] : List Value).toArray s 0 0 A) (F0 m 29 ls [.int t1_29, .ref (h 0)]) := by
    intro t1_29 hF H locs hP hD hS ls hl
    unfold wp_X4_weigh_J29 at hF
    have hFc := va_free (wc := wC h cy σ) hD hS hA [0, 1, 2, 3, 4, 5, 6, 7, 8, 9] rfl
    refine cwVi (q0 := 0) (As := [.int t1_29]) (rest := []) ⟨hx, hb, hr, hml, hown, hts, hlocks⟩ hK hP hD rfl rfl hS hFc (m_X4_fails l dC dI h cy _ σ t1_29 _ hF) k_X4_fails q1102 ⟨rfl, rfl⟩ ⟨Nat.le_of_ble_eq_true rfl, Nat.le_of_ble_eq_true rfl⟩ hl.1 rfl rfl (Nat.le_of_ble_eq_true rfl) dX4_weigh_29 ⟨Nat.le_of_ble_eq_true rfl, Nat.le_of_ble_eq_true rfl⟩ (fun r29 u H1 locs hF hP1 hD1 hk1 hS => ?_)
    obtain ⟨s29, rfl⟩ : ∃ z, z = u := ⟨_, rfl⟩
    have hP := hP1
    have hD := hD1.weaken (fun _ q _ h => hFc q.1 h)
    generalize H1 = H at hP hS ⊢
    have hP : va_P (dC, dI) classes (wC h cy s29) H := hP
    have hD : va_D A (wC h cy s29) := hD
    refine lv_if_eq (tgt := 37) hx hb dX4_weigh_32 (by decide) (fun cz => ?_) (fun cz => ?_)
    · have hF := hF.1 cz
      refine lv_aload_n hx hb dX4_weigh_37 rfl (lv_at hl 0 rfl) ?_
      refine va_get (D := (dC, dI)) (ci := 4) (v := .ref (h 3)) (C := RX4) (T := TX4) (N := 19) hx hb hts in_X4 hown hK.1 hP 0 rfl rfl 2 (by decide) (hts _ q952) (fun _ h9 => h9) rfl dX4_weigh_38 ?_
      refine lv_iload_n hx hb dX4_weigh_41 rfl (lv_at hl 1 rfl) ?_
      have hI := hF.1
      have hF := hF.2
      refine va_iald hx hb hK.1 hP 3 0 rfl rfl hI dX4_weigh_42 ?_
      refine lv_istore_n (lv' := [(3, .int ((s29.2.1 2) x1.toNatClampNeg)), (0, .ref (h 0)), (1, .int x1), (2, .int x2)]) hx hb dX4_weigh_43 rfl hl (by decide) rfl (fun ls hl => ?_)
      refine lv_aload_n hx hb dX4_weigh_44 rfl (lv_at hl 1 rfl) ?_
      refine va_get (D := (dC, dI)) (ci := 4) (v := .ref (h 3)) (C := RX4) (T := TX4) (N := 19) hx hb hts in_X4 hown hK.1 hP 0 rfl rfl 2 (by decide) (hts _ q952) (fun _ h9 => h9) rfl dX4_weigh_45 ?_
      refine lv_iload_n hx hb dX4_weigh_48 rfl (lv_at hl 2 rfl) ?_
      refine lv_iload_n hx hb dX4_weigh_49 rfl (lv_at hl 3 rfl) ?_
      have hI := hF.1
      have hF := hF.2
      refine va_iast hx hb hK.1 hP hD hS 3 0 rfl rfl hI dX4_weigh_50 (fun H locs hP hD hS => ?_)
      have hP : va_P (dC, dI) classes (wC h cy (sA s29 2 (upd (s29.2.1 2) x1.toNatClampNeg x2))) H := hP
      have hD : va_D A (wC h cy (sA s29 2 (upd (s29.2.1 2) x1.toNatClampNeg x2))) := hD
      refine lv_iload_n hx hb dX4_weigh_51 rfl (lv_at hl 0 rfl) ?_
      exact W.iret (v := (s29.2.1 2) x1.toNatClampNeg) hx hb hr (fun t ht hW => ⟨⟨(s29.2.1 2) x1.toNatClampNeg, sA s29 2 (upd (s29.2.1 2) x1.toNatClampNeg x2), rfl, hF, by rw [ht]; exact hP, hK.warm hW, hD⟩, hS.F ht⟩) hS.2.2 dX4_weigh_52
    · have hF := hF.2 cz
      refine lv_iconst (v := 0) hx hb dX4_weigh_35 (by decide) ?_
      exact W.iret (v := 0) hx hb hr (fun t ht hW => ⟨⟨0, s29, rfl, hF, by rw [ht]; exact hP, hK.warm hW, hD⟩, hS.F ht⟩) hS.2.2 dX4_weigh_36
  refine lv_if_ne (tgt := 13) hx hb dX4_weigh_6 (by decide) (fun cz => ?_) (fun cz => ?_)
  · have hF := hF.1 cz
    refine lv_iload_n hx hb dX4_weigh_13 rfl (lv_at hl 2 rfl) ?_
    refine lv_bipush (v := (-99)) hx hb dX4_weigh_14 (by decide) ?_
    refine lv_bipush (v := 99) hx hb dX4_weigh_16 (by decide) ?_
    refine cpSi (As := [.int x2, .int (-99), .int 99]) (rest := [.ref (h 0)]) ⟨hx, hb, hr, hml, hown, hts, hlocks⟩ (m_X4_in l x2 (-99) 99 _ hF) k_X4_in q937 ⟨rfl, rfl⟩ ⟨Nat.le_of_ble_eq_true rfl, Nat.le_of_ble_eq_true rfl⟩ hl.1 rfl rfl (Nat.le_of_ble_eq_true rfl) dX4_weigh_18 ⟨Nat.le_of_ble_eq_true rfl, Nat.le_of_ble_eq_true rfl⟩ (fun r18 hF => ?_)
    refine lv_if_eq (tgt := 28) hx hb dX4_weigh_21 (by decide) (fun cz => ?_) (fun cz => ?_)
    · have hF := hF.1 cz
      refine lv_iconst (v := 2) hx hb dX4_weigh_28 (by decide) ?_
      exact hJ29 2 hF _ _ hP hD hS _ (lv_sub hl [0, 1, 2] rfl)
    · have hF := hF.2 cz
      refine lv_iconst (v := 0) hx hb dX4_weigh_24 (by decide) ?_
      refine lv_goto (tgt := 29) hx hb dX4_weigh_25 (by decide) ?_
      exact hJ29 0 hF _ _ hP hD hS _ (lv_sub hl [0, 1, 2] rfl)
  · have hF := hF.2 cz
    refine lv_iconst (v := 1) hx hb dX4_weigh_9 (by decide) ?_
    refine lv_goto (tgt := 29) hx hb dX4_weigh_10 (by decide) ?_
    exact hJ29 1 hF _ _ hP hD hS _ (lv_sub hl [0, 1, 2] rfl)
theorem dX4_weight_0 : decode cX4_weight 0 = .ok (.aload_n 0, 1) := by decide +kernel
theorem dX4_weight_1 : decode cX4_weight 1 = .ok (.aload_n 0, 1) := by decide +kernel
theorem dX4_weight_2 : decode cX4_weight 2 = .ok (.iload_n 1, 1) := by decide +kernel
theorem dX4_weight_3 : decode cX4_weight 3 = .ok (.invokevirtual 147, 3) := by decide +kernel
theorem dX4_weight_6 : decode cX4_weight 6 = .ok (.ifCond .eq 7, 3) := by decide +kernel
theorem dX4_weight_9 : decode cX4_weight 9 = .ok (.iconst 0, 1) := by decide +kernel
theorem dX4_weight_10 : decode cX4_weight 10 = .ok (.goto 4, 3) := by decide +kernel
theorem dX4_weight_13 : decode cX4_weight 13 = .ok (.iconst 1, 1) := by decide +kernel
theorem dX4_weight_14 : decode cX4_weight 14 = .ok (.invokevirtual 100, 3) := by decide +kernel
theorem dX4_weight_17 : decode cX4_weight 17 = .ok (.ifCond .eq 7, 3) := by decide +kernel
theorem dX4_weight_20 : decode cX4_weight 20 = .ok (.iconst 0, 1) := by decide +kernel
theorem dX4_weight_21 : decode cX4_weight 21 = .ok (.goto 8, 3) := by decide +kernel
theorem dX4_weight_24 : decode cX4_weight 24 = .ok (.aload_n 0, 1) := by decide +kernel
theorem dX4_weight_25 : decode cX4_weight 25 = .ok (.iload_n 1, 1) := by decide +kernel
theorem dX4_weight_26 : decode cX4_weight 26 = .ok (.invokevirtual 228, 3) := by decide +kernel
theorem dX4_weight_29 : decode cX4_weight 29 = .ok (.ireturn, 1) := by decide +kernel
def wp_X4_weight_J14 (fu : Nat) (σ : SX) (x1 : Int32) (P : Int32 → SX → Prop) (t1_14 : Int32) : Prop := (wp_X4_fails σ t1_14 (fun r14 s14 => ((r14 = 0 → (wp_X4_weightOf fu s14 x1 (fun r26 => (P r26 s14)))) ∧ (¬ r14 = 0 → (P 0 s14)))))
def wp_X4_weight (fu : Nat) (σ : SX) (x1 : Int32) (P : Int32 → SX → Prop) : Prop := (wp_X4_isPosition σ x1 (fun r3 => ((r3 = 0 → (wp_X4_weight_J14 fu σ x1 P 1)) ∧ (¬ r3 = 0 → (wp_X4_weight_J14 fu σ x1 P 0)))))
theorem k_X4_weight : KV RX4 yX4_weight cX4_weight 2 (some .int) 1 := ⟨q1669, q1670, q5, q1671, by decide +kernel⟩
set_option maxHeartbeats 4000000 in
set_option maxRecDepth 100000 in
theorem m_X4_weight (l : Launch) (dC : Nat → ClassId) (dI : Nat → Nat → Nat) (h : Nat → Nat) (cy : Nat → ClassId) (sz : Nat) (fu : Nat) (σ : SX) (x1 : Int32) (P : Int32 → SX → Prop) (hF : wp_X4_weight fu σ x1 P) : Met l yX4_weight (ws_ yX4_weight cX4_weight 2 (some .int)) ({ frames := 2, cells := 0, slots := 0, locals := 44 } : Room) (va_Pc [.ref (h 0), .int x1] (fun U => U.heap.size = sz ∧ va_P (dC, dI) classes (wC h cy σ) U.heap ∧ kwX dC dI cy U ∧ va_D (fun _ => True) (wC h cy σ))) (va_Qi (fun r u => P r u) (fun (u : SX) t => va_P (dC, dI) classes (wC h cy u) t.heap ∧ kwX dC dI cy t ∧ va_D (va_A (wC h cy σ) sz) (wC h cy u)) (va_A (wC h cy σ) sz)) 0 0 (va_A (wC h cy σ) sz) := by
  refine Met.ofCx (own := RX4) (by decide) rfl (Nat.le_of_ble_eq_true rfl) ?_
  intro p e s m below meth c hC hv ls hl
  obtain ⟨hx, hb, hr, hml, hown, hts, hlocks⟩ := hC
  have hl : lv_has ls 2 [(0, .ref (h 0)), (1, .int x1)] := hl
  obtain ⟨hsz, hP, hK, hD0⟩ := hv
  subst hsz
  have hD := hD0.self (sz := s.heap.size)
  generalize hAe : va_A (wC h cy σ) s.heap.size = A at hD ⊢
  have hA : ∀ q : Nat, s.heap.size ≤ q → A q := fun q h => by rw [← hAe]; exact Or.inr h
  have hS : va_S A s.heap s.heap [] := va_S.rf
  clear hAe
  unfold wp_X4_weight at hF
  refine lv_aload_n hx hb dX4_weight_0 rfl (lv_at hl 0 rfl) ?_
  refine lv_aload_n hx hb dX4_weight_1 rfl (lv_at hl 0 rfl) ?_
  refine lv_iload_n hx hb dX4_weight_2 rfl (lv_at hl 1 rfl) ?_
  refine cpVi (q0 := 0) (As := [.int x1]) (rest := [.ref (h 0)]) ⟨hx, hb, hr, hml, hown, hts, hlocks⟩ hK hP rfl rfl (m_X4_isPosition l dC dI h cy σ x1 _ hF) k_X4_isPosition q1190 ⟨rfl, rfl⟩ ⟨Nat.le_of_ble_eq_true rfl, Nat.le_of_ble_eq_true rfl⟩ hl.1 rfl rfl (Nat.le_of_ble_eq_true rfl) dX4_weight_3 ⟨Nat.le_of_ble_eq_true rfl, Nat.le_of_ble_eq_true rfl⟩ (fun r3 hF => ?_)
  have hJ14 : ∀ (t1_14 : Int32), wp_X4_weight_J14 fu σ x1 P t1_14 → ∀ (H : Heap) (locs : List Loc), va_P (dC, dI) classes (wC h cy σ) H → va_D A (wC h cy σ) → va_S A s.heap H locs → ∀ (ls : Array Slot), lv_has ls 2 [(0, .ref (h 0)), (1, .int x1)] → W p l e ({ frames := 2, cells := 0, slots := 0, locals := 44 } : Room) s m ([.ref (h 0), .int x1] : List Value).toArray below meth c H locs 0 0 (MQ below (va_Qi (fun r u => P r u) (fun (u : SX) t => va_P (dC, dI) classes (wC h cy u) t.heap ∧ kwX dC dI cy t ∧ va_D A (wC h cy u)) A) ([.ref (h 0), .int x1] : List Value).toArray s 0 0 A) (F0 m 14 ls [.int t1_14, .ref (h 0)]) := by
    intro t1_14 hF H locs hP hD hS ls hl
    unfold wp_X4_weight_J14 at hF
    have hFc := va_free (wc := wC h cy σ) hD hS hA [0, 1, 2, 3, 4, 5, 6, 7, 8, 9] rfl
    refine cwVi (q0 := 0) (As := [.int t1_14]) (rest := []) ⟨hx, hb, hr, hml, hown, hts, hlocks⟩ hK hP hD rfl rfl hS hFc (m_X4_fails l dC dI h cy _ σ t1_14 _ hF) k_X4_fails q1102 ⟨rfl, rfl⟩ ⟨Nat.le_of_ble_eq_true rfl, Nat.le_of_ble_eq_true rfl⟩ hl.1 rfl rfl (Nat.le_of_ble_eq_true rfl) dX4_weight_14 ⟨Nat.le_of_ble_eq_true rfl, Nat.le_of_ble_eq_true rfl⟩ (fun r14 u H1 locs hF hP1 hD1 hk1 hS => ?_)
    obtain ⟨s14, rfl⟩ : ∃ z, z = u := ⟨_, rfl⟩
    have hP := hP1
    have hD := hD1.weaken (fun _ q _ h => hFc q.1 h)
    generalize H1 = H at hP hS ⊢
    have hP : va_P (dC, dI) classes (wC h cy s14) H := hP
    have hD : va_D A (wC h cy s14) := hD
    refine lv_if_eq (tgt := 24) hx hb dX4_weight_17 (by decide) (fun cz => ?_) (fun cz => ?_)
    · have hF := hF.1 cz
      refine lv_aload_n hx hb dX4_weight_24 rfl (lv_at hl 0 rfl) ?_
      refine lv_iload_n hx hb dX4_weight_25 rfl (lv_at hl 1 rfl) ?_
      refine cpVi (q0 := 0) (As := [.int x1]) (rest := []) ⟨hx, hb, hr, hml, hown, hts, hlocks⟩ hK hP rfl rfl (m_X4_weightOf l dC dI h cy fu s14 x1 _ hF) k_X4_weightOf q1672 ⟨rfl, rfl⟩ ⟨Nat.le_of_ble_eq_true rfl, Nat.le_of_ble_eq_true rfl⟩ hl.1 rfl rfl (Nat.le_of_ble_eq_true rfl) dX4_weight_26 ⟨Nat.le_of_ble_eq_true rfl, Nat.le_of_ble_eq_true rfl⟩ (fun r26 hF => ?_)
      exact W.iret (v := r26) hx hb hr (fun t ht hW => ⟨⟨r26, s14, rfl, hF, by rw [ht]; exact hP, hK.warm hW, hD⟩, hS.F ht⟩) hS.2.2 dX4_weight_29
    · have hF := hF.2 cz
      refine lv_iconst (v := 0) hx hb dX4_weight_20 (by decide) ?_
      refine lv_goto (tgt := 29) hx hb dX4_weight_21 (by decide) ?_
      exact W.iret (v := 0) hx hb hr (fun t ht hW => ⟨⟨0, s14, rfl, hF, by rw [ht]; exact hP, hK.warm hW, hD⟩, hS.F ht⟩) hS.2.2 dX4_weight_29
  refine lv_if_eq (tgt := 13) hx hb dX4_weight_6 (by decide) (fun cz => ?_) (fun cz => ?_)
  · have hF := hF.1 cz
    refine lv_iconst (v := 1) hx hb dX4_weight_13 (by decide) ?_
    exact hJ14 1 hF _ _ hP hD hS _ (lv_sub hl [0, 1] rfl)
  · have hF := hF.2 cz
    refine lv_iconst (v := 0) hx hb dX4_weight_9 (by decide) ?_
    refine lv_goto (tgt := 14) hx hb dX4_weight_10 (by decide) ?_
    exact hJ14 0 hF _ _ hP hD hS _ (lv_sub hl [0, 1] rfl)
theorem dX4_wider_0 : decode cX4_wider 0 = .ok (.iload_n 0, 1) := by decide +kernel
theorem dX4_wider_1 : decode cX4_wider 1 = .ok (.iconst 1, 1) := by decide +kernel
theorem dX4_wider_2 : decode cX4_wider 2 = .ok (.iload_n 1, 1) := by decide +kernel
theorem dX4_wider_3 : decode cX4_wider 3 = .ok (.ishl, 1) := by decide +kernel
theorem dX4_wider_4 : decode cX4_wider 4 = .ok (.iconst 1, 1) := by decide +kernel
theorem dX4_wider_5 : decode cX4_wider 5 = .ok (.isub, 1) := by decide +kernel
theorem dX4_wider_6 : decode cX4_wider 6 = .ok (.iand, 1) := by decide +kernel
theorem dX4_wider_7 : decode cX4_wider 7 = .ok (.iload_n 0, 1) := by decide +kernel
theorem dX4_wider_8 : decode cX4_wider 8 = .ok (.iload_n 1, 1) := by decide +kernel
theorem dX4_wider_9 : decode cX4_wider 9 = .ok (.ishr, 1) := by decide +kernel
theorem dX4_wider_10 : decode cX4_wider 10 = .ok (.iload_n 1, 1) := by decide +kernel
theorem dX4_wider_11 : decode cX4_wider 11 = .ok (.iconst 1, 1) := by decide +kernel
theorem dX4_wider_12 : decode cX4_wider 12 = .ok (.iadd, 1) := by decide +kernel
theorem dX4_wider_13 : decode cX4_wider 13 = .ok (.ishl, 1) := by decide +kernel
theorem dX4_wider_14 : decode cX4_wider 14 = .ok (.ior, 1) := by decide +kernel
theorem dX4_wider_15 : decode cX4_wider 15 = .ok (.ireturn, 1) := by decide +kernel
def wp_X4_wider (x0 : Int32) (x1 : Int32) (P : Int32 → Prop) : Prop := (P ((x0 &&& (((1 : Int32) <<< (x1 &&& 31)) - 1)) ||| ((x0 >>> (x1 &&& 31)) <<< ((x1 + 1) &&& 31))))
theorem k_X4_wider : KS yX4_wider cX4_wider 2 (some .int) 2 := ⟨q1135, q5, q1136, by decide +kernel⟩
set_option maxHeartbeats 4000000 in
set_option maxRecDepth 100000 in
theorem m_X4_wider (l : Launch) (x0 : Int32) (x1 : Int32) (P : Int32 → Prop) (hF : wp_X4_wider x0 x1 P) : Met l yX4_wider (ws_ yX4_wider cX4_wider 2 (some .int)) ({ frames := 0, cells := 0, slots := 0, locals := 0 } : Room) (va_Pc [.int x0, .int x1] (fun _ => True)) (vp_Si P) 0 0 (fun _ => False) := by
  refine Met.ofCx (own := RX4) (by decide) rfl (Nat.le_of_ble_eq_true rfl) ?_
  intro p e s m below meth c hC hv ls hl
  obtain ⟨hx, hb, hr, hml, hown, hts, hlocks⟩ := hC
  have hl : lv_has ls 2 [(0, .int x0), (1, .int x1)] := hl
  unfold wp_X4_wider at hF
  refine lv_iload_n hx hb dX4_wider_0 rfl (lv_at hl 0 rfl) ?_
  refine lv_iconst (v := 1) hx hb dX4_wider_1 (by decide) ?_
  refine lv_iload_n hx hb dX4_wider_2 rfl (lv_at hl 1 rfl) ?_
  refine lv_ishl hx hb dX4_wider_3 ?_
  refine lv_iconst (v := 1) hx hb dX4_wider_4 (by decide) ?_
  refine lv_isub hx hb dX4_wider_5 ?_
  refine lv_iand hx hb dX4_wider_6 ?_
  refine lv_iload_n hx hb dX4_wider_7 rfl (lv_at hl 0 rfl) ?_
  refine lv_iload_n hx hb dX4_wider_8 rfl (lv_at hl 1 rfl) ?_
  refine lv_ishr hx hb dX4_wider_9 ?_
  refine lv_iload_n hx hb dX4_wider_10 rfl (lv_at hl 1 rfl) ?_
  refine lv_iconst (v := 1) hx hb dX4_wider_11 (by decide) ?_
  refine lv_iadd hx hb dX4_wider_12 ?_
  refine lv_ishl hx hb dX4_wider_13 ?_
  refine lv_ior hx hb dX4_wider_14 ?_
  exact W.iret (v := (x0 &&& (((1 : Int32) <<< (x1 &&& 31)) - 1)) ||| ((x0 >>> (x1 &&& 31)) <<< ((x1 + 1) &&& 31))) hx hb hr (fun t ht hW => ⟨(x0 &&& (((1 : Int32) <<< (x1 &&& 31)) - 1)) ||| ((x0 >>> (x1 &&& 31)) <<< ((x1 + 1) &&& 31)), rfl, hF, ht⟩) (fun q hq => absurd hq List.not_mem_nil) dX4_wider_15
theorem dX4_winning_0 : decode cX4_winning 0 = .ok (.aload_n 0, 1) := by decide +kernel
theorem dX4_winning_1 : decode cX4_winning 1 = .ok (.invokevirtual 253, 3) := by decide +kernel
theorem dX4_winning_4 : decode cX4_winning 4 = .ok (.iconst 0, 1) := by decide +kernel
theorem dX4_winning_5 : decode cX4_winning 5 = .ok (.istore_n 1, 1) := by decide +kernel
theorem dX4_winning_6 : decode cX4_winning 6 = .ok (.iload_n 1, 1) := by decide +kernel
theorem dX4_winning_7 : decode cX4_winning 7 = .ok (.aload_n 0, 1) := by decide +kernel
theorem dX4_winning_8 : decode cX4_winning 8 = .ok (.getfield 71, 3) := by decide +kernel
theorem dX4_winning_11 : decode cX4_winning 11 = .ok (.if_icmp .ge 49, 3) := by decide +kernel
theorem dX4_winning_14 : decode cX4_winning 14 = .ok (.aload_n 0, 1) := by decide +kernel
theorem dX4_winning_15 : decode cX4_winning 15 = .ok (.aload_n 0, 1) := by decide +kernel
theorem dX4_winning_16 : decode cX4_winning 16 = .ok (.getfield 120, 3) := by decide +kernel
theorem dX4_winning_19 : decode cX4_winning 19 = .ok (.iload_n 1, 1) := by decide +kernel
theorem dX4_winning_20 : decode cX4_winning 20 = .ok (.invokevirtual 159, 3) := by decide +kernel
theorem dX4_winning_23 : decode cX4_winning 23 = .ok (.ifCond .eq 31, 3) := by decide +kernel
theorem dX4_winning_26 : decode cX4_winning 26 = .ok (.aload_n 0, 1) := by decide +kernel
theorem dX4_winning_27 : decode cX4_winning 27 = .ok (.getfield 49, 3) := by decide +kernel
theorem dX4_winning_30 : decode cX4_winning 30 = .ok (.aload_n 0, 1) := by decide +kernel
theorem dX4_winning_31 : decode cX4_winning 31 = .ok (.aload_n 0, 1) := by decide +kernel
theorem dX4_winning_32 : decode cX4_winning 32 = .ok (.getfield 120, 3) := by decide +kernel
theorem dX4_winning_35 : decode cX4_winning 35 = .ok (.iload_n 1, 1) := by decide +kernel
theorem dX4_winning_36 : decode cX4_winning 36 = .ok (.invokevirtual 166, 3) := by decide +kernel
theorem dX4_winning_39 : decode cX4_winning 39 = .ok (.iaload, 1) := by decide +kernel
theorem dX4_winning_40 : decode cX4_winning 40 = .ok (.ifCond .ne 14, 3) := by decide +kernel
theorem dX4_winning_43 : decode cX4_winning 43 = .ok (.aload_n 0, 1) := by decide +kernel
theorem dX4_winning_44 : decode cX4_winning 44 = .ok (.iconst 0, 1) := by decide +kernel
theorem dX4_winning_45 : decode cX4_winning 45 = .ok (.putfield 60, 3) := by decide +kernel
theorem dX4_winning_48 : decode cX4_winning 48 = .ok (.aload_n 0, 1) := by decide +kernel
theorem dX4_winning_49 : decode cX4_winning 49 = .ok (.iload_n 1, 1) := by decide +kernel
theorem dX4_winning_50 : decode cX4_winning 50 = .ok (.invokevirtual 191, 3) := by decide +kernel
theorem dX4_winning_53 : decode cX4_winning 53 = .ok (.ireturn, 1) := by decide +kernel
theorem dX4_winning_54 : decode cX4_winning 54 = .ok (.iinc 1 1, 3) := by decide +kernel
theorem dX4_winning_57 : decode cX4_winning 57 = .ok (.goto (-51), 3) := by decide +kernel
theorem dX4_winning_60 : decode cX4_winning 60 = .ok (.aload_n 0, 1) := by decide +kernel
theorem dX4_winning_61 : decode cX4_winning 61 = .ok (.iconst 1, 1) := by decide +kernel
theorem dX4_winning_62 : decode cX4_winning 62 = .ok (.putfield 60, 3) := by decide +kernel
theorem dX4_winning_65 : decode cX4_winning 65 = .ok (.iconst 0, 1) := by decide +kernel
theorem dX4_winning_66 : decode cX4_winning 66 = .ok (.ireturn, 1) := by decide +kernel
def wp_X4_winning_J54 (rec6 : Int32 → Prop) (v1_6 : Int32) : Prop := (rec6 (v1_6 + 1))
def wp_X4_winning_B6 (P : Int32 → SX → Prop) (s1 : SX) (K6 : Prop) (rec6 : Int32 → Prop) (v1_6 : Int32) : Prop := (((s1.1 1) ≤ v1_6 → K6) ∧ (¬ (s1.1 1) ≤ v1_6 → (wp_X4_can s1 (s1.1 2) v1_6 (fun r20 => ((r20 = 0 → wp_X4_winning_J54 rec6 v1_6) ∧ (¬ r20 = 0 → (wp_X4_behind s1 (s1.1 2) v1_6 (fun r36 => (vp_in r36 8192 ∧ ((¬ ((s1.2.1 7) r36.toNatClampNeg) = 0 → wp_X4_winning_J54 rec6 v1_6) ∧ (((s1.2.1 7) r36.toNatClampNeg) = 0 → (wp_X4_codeOf (sI s1 5 0) v1_6 (fun r50 => (P r50 (sI s1 5 0)))))))))))))))
def wp_X4_winning_L6 (P : Int32 → SX → Prop) (s1 : SX) (K6 : Prop) : Nat → Int32 → Prop
  | 0, _ => False
  | nn + 1, v1_6 => wp_X4_winning_B6 P s1 K6 (wp_X4_winning_L6 P s1 K6 nn) v1_6
def wp_X4_winning (fu : Nat) (σ : SX) (P : Int32 → SX → Prop) : Prop := (wp_X4_valueAll fu σ  (fun s1 => (wp_X4_winning_L6 P s1 (P 0 (sI s1 5 1)) fu 0)))
theorem k_X4_winning : KV RX4 yX4_winning cX4_winning 2 (some .int) 0 := ⟨q1733, q1734, q5, q1735, by decide +kernel⟩
set_option maxHeartbeats 4000000 in
set_option maxRecDepth 100000 in
theorem m_X4_winning (l : Launch) (dC : Nat → ClassId) (dI : Nat → Nat → Nat) (h : Nat → Nat) (cy : Nat → ClassId) (sz : Nat) (fu : Nat) (σ : SX) (P : Int32 → SX → Prop) (hF : wp_X4_winning fu σ P) : Met l yX4_winning (ws_ yX4_winning cX4_winning 2 (some .int)) ({ frames := 4, cells := 0, slots := 0, locals := 88 } : Room) (va_Pc [.ref (h 0)] (fun U => U.heap.size = sz ∧ va_P (dC, dI) classes (wC h cy σ) U.heap ∧ kwX dC dI cy U ∧ va_D (fun _ => True) (wC h cy σ))) (va_Qi (fun r u => P r u) (fun (u : SX) t => va_P (dC, dI) classes (wC h cy u) t.heap ∧ kwX dC dI cy t ∧ va_D (va_A (wC h cy σ) sz) (wC h cy u)) (va_A (wC h cy σ) sz)) 0 0 (va_A (wC h cy σ) sz) := by
  refine Met.ofCx (own := RX4) (by decide) rfl (Nat.le_of_ble_eq_true rfl) ?_
  intro p e s m below meth c hC hv ls hl
  obtain ⟨hx, hb, hr, hml, hown, hts, hlocks⟩ := hC
  have hl : lv_has ls 2 [(0, .ref (h 0))] := hl
  obtain ⟨hsz, hP, hK, hD0⟩ := hv
  subst hsz
  have hD := hD0.self (sz := s.heap.size)
  generalize hAe : va_A (wC h cy σ) s.heap.size = A at hD ⊢
  have hA : ∀ q : Nat, s.heap.size ≤ q → A q := fun q h => by rw [← hAe]; exact Or.inr h
  have hS : va_S A s.heap s.heap [] := va_S.rf
  clear hAe
  unfold wp_X4_winning at hF
  refine lv_aload_n hx hb dX4_winning_0 rfl (lv_at hl 0 rfl) ?_
  have hFc := va_free (wc := wC h cy σ) hD hS hA [0, 1, 2, 3, 4, 5, 6, 7, 8, 9] rfl
  refine cwVv (q0 := 0) (As := []) (rest := []) ⟨hx, hb, hr, hml, hown, hts, hlocks⟩ hK hP hD rfl rfl hS hFc (m_X4_valueAll l dC dI h cy _ fu σ  _ hF) k_X4_valueAll q1720 ⟨rfl, rfl⟩ ⟨Nat.le_of_ble_eq_true rfl, Nat.le_of_ble_eq_true rfl⟩ hl.1 rfl rfl (Nat.le_of_ble_eq_true rfl) dX4_winning_1 ⟨Nat.le_of_ble_eq_true rfl, Nat.le_of_ble_eq_true rfl⟩ (fun u H1 locs hF hP1 hD1 hk1 hS => ?_)
  obtain ⟨s1, rfl⟩ : ∃ z, z = u := ⟨_, rfl⟩
  have hP := hP1
  have hD := hD1.weaken (fun _ q _ h => hFc q.1 h)
  generalize H1 = H at hP hS ⊢
  have hP : va_P (dC, dI) classes (wC h cy s1) H := hP
  have hD : va_D A (wC h cy s1) := hD
  refine lv_iconst (v := 0) hx hb dX4_winning_4 (by decide) ?_
  refine lv_istore_n (lv' := [(1, .int 0), (0, .ref (h 0))]) hx hb dX4_winning_5 rfl hl (by decide) rfl (fun ls hl => ?_)
  have hX6 : (P 0 (sI s1 5 1)) → ∀ (H : Heap) (locs : List Loc), va_P (dC, dI) classes (wC h cy s1) H → va_D A (wC h cy s1) → va_S A s.heap H locs → ∀ (ls : Array Slot), lv_has ls 2 [(0, .ref (h 0))] → W p l e ({ frames := 4, cells := 0, slots := 0, locals := 88 } : Room) s m ([.ref (h 0)] : List Value).toArray below meth c H locs 0 0 (MQ below (va_Qi (fun r u => P r u) (fun (u : SX) t => va_P (dC, dI) classes (wC h cy u) t.heap ∧ kwX dC dI cy t ∧ va_D A (wC h cy u)) A) ([.ref (h 0)] : List Value).toArray s 0 0 A) (F0 m 60 ls []) := by
    intro hF H locs hP hD hS ls hl
    refine lv_aload_n hx hb dX4_winning_60 rfl (lv_at hl 0 rfl) ?_
    refine lv_iconst (v := 1) hx hb dX4_winning_61 (by decide) ?_
    refine va_put (D := (dC, dI)) (ci := 4) (v := .int 1) (ty := .int) (C := RX4) (T := TX4) (N := 19) hx hb hts in_X4 tyX4 tyX4_ok nmX4 hown hK.1 hP hD hS 0 rfl rfl 18 (by decide) (hts _ q968) (fun _ h9 => h9) rfl (by decide +kernel) rfl rfl (Nat.le_of_ble_eq_true rfl) dX4_winning_62 (fun H locs hP hD hS => ?_)
    have hP : va_P (dC, dI) classes (wC h cy (sI s1 5 1)) H := hP
    have hD : va_D A (wC h cy (sI s1 5 1)) := hD
    refine lv_iconst (v := 0) hx hb dX4_winning_65 (by decide) ?_
    exact W.iret (v := 0) hx hb hr (fun t ht hW => ⟨⟨0, sI s1 5 1, rfl, hF, by rw [ht]; exact hP, hK.warm hW, hD⟩, hS.F ht⟩) hS.2.2 dX4_winning_66
  have hL6 : ∀ (K6 : Prop), (K6 → ∀ (H : Heap) (locs : List Loc), va_P (dC, dI) classes (wC h cy s1) H → va_D A (wC h cy s1) → va_S A s.heap H locs → ∀ (ls : Array Slot), lv_has ls 2 [(0, .ref (h 0))] → W p l e ({ frames := 4, cells := 0, slots := 0, locals := 88 } : Room) s m ([.ref (h 0)] : List Value).toArray below meth c H locs 0 0 (MQ below (va_Qi (fun r u => P r u) (fun (u : SX) t => va_P (dC, dI) classes (wC h cy u) t.heap ∧ kwX dC dI cy t ∧ va_D A (wC h cy u)) A) ([.ref (h 0)] : List Value).toArray s 0 0 A) (F0 m 60 ls [])) → ∀ (nn : Nat), ∀ (v1_6 : Int32), wp_X4_winning_L6 P s1 K6 nn v1_6 → ∀ (H : Heap) (locs : List Loc), va_P (dC, dI) classes (wC h cy s1) H → va_D A (wC h cy s1) → va_S A s.heap H locs → ∀ (ls : Array Slot), lv_has ls 2 [(1, .int v1_6), (0, .ref (h 0))] → W p l e ({ frames := 4, cells := 0, slots := 0, locals := 88 } : Room) s m ([.ref (h 0)] : List Value).toArray below meth c H locs 0 0 (MQ below (va_Qi (fun r u => P r u) (fun (u : SX) t => va_P (dC, dI) classes (wC h cy u) t.heap ∧ kwX dC dI cy t ∧ va_D A (wC h cy u)) A) ([.ref (h 0)] : List Value).toArray s 0 0 A) (F0 m 6 ls []) := by
    intro K6 hX6 nn
    induction nn with
    | zero =>
      intro v1_6 hF
      exact hF.elim
    | succ nn ih =>
      intro v1_6 hF H locs hP hD hS ls hl
      obtain ⟨rec6, hrec⟩ : ∃ z : Int32 → Prop, z = wp_X4_winning_L6 P s1 K6 nn := ⟨_, rfl⟩
      have hF : wp_X4_winning_B6 P s1 K6 rec6 v1_6 := by rw [hrec]; exact hF
      rw [← hrec] at ih
      clear hrec
      unfold wp_X4_winning_B6 at hF
      refine lv_iload_n hx hb dX4_winning_6 rfl (lv_at hl 0 rfl) ?_
      refine lv_aload_n hx hb dX4_winning_7 rfl (lv_at hl 1 rfl) ?_
      refine va_get (D := (dC, dI)) (ci := 4) (v := .int (s1.1 1)) (C := RX4) (T := TX4) (N := 19) hx hb hts in_X4 hown hK.1 hP 0 rfl rfl 14 (by decide) (hts _ q964) (fun _ h9 => h9) rfl dX4_winning_8 ?_
      refine lv_icmp_ge (tgt := 60) hx hb dX4_winning_11 (by decide) (fun cz => ?_) (fun cz => ?_)
      · have hF := hF.1 cz
        exact hX6 hF _ _ hP hD hS _ (lv_sub hl [1] rfl)
      · have hF := hF.2 cz
        refine lv_aload_n hx hb dX4_winning_14 rfl (lv_at hl 1 rfl) ?_
        refine lv_aload_n hx hb dX4_winning_15 rfl (lv_at hl 1 rfl) ?_
        refine va_get (D := (dC, dI)) (ci := 4) (v := .int (s1.1 2)) (C := RX4) (T := TX4) (N := 19) hx hb hts in_X4 hown hK.1 hP 0 rfl rfl 15 (by decide) (hts _ q965) (fun _ h9 => h9) rfl dX4_winning_16 ?_
        refine lv_iload_n hx hb dX4_winning_19 rfl (lv_at hl 0 rfl) ?_
        refine cpVi (q0 := 0) (As := [.int (s1.1 2), .int v1_6]) (rest := []) ⟨hx, hb, hr, hml, hown, hts, hlocks⟩ hK hP rfl rfl (m_X4_can l dC dI h cy s1 (s1.1 2) v1_6 _ hF) k_X4_can q1214 ⟨rfl, rfl⟩ ⟨Nat.le_of_ble_eq_true rfl, Nat.le_of_ble_eq_true rfl⟩ hl.1 rfl rfl (Nat.le_of_ble_eq_true rfl) dX4_winning_20 ⟨Nat.le_of_ble_eq_true rfl, Nat.le_of_ble_eq_true rfl⟩ (fun r20 hF => ?_)
        have hJ54 : wp_X4_winning_J54 rec6 v1_6 → ∀ (H : Heap) (locs : List Loc), va_P (dC, dI) classes (wC h cy s1) H → va_D A (wC h cy s1) → va_S A s.heap H locs → ∀ (ls : Array Slot), lv_has ls 2 [(1, .int v1_6), (0, .ref (h 0))] → W p l e ({ frames := 4, cells := 0, slots := 0, locals := 88 } : Room) s m ([.ref (h 0)] : List Value).toArray below meth c H locs 0 0 (MQ below (va_Qi (fun r u => P r u) (fun (u : SX) t => va_P (dC, dI) classes (wC h cy u) t.heap ∧ kwX dC dI cy t ∧ va_D A (wC h cy u)) A) ([.ref (h 0)] : List Value).toArray s 0 0 A) (F0 m 54 ls []) := by
          intro hF H locs hP hD hS ls hl
          unfold wp_X4_winning_J54 at hF
          refine lv_iinc (v := v1_6 + 1) (lv' := [(1, .int (v1_6 + 1)), (0, .ref (h 0))]) hx hb dX4_winning_54 hl (k := 0) rfl (by rfl) (by decide) rfl (fun ls hl => ?_)
          refine lv_goto (tgt := 6) hx hb dX4_winning_57 (by decide) ?_
          exact ih (v1_6 + 1) hF _ _ hP hD hS _ (lv_sub hl [0, 1] rfl)
        refine lv_if_eq (tgt := 54) hx hb dX4_winning_23 (by decide) (fun cz => ?_) (fun cz => ?_)
        · have hF := hF.1 cz
          exact hJ54 hF _ _ hP hD hS _ (lv_sub hl [0, 1] rfl)
        · have hF := hF.2 cz
          refine lv_aload_n hx hb dX4_winning_26 rfl (lv_at hl 1 rfl) ?_
          refine va_get (D := (dC, dI)) (ci := 4) (v := .ref (h 9)) (C := RX4) (T := TX4) (N := 19) hx hb hts in_X4 hown hK.1 hP 0 rfl rfl 11 (by decide) (hts _ q961) (fun _ h9 => h9) rfl dX4_winning_27 ?_
          refine lv_aload_n hx hb dX4_winning_30 rfl (lv_at hl 1 rfl) ?_
          refine lv_aload_n hx hb dX4_winning_31 rfl (lv_at hl 1 rfl) ?_
          refine va_get (D := (dC, dI)) (ci := 4) (v := .int (s1.1 2)) (C := RX4) (T := TX4) (N := 19) hx hb hts in_X4 hown hK.1 hP 0 rfl rfl 15 (by decide) (hts _ q965) (fun _ h9 => h9) rfl dX4_winning_32 ?_
          refine lv_iload_n hx hb dX4_winning_35 rfl (lv_at hl 0 rfl) ?_
          refine cpVi (q0 := 0) (As := [.int (s1.1 2), .int v1_6]) (rest := [.ref (h 9)]) ⟨hx, hb, hr, hml, hown, hts, hlocks⟩ hK hP rfl rfl (m_X4_behind l dC dI h cy s1 (s1.1 2) v1_6 _ hF) k_X4_behind q1230 ⟨rfl, rfl⟩ ⟨Nat.le_of_ble_eq_true rfl, Nat.le_of_ble_eq_true rfl⟩ hl.1 rfl rfl (Nat.le_of_ble_eq_true rfl) dX4_winning_36 ⟨Nat.le_of_ble_eq_true rfl, Nat.le_of_ble_eq_true rfl⟩ (fun r36 hF => ?_)
          have hI := hF.1
          have hF := hF.2
          refine va_iald hx hb hK.1 hP 9 0 rfl rfl hI dX4_winning_39 ?_
          refine lv_if_ne (tgt := 54) hx hb dX4_winning_40 (by decide) (fun cz => ?_) (fun cz => ?_)
          · have hF := hF.1 cz
            exact hJ54 hF _ _ hP hD hS _ (lv_sub hl [0, 1] rfl)
          · have hF := hF.2 cz
            refine lv_aload_n hx hb dX4_winning_43 rfl (lv_at hl 1 rfl) ?_
            refine lv_iconst (v := 0) hx hb dX4_winning_44 (by decide) ?_
            refine va_put (D := (dC, dI)) (ci := 4) (v := .int 0) (ty := .int) (C := RX4) (T := TX4) (N := 19) hx hb hts in_X4 tyX4 tyX4_ok nmX4 hown hK.1 hP hD hS 0 rfl rfl 18 (by decide) (hts _ q968) (fun _ h9 => h9) rfl (by decide +kernel) rfl rfl (Nat.le_of_ble_eq_true rfl) dX4_winning_45 (fun H locs hP hD hS => ?_)
            have hP : va_P (dC, dI) classes (wC h cy (sI s1 5 0)) H := hP
            have hD : va_D A (wC h cy (sI s1 5 0)) := hD
            refine lv_aload_n hx hb dX4_winning_48 rfl (lv_at hl 1 rfl) ?_
            refine lv_iload_n hx hb dX4_winning_49 rfl (lv_at hl 0 rfl) ?_
            refine cpVi (q0 := 0) (As := [.int v1_6]) (rest := []) ⟨hx, hb, hr, hml, hown, hts, hlocks⟩ hK hP rfl rfl (m_X4_codeOf l dC dI h cy (sI s1 5 0) v1_6 _ hF) k_X4_codeOf q1332 ⟨rfl, rfl⟩ ⟨Nat.le_of_ble_eq_true rfl, Nat.le_of_ble_eq_true rfl⟩ hl.1 rfl rfl (Nat.le_of_ble_eq_true rfl) dX4_winning_50 ⟨Nat.le_of_ble_eq_true rfl, Nat.le_of_ble_eq_true rfl⟩ (fun r50 hF => ?_)
            exact W.iret (v := r50) hx hb hr (fun t ht hW => ⟨⟨r50, sI s1 5 0, rfl, hF, by rw [ht]; exact hP, hK.warm hW, hD⟩, hS.F ht⟩) hS.2.2 dX4_winning_53
  exact hL6 _ hX6 fu 0 hF _ _ hP hD hS _ (lv_sub hl [0, 1] rfl)
