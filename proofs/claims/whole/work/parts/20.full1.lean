theorem dJ7_fill_53178_0 : decode cJ7_fill_53178 0 = .ok (.iconst 0, 1) := by decide +kernel
theorem dJ7_fill_53178_1 : decode cJ7_fill_53178 1 = .ok (.istore_n 2, 1) := by decide +kernel
theorem dJ7_fill_53178_2 : decode cJ7_fill_53178 2 = .ok (.aload_n 0, 1) := by decide +kernel
theorem dJ7_fill_53178_3 : decode cJ7_fill_53178 3 = .ok (.arraylength, 1) := by decide +kernel
theorem dJ7_fill_53178_4 : decode cJ7_fill_53178 4 = .ok (.istore_n 3, 1) := by decide +kernel
theorem dJ7_fill_53178_5 : decode cJ7_fill_53178 5 = .ok (.iload_n 2, 1) := by decide +kernel
theorem dJ7_fill_53178_6 : decode cJ7_fill_53178 6 = .ok (.iload_n 3, 1) := by decide +kernel
theorem dJ7_fill_53178_7 : decode cJ7_fill_53178 7 = .ok (.if_icmp .ge 13, 3) := by decide +kernel
theorem dJ7_fill_53178_10 : decode cJ7_fill_53178 10 = .ok (.aload_n 0, 1) := by decide +kernel
theorem dJ7_fill_53178_11 : decode cJ7_fill_53178 11 = .ok (.iload_n 2, 1) := by decide +kernel
theorem dJ7_fill_53178_12 : decode cJ7_fill_53178 12 = .ok (.iload_n 1, 1) := by decide +kernel
theorem dJ7_fill_53178_13 : decode cJ7_fill_53178 13 = .ok (.iastore, 1) := by decide +kernel
theorem dJ7_fill_53178_14 : decode cJ7_fill_53178 14 = .ok (.iinc 2 1, 3) := by decide +kernel
theorem dJ7_fill_53178_17 : decode cJ7_fill_53178 17 = .ok (.goto (-12), 3) := by decide +kernel
theorem dJ7_fill_53178_20 : decode cJ7_fill_53178 20 = .ok (.return_, 1) := by decide +kernel
def wp_J7_fill_53178_B5 (cap : Nat) (x1 : Int32) (K5 : (Nat → Int32) → Prop) (rec5 : Int32 → (Nat → Int32) → Prop) (v2_5 : Int32) (f_5 : Nat → Int32) : Prop := (((Int32.ofNat cap) ≤ v2_5 → (K5 f_5)) ∧ (¬ (Int32.ofNat cap) ≤ v2_5 → (vp_in v2_5 cap ∧ (rec5 (v2_5 + 1) (upd f_5 v2_5.toNatClampNeg x1)))))
def wp_J7_fill_53178_L5 (cap : Nat) (x1 : Int32) (K5 : (Nat → Int32) → Prop) : Nat → Int32 → (Nat → Int32) → Prop
  | 0, _, _ => False
  | nn + 1, v2_5, f_5 => wp_J7_fill_53178_B5 cap x1 K5 (wp_J7_fill_53178_L5 cap x1 K5 nn) v2_5 f_5
def wp_J7_fill_53178 (fu : Nat) (cap : Nat) (f : Nat → Int32) (x1 : Int32) (P : (Nat → Int32) → Prop) : Prop := (wp_J7_fill_53178_L5 cap x1 (fun (f_20 : Nat → Int32) => (P f_20)) fu 0 f)
theorem k_J7_fill_53178 : KS yJ7_fill_53178 cJ7_fill_53178 4 none 2 := ⟨q1142, q23, q1143, by decide +kernel⟩
set_option maxHeartbeats 4000000 in
set_option maxRecDepth 100000 in
theorem m_J7_fill_53178 (l : Launch) (dC : Nat → ClassId) (dI : Nat → Nat → Nat) (h0 : Nat) (cy : Nat → ClassId) (sz : Nat) (fu : Nat) (cap : Nat) (f : Nat → Int32) (x1 : Int32) (P : (Nat → Int32) → Prop) (hF : wp_J7_fill_53178 fu cap f x1 P) : Met l yJ7_fill_53178 (ws_ yJ7_fill_53178 cJ7_fill_53178 4 none) ({ frames := 0, cells := 0, slots := 0, locals := 0 } : Room) (va_Pc [.ref h0, .int x1] (fun U => U.heap.size = sz ∧ va_P (dC, dI) classes (wI1 h0 cy cap f) U.heap ∧ kwX dC dI cy U ∧ va_D (fun _ => True) (wI1 h0 cy cap f))) (va_Qv (fun u => P u) (fun (u : Nat → Int32) t => va_P (dC, dI) classes (wI1 h0 cy cap u) t.heap ∧ kwX dC dI cy t ∧ va_D (va_A (wI1 h0 cy cap f) sz) (wI1 h0 cy cap u)) (va_A (wI1 h0 cy cap f) sz)) 0 0 (va_A (wI1 h0 cy cap f) sz) := by
  refine Met.ofCx (own := RJ7) (by decide) rfl (Nat.le_of_ble_eq_true rfl) ?_
  intro p e s m below meth c hC hv ls hl
  obtain ⟨hx, hb, hr, hml, hown, hts, hlocks⟩ := hC
  have hl : lv_has ls 4 [(0, .ref h0), (1, .int x1)] := hl
  obtain ⟨hsz, hP, hK, hD0⟩ := hv
  subst hsz
  have hD := hD0.self (sz := s.heap.size)
  generalize hAe : va_A (wI1 h0 cy cap f) s.heap.size = A at hD ⊢
  have hA : ∀ q : Nat, s.heap.size ≤ q → A q := fun q h => by rw [← hAe]; exact Or.inr h
  have hS : va_S A s.heap s.heap [] := va_S.rf
  clear hAe
  unfold wp_J7_fill_53178 at hF
  refine lv_iconst (v := 0) hx hb dJ7_fill_53178_0 (by decide) ?_
  refine lv_istore_n (lv' := [(2, .int 0), (0, .ref h0), (1, .int x1)]) hx hb dJ7_fill_53178_1 rfl hl (by decide) rfl (fun ls hl => ?_)
  refine lv_aload_n hx hb dJ7_fill_53178_2 rfl (lv_at hl 1 rfl) ?_
  refine va_alen hx hb hK.1 hP 0 0 rfl rfl (v := Int32.ofNat cap) (by rfl) dJ7_fill_53178_3 ?_
  refine lv_istore_n (lv' := [(3, .int (Int32.ofNat cap)), (2, .int 0), (0, .ref h0), (1, .int x1)]) hx hb dJ7_fill_53178_4 rfl hl (by decide) rfl (fun ls hl => ?_)
  have hX5 : ∀ (f_20 : Nat → Int32), (fun (f_20 : Nat → Int32) => (P f_20)) f_20 → ∀ (H : Heap) (locs : List Loc), va_P (dC, dI) classes (wI1 h0 cy cap f_20) H → va_D A (wI1 h0 cy cap f_20) → va_S A s.heap H locs → ∀ (ls : Array Slot), lv_has ls 4 [] → W p l e ({ frames := 0, cells := 0, slots := 0, locals := 0 } : Room) s m ([.ref h0, .int x1] : List Value).toArray below meth c H locs 0 0 (MQ below (va_Qv (fun u => P u) (fun (u : Nat → Int32) t => va_P (dC, dI) classes (wI1 h0 cy cap u) t.heap ∧ kwX dC dI cy t ∧ va_D A (wI1 h0 cy cap u)) A) ([.ref h0, .int x1] : List Value).toArray s 0 0 A) (F0 m 20 ls []) := by
    intro f_20 hF H locs hP hD hS ls hl
    exact W.vret hx hb hr (fun t ht hW => ⟨⟨f_20, rfl, hF, by rw [ht]; exact hP, hK.warm hW, hD⟩, hS.F ht⟩) hS.2.2 dJ7_fill_53178_20
  have hL5 : ∀ (K5 : (Nat → Int32) → Prop), (∀ (f_20 : Nat → Int32), K5 f_20 → ∀ (H : Heap) (locs : List Loc), va_P (dC, dI) classes (wI1 h0 cy cap f_20) H → va_D A (wI1 h0 cy cap f_20) → va_S A s.heap H locs → ∀ (ls : Array Slot), lv_has ls 4 [] → W p l e ({ frames := 0, cells := 0, slots := 0, locals := 0 } : Room) s m ([.ref h0, .int x1] : List Value).toArray below meth c H locs 0 0 (MQ below (va_Qv (fun u => P u) (fun (u : Nat → Int32) t => va_P (dC, dI) classes (wI1 h0 cy cap u) t.heap ∧ kwX dC dI cy t ∧ va_D A (wI1 h0 cy cap u)) A) ([.ref h0, .int x1] : List Value).toArray s 0 0 A) (F0 m 20 ls [])) → ∀ (nn : Nat), ∀ (v2_5 : Int32), ∀ (f_5 : Nat → Int32), wp_J7_fill_53178_L5 cap x1 K5 nn v2_5 f_5 → ∀ (H : Heap) (locs : List Loc), va_P (dC, dI) classes (wI1 h0 cy cap f_5) H → va_D A (wI1 h0 cy cap f_5) → va_S A s.heap H locs → ∀ (ls : Array Slot), lv_has ls 4 [(3, .int (Int32.ofNat cap)), (2, .int v2_5), (0, .ref h0), (1, .int x1)] → W p l e ({ frames := 0, cells := 0, slots := 0, locals := 0 } : Room) s m ([.ref h0, .int x1] : List Value).toArray below meth c H locs 0 0 (MQ below (va_Qv (fun u => P u) (fun (u : Nat → Int32) t => va_P (dC, dI) classes (wI1 h0 cy cap u) t.heap ∧ kwX dC dI cy t ∧ va_D A (wI1 h0 cy cap u)) A) ([.ref h0, .int x1] : List Value).toArray s 0 0 A) (F0 m 5 ls []) := by
    intro K5 hX5 nn
    induction nn with
    | zero =>
      intro v2_5 f_5 hF
      exact hF.elim
    | succ nn ih =>
      intro v2_5 f_5 hF H locs hP hD hS ls hl
      obtain ⟨rec5, hrec⟩ : ∃ z : Int32 → (Nat → Int32) → Prop, z = wp_J7_fill_53178_L5 cap x1 K5 nn := ⟨_, rfl⟩
      have hF : wp_J7_fill_53178_B5 cap x1 K5 rec5 v2_5 f_5 := by rw [hrec]; exact hF
      rw [← hrec] at ih
      clear hrec
      unfold wp_J7_fill_53178_B5 at hF
      refine lv_iload_n hx hb dJ7_fill_53178_5 rfl (lv_at hl 1 rfl) ?_
      refine lv_iload_n hx hb dJ7_fill_53178_6 rfl (lv_at hl 0 rfl) ?_
      refine lv_icmp_ge (tgt := 20) hx hb dJ7_fill_53178_7 (by decide) (fun cz => ?_) (fun cz => ?_)
      · have hF := hF.1 cz
        exact hX5 f_5 hF _ _ hP hD hS _ (lv_sub hl [] rfl)
      · have hF := hF.2 cz
        refine lv_aload_n hx hb dJ7_fill_53178_10 rfl (lv_at hl 2 rfl) ?_
        refine lv_iload_n hx hb dJ7_fill_53178_11 rfl (lv_at hl 1 rfl) ?_
        refine lv_iload_n hx hb dJ7_fill_53178_12 rfl (lv_at hl 3 rfl) ?_
        have hI := hF.1
        have hF := hF.2
        refine va_iast hx hb hK.1 hP hD hS 0 0 rfl rfl hI dJ7_fill_53178_13 (fun H locs hP hD hS => ?_)
        have hP : va_P (dC, dI) classes (wI1 h0 cy cap (upd f_5 v2_5.toNatClampNeg x1)) H := hP
        have hD : va_D A (wI1 h0 cy cap (upd f_5 v2_5.toNatClampNeg x1)) := hD
        refine lv_iinc (v := v2_5 + 1) (lv' := [(2, .int (v2_5 + 1)), (3, .int (Int32.ofNat cap)), (0, .ref h0), (1, .int x1)]) hx hb dJ7_fill_53178_14 hl (k := 1) rfl (by rfl) (by decide) rfl (fun ls hl => ?_)
        refine lv_goto (tgt := 5) hx hb dJ7_fill_53178_17 (by decide) ?_
        exact ih (v2_5 + 1) (upd f_5 v2_5.toNatClampNeg x1) hF _ _ hP hD hS _ (lv_sub hl [1, 0, 2, 3] rfl)
  exact hL5 _ hX5 fu 0 f hF _ _ hP hD hS _ (lv_sub hl [0, 1, 2, 3] rfl)
theorem dX4_step_0 : decode cX4_step 0 = .ok (.iload_n 0, 1) := by decide +kernel
theorem dX4_step_1 : decode cX4_step 1 = .ok (.iconst 5, 1) := by decide +kernel
theorem dX4_step_2 : decode cX4_step 2 = .ok (.idiv, 1) := by decide +kernel
theorem dX4_step_3 : decode cX4_step 3 = .ok (.getstatic 86, 3) := by decide +kernel
theorem dX4_step_6 : decode cX4_step 6 = .ok (.iload_n 1, 1) := by decide +kernel
theorem dX4_step_7 : decode cX4_step 7 = .ok (.iaload, 1) := by decide +kernel
theorem dX4_step_8 : decode cX4_step 8 = .ok (.iadd, 1) := by decide +kernel
theorem dX4_step_9 : decode cX4_step 9 = .ok (.istore_n 2, 1) := by decide +kernel
theorem dX4_step_10 : decode cX4_step 10 = .ok (.iload_n 0, 1) := by decide +kernel
theorem dX4_step_11 : decode cX4_step 11 = .ok (.iconst 5, 1) := by decide +kernel
theorem dX4_step_12 : decode cX4_step 12 = .ok (.irem, 1) := by decide +kernel
theorem dX4_step_13 : decode cX4_step 13 = .ok (.getstatic 89, 3) := by decide +kernel
theorem dX4_step_16 : decode cX4_step 16 = .ok (.iload_n 1, 1) := by decide +kernel
theorem dX4_step_17 : decode cX4_step 17 = .ok (.iaload, 1) := by decide +kernel
theorem dX4_step_18 : decode cX4_step 18 = .ok (.iadd, 1) := by decide +kernel
theorem dX4_step_19 : decode cX4_step 19 = .ok (.istore_n 3, 1) := by decide +kernel
theorem dX4_step_20 : decode cX4_step 20 = .ok (.iload_n 2, 1) := by decide +kernel
theorem dX4_step_21 : decode cX4_step 21 = .ok (.iconst 0, 1) := by decide +kernel
theorem dX4_step_22 : decode cX4_step 22 = .ok (.iconst 4, 1) := by decide +kernel
theorem dX4_step_23 : decode cX4_step 23 = .ok (.invokestatic 67, 3) := by decide +kernel
theorem dX4_step_26 : decode cX4_step 26 = .ok (.ifCond .eq 20, 3) := by decide +kernel
theorem dX4_step_29 : decode cX4_step 29 = .ok (.iload_n 3, 1) := by decide +kernel
theorem dX4_step_30 : decode cX4_step 30 = .ok (.iconst 0, 1) := by decide +kernel
theorem dX4_step_31 : decode cX4_step 31 = .ok (.iconst 4, 1) := by decide +kernel
theorem dX4_step_32 : decode cX4_step 32 = .ok (.invokestatic 67, 3) := by decide +kernel
theorem dX4_step_35 : decode cX4_step 35 = .ok (.ifCond .eq 11, 3) := by decide +kernel
theorem dX4_step_38 : decode cX4_step 38 = .ok (.iconst 5, 1) := by decide +kernel
theorem dX4_step_39 : decode cX4_step 39 = .ok (.iload_n 2, 1) := by decide +kernel
theorem dX4_step_40 : decode cX4_step 40 = .ok (.imul, 1) := by decide +kernel
theorem dX4_step_41 : decode cX4_step 41 = .ok (.iload_n 3, 1) := by decide +kernel
theorem dX4_step_42 : decode cX4_step 42 = .ok (.iadd, 1) := by decide +kernel
theorem dX4_step_43 : decode cX4_step 43 = .ok (.goto 4, 3) := by decide +kernel
theorem dX4_step_46 : decode cX4_step 46 = .ok (.iconst (-1), 1) := by decide +kernel
theorem dX4_step_47 : decode cX4_step 47 = .ok (.ireturn, 1) := by decide +kernel
def wp_X4_step (x0 : Int32) (x1 : Int32) (P : Int32 → Prop) : Prop := (vp_in x1 8 ∧ (vp_in x1 8 ∧ (wp_X4_in ((x0 / 5) + (dnV x1.toNatClampNeg)) 0 4 (fun r23 => ((r23 = 0 → (P (-1))) ∧ (¬ r23 = 0 → (wp_X4_in ((x0 - x0 / 5 * 5) + (rtV x1.toNatClampNeg)) 0 4 (fun r32 => ((r32 = 0 → (P (-1))) ∧ (¬ r32 = 0 → (P ((5 * ((x0 / 5) + (dnV x1.toNatClampNeg))) + ((x0 - x0 / 5 * 5) + (rtV x1.toNatClampNeg))))))))))))))
theorem k_X4_step : KS yX4_step cX4_step 4 (some .int) 2 := ⟨q931, q5, q932, by decide +kernel⟩
set_option maxHeartbeats 4000000 in
set_option maxRecDepth 100000 in
theorem m_X4_step (l : Launch) (z : Nat → Nat) (x0 : Int32) (x1 : Int32) (P : Int32 → Prop) (hF : wp_X4_step x0 x1 P) : Met l yX4_step (ws_ yX4_step cX4_step 4 (some .int)) ({ frames := 1, cells := 0, slots := 0, locals := 22 } : Room) (va_Pc [.int x0, .int x1] (fun U => ZD (z 2) (z 3) (fun _ => False) U U.heap)) (vp_Si P) 0 0 (fun _ => False) := by
  refine Met.ofCx (own := RX4) (by decide) rfl (Nat.le_of_ble_eq_true rfl) ?_
  intro p e s m below meth c hC hv ls hl
  obtain ⟨hx, hb, hr, hml, hown, hts, hlocks⟩ := hC
  have hl : lv_has ls 4 [(0, .int x0), (1, .int x1)] := hl
  have hZ : ZD (z 2) (z 3) (fun _ => False) s s.heap := hv
  have hS : va_S (fun _ => False) s.heap s.heap [] := va_S.rf
  unfold wp_X4_step at hF
  refine lv_iload_n hx hb dX4_step_0 rfl (lv_at hl 0 rfl) ?_
  refine lv_iconst (v := 5) hx hb dX4_step_1 (by decide) ?_
  refine lv_idiv hx hb dX4_step_2 (by decide) ?_
  refine va_gets hx hb hZ.1 hS hown (hts _ q933) (fun _ h9 => h9) dX4_step_3 ?_
  refine lv_iload_n hx hb dX4_step_6 rfl (lv_at hl 1 rfl) ?_
  have hI := hF.1
  have hF := hF.2
  refine va_ti hx hb hZ.2.1 hS hI rfl dX4_step_7 ?_
  refine lv_iadd hx hb dX4_step_8 ?_
  refine lv_istore_n (lv' := [(2, .int ((x0 / 5) + (dnV x1.toNatClampNeg))), (0, .int x0), (1, .int x1)]) hx hb dX4_step_9 rfl hl (by decide) rfl (fun ls hl => ?_)
  refine lv_iload_n hx hb dX4_step_10 rfl (lv_at hl 1 rfl) ?_
  refine lv_iconst (v := 5) hx hb dX4_step_11 (by decide) ?_
  refine lv_irem hx hb dX4_step_12 (by decide) ?_
  refine va_gets hx hb hZ.2.2.1 hS hown (hts _ q935) (fun _ h9 => h9) dX4_step_13 ?_
  refine lv_iload_n hx hb dX4_step_16 rfl (lv_at hl 2 rfl) ?_
  have hI := hF.1
  have hF := hF.2
  refine va_ti hx hb hZ.2.2.2 hS hI rfl dX4_step_17 ?_
  refine lv_iadd hx hb dX4_step_18 ?_
  refine lv_istore_n (lv' := [(3, .int ((x0 - x0 / 5 * 5) + (rtV x1.toNatClampNeg))), (2, .int ((x0 / 5) + (dnV x1.toNatClampNeg))), (0, .int x0), (1, .int x1)]) hx hb dX4_step_19 rfl hl (by decide) rfl (fun ls hl => ?_)
  refine lv_iload_n hx hb dX4_step_20 rfl (lv_at hl 1 rfl) ?_
  refine lv_iconst (v := 0) hx hb dX4_step_21 (by decide) ?_
  refine lv_iconst (v := 4) hx hb dX4_step_22 (by decide) ?_
  refine cpSi (As := [.int ((x0 / 5) + (dnV x1.toNatClampNeg)), .int 0, .int 4]) (rest := []) ⟨hx, hb, hr, hml, hown, hts, hlocks⟩ (m_X4_in l ((x0 / 5) + (dnV x1.toNatClampNeg)) 0 4 _ hF) k_X4_in q937 ⟨rfl, rfl⟩ ⟨Nat.le_of_ble_eq_true rfl, Nat.le_of_ble_eq_true rfl⟩ hl.1 rfl rfl (Nat.le_of_ble_eq_true rfl) dX4_step_23 ⟨Nat.le_of_ble_eq_true rfl, Nat.le_of_ble_eq_true rfl⟩ (fun r23 hF => ?_)
  refine lv_if_eq (tgt := 46) hx hb dX4_step_26 (by decide) (fun cz => ?_) (fun cz => ?_)
  · have hF := hF.1 cz
    refine lv_iconst (v := (-1)) hx hb dX4_step_46 (by decide) ?_
    exact W.iret (v := (-1)) hx hb hr (fun t ht hW => ⟨(-1), rfl, hF, ht⟩) (fun q hq => absurd hq List.not_mem_nil) dX4_step_47
  · have hF := hF.2 cz
    refine lv_iload_n hx hb dX4_step_29 rfl (lv_at hl 0 rfl) ?_
    refine lv_iconst (v := 0) hx hb dX4_step_30 (by decide) ?_
    refine lv_iconst (v := 4) hx hb dX4_step_31 (by decide) ?_
    refine cpSi (As := [.int ((x0 - x0 / 5 * 5) + (rtV x1.toNatClampNeg)), .int 0, .int 4]) (rest := []) ⟨hx, hb, hr, hml, hown, hts, hlocks⟩ (m_X4_in l ((x0 - x0 / 5 * 5) + (rtV x1.toNatClampNeg)) 0 4 _ hF) k_X4_in q937 ⟨rfl, rfl⟩ ⟨Nat.le_of_ble_eq_true rfl, Nat.le_of_ble_eq_true rfl⟩ hl.1 rfl rfl (Nat.le_of_ble_eq_true rfl) dX4_step_32 ⟨Nat.le_of_ble_eq_true rfl, Nat.le_of_ble_eq_true rfl⟩ (fun r32 hF => ?_)
    refine lv_if_eq (tgt := 46) hx hb dX4_step_35 (by decide) (fun cz => ?_) (fun cz => ?_)
    · have hF := hF.1 cz
      refine lv_iconst (v := (-1)) hx hb dX4_step_46 (by decide) ?_
      exact W.iret (v := (-1)) hx hb hr (fun t ht hW => ⟨(-1), rfl, hF, ht⟩) (fun q hq => absurd hq List.not_mem_nil) dX4_step_47
    · have hF := hF.2 cz
      refine lv_iconst (v := 5) hx hb dX4_step_38 (by decide) ?_
      refine lv_iload_n hx hb dX4_step_39 rfl (lv_at hl 1 rfl) ?_
      refine lv_imul hx hb dX4_step_40 ?_
      refine lv_iload_n hx hb dX4_step_41 rfl (lv_at hl 0 rfl) ?_
      refine lv_iadd hx hb dX4_step_42 ?_
      refine lv_goto (tgt := 47) hx hb dX4_step_43 (by decide) ?_
      exact W.iret (v := (5 * ((x0 / 5) + (dnV x1.toNatClampNeg))) + ((x0 - x0 / 5 * 5) + (rtV x1.toNatClampNeg))) hx hb hr (fun t ht hW => ⟨(5 * ((x0 / 5) + (dnV x1.toNatClampNeg))) + ((x0 - x0 / 5 * 5) + (rtV x1.toNatClampNeg)), rfl, hF, ht⟩) (fun q hq => absurd hq List.not_mem_nil) dX4_step_47
theorem dX4_lists_0 : decode cX4_lists 0 = .ok (.aload_n 0, 1) := by decide +kernel
theorem dX4_lists_1 : decode cX4_lists 1 = .ok (.iconst 0, 1) := by decide +kernel
theorem dX4_lists_2 : decode cX4_lists 2 = .ok (.putfield 71, 3) := by decide +kernel
theorem dX4_lists_5 : decode cX4_lists 5 = .ok (.iconst 0, 1) := by decide +kernel
theorem dX4_lists_6 : decode cX4_lists 6 = .ok (.istore_n 1, 1) := by decide +kernel
theorem dX4_lists_7 : decode cX4_lists 7 = .ok (.iload_n 1, 1) := by decide +kernel
theorem dX4_lists_8 : decode cX4_lists 8 = .ok (.aload_n 0, 1) := by decide +kernel
theorem dX4_lists_9 : decode cX4_lists 9 = .ok (.getfield 64, 3) := by decide +kernel
theorem dX4_lists_12 : decode cX4_lists 12 = .ok (.if_icmp .ge 148, 3) := by decide +kernel
theorem dX4_lists_15 : decode cX4_lists 15 = .ok (.iconst 0, 1) := by decide +kernel
theorem dX4_lists_16 : decode cX4_lists 16 = .ok (.istore_n 2, 1) := by decide +kernel
theorem dX4_lists_17 : decode cX4_lists 17 = .ok (.iload_n 2, 1) := by decide +kernel
theorem dX4_lists_18 : decode cX4_lists 18 = .ok (.aload_n 0, 1) := by decide +kernel
theorem dX4_lists_19 : decode cX4_lists 19 = .ok (.getfield 64, 3) := by decide +kernel
theorem dX4_lists_22 : decode cX4_lists 22 = .ok (.if_icmp .ge 132, 3) := by decide +kernel
theorem dX4_lists_25 : decode cX4_lists 25 = .ok (.iconst 0, 1) := by decide +kernel
theorem dX4_lists_26 : decode cX4_lists 26 = .ok (.istore_n 3, 1) := by decide +kernel
theorem dX4_lists_27 : decode cX4_lists 27 = .ok (.iload_n 3, 1) := by decide +kernel
theorem dX4_lists_28 : decode cX4_lists 28 = .ok (.iconst 2, 1) := by decide +kernel
theorem dX4_lists_29 : decode cX4_lists 29 = .ok (.iconst 2, 1) := by decide +kernel
theorem dX4_lists_30 : decode cX4_lists 30 = .ok (.aload_n 0, 1) := by decide +kernel
theorem dX4_lists_31 : decode cX4_lists 31 = .ok (.getfield 74, 3) := by decide +kernel
theorem dX4_lists_34 : decode cX4_lists 34 = .ok (.iconst 1, 1) := by decide +kernel
theorem dX4_lists_35 : decode cX4_lists 35 = .ok (.iadd, 1) := by decide +kernel
theorem dX4_lists_36 : decode cX4_lists 36 = .ok (.imul, 1) := by decide +kernel
theorem dX4_lists_37 : decode cX4_lists 37 = .ok (.iadd, 1) := by decide +kernel
theorem dX4_lists_38 : decode cX4_lists 38 = .ok (.if_icmp .ge 110, 3) := by decide +kernel
theorem dX4_lists_41 : decode cX4_lists 41 = .ok (.aload_n 0, 1) := by decide +kernel
theorem dX4_lists_42 : decode cX4_lists 42 = .ok (.getfield 13, 3) := by decide +kernel
theorem dX4_lists_45 : decode cX4_lists 45 = .ok (.iload_n 1, 1) := by decide +kernel
theorem dX4_lists_46 : decode cX4_lists 46 = .ok (.iaload, 1) := by decide +kernel
theorem dX4_lists_47 : decode cX4_lists 47 = .ok (.iload_n 3, 1) := by decide +kernel
theorem dX4_lists_48 : decode cX4_lists 48 = .ok (.invokestatic 77, 3) := by decide +kernel
theorem dX4_lists_51 : decode cX4_lists 51 = .ok (.istore 4, 2) := by decide +kernel
theorem dX4_lists_53 : decode cX4_lists 53 = .ok (.iload 4, 2) := by decide +kernel
theorem dX4_lists_55 : decode cX4_lists 55 = .ok (.iconst (-1), 1) := by decide +kernel
theorem dX4_lists_56 : decode cX4_lists 56 = .ok (.if_icmp .ne 7, 3) := by decide +kernel
theorem dX4_lists_59 : decode cX4_lists 59 = .ok (.iconst (-1), 1) := by decide +kernel
theorem dX4_lists_60 : decode cX4_lists 60 = .ok (.goto 9, 3) := by decide +kernel
theorem dX4_lists_63 : decode cX4_lists 63 = .ok (.iload 4, 2) := by decide +kernel
theorem dX4_lists_65 : decode cX4_lists 65 = .ok (.iload_n 3, 1) := by decide +kernel
theorem dX4_lists_66 : decode cX4_lists 66 = .ok (.invokestatic 77, 3) := by decide +kernel
theorem dX4_lists_69 : decode cX4_lists 69 = .ok (.istore 5, 2) := by decide +kernel
theorem dX4_lists_71 : decode cX4_lists 71 = .ok (.iload 5, 2) := by decide +kernel
theorem dX4_lists_73 : decode cX4_lists 73 = .ok (.aload_n 0, 1) := by decide +kernel
theorem dX4_lists_74 : decode cX4_lists 74 = .ok (.getfield 13, 3) := by decide +kernel
theorem dX4_lists_77 : decode cX4_lists 77 = .ok (.iload_n 2, 1) := by decide +kernel
theorem dX4_lists_78 : decode cX4_lists 78 = .ok (.iaload, 1) := by decide +kernel
theorem dX4_lists_79 : decode cX4_lists 79 = .ok (.if_icmp .ne 63, 3) := by decide +kernel
theorem dX4_lists_82 : decode cX4_lists 82 = .ok (.aload_n 0, 1) := by decide +kernel
theorem dX4_lists_83 : decode cX4_lists 83 = .ok (.getfield 9, 3) := by decide +kernel
theorem dX4_lists_86 : decode cX4_lists 86 = .ok (.iload 4, 2) := by decide +kernel
theorem dX4_lists_88 : decode cX4_lists 88 = .ok (.iaload, 1) := by decide +kernel
theorem dX4_lists_89 : decode cX4_lists 89 = .ok (.iconst (-1), 1) := by decide +kernel
theorem dX4_lists_90 : decode cX4_lists 90 = .ok (.if_icmp .ne 6, 3) := by decide +kernel
theorem dX4_lists_93 : decode cX4_lists 93 = .ok (.goto 49, 3) := by decide +kernel
theorem dX4_lists_96 : decode cX4_lists 96 = .ok (.aload_n 0, 1) := by decide +kernel
theorem dX4_lists_97 : decode cX4_lists 97 = .ok (.getfield 19, 3) := by decide +kernel
theorem dX4_lists_100 : decode cX4_lists 100 = .ok (.aload_n 0, 1) := by decide +kernel
theorem dX4_lists_101 : decode cX4_lists 101 = .ok (.getfield 71, 3) := by decide +kernel
theorem dX4_lists_104 : decode cX4_lists 104 = .ok (.iload_n 1, 1) := by decide +kernel
theorem dX4_lists_105 : decode cX4_lists 105 = .ok (.iastore, 1) := by decide +kernel
theorem dX4_lists_106 : decode cX4_lists 106 = .ok (.aload_n 0, 1) := by decide +kernel
theorem dX4_lists_107 : decode cX4_lists 107 = .ok (.getfield 22, 3) := by decide +kernel
theorem dX4_lists_110 : decode cX4_lists 110 = .ok (.aload_n 0, 1) := by decide +kernel
theorem dX4_lists_111 : decode cX4_lists 111 = .ok (.getfield 71, 3) := by decide +kernel
theorem dX4_lists_114 : decode cX4_lists 114 = .ok (.aload_n 0, 1) := by decide +kernel
theorem dX4_lists_115 : decode cX4_lists 115 = .ok (.getfield 9, 3) := by decide +kernel
theorem dX4_lists_118 : decode cX4_lists 118 = .ok (.iload 4, 2) := by decide +kernel
theorem dX4_lists_120 : decode cX4_lists 120 = .ok (.iaload, 1) := by decide +kernel
theorem dX4_lists_121 : decode cX4_lists 121 = .ok (.iastore, 1) := by decide +kernel
theorem dX4_lists_122 : decode cX4_lists 122 = .ok (.aload_n 0, 1) := by decide +kernel
theorem dX4_lists_123 : decode cX4_lists 123 = .ok (.getfield 25, 3) := by decide +kernel
theorem dX4_lists_126 : decode cX4_lists 126 = .ok (.aload_n 0, 1) := by decide +kernel
theorem dX4_lists_127 : decode cX4_lists 127 = .ok (.getfield 71, 3) := by decide +kernel
theorem dX4_lists_130 : decode cX4_lists 130 = .ok (.iload_n 2, 1) := by decide +kernel
theorem dX4_lists_131 : decode cX4_lists 131 = .ok (.iastore, 1) := by decide +kernel
theorem dX4_lists_132 : decode cX4_lists 132 = .ok (.aload_n 0, 1) := by decide +kernel
theorem dX4_lists_133 : decode cX4_lists 133 = .ok (.dup, 1) := by decide +kernel
theorem dX4_lists_134 : decode cX4_lists 134 = .ok (.getfield 71, 3) := by decide +kernel
theorem dX4_lists_137 : decode cX4_lists 137 = .ok (.iconst 1, 1) := by decide +kernel
theorem dX4_lists_138 : decode cX4_lists 138 = .ok (.iadd, 1) := by decide +kernel
theorem dX4_lists_139 : decode cX4_lists 139 = .ok (.putfield 71, 3) := by decide +kernel
theorem dX4_lists_142 : decode cX4_lists 142 = .ok (.iinc 3 1, 3) := by decide +kernel
theorem dX4_lists_145 : decode cX4_lists 145 = .ok (.goto (-118), 3) := by decide +kernel
theorem dX4_lists_148 : decode cX4_lists 148 = .ok (.iinc 2 1, 3) := by decide +kernel
theorem dX4_lists_151 : decode cX4_lists 151 = .ok (.goto (-134), 3) := by decide +kernel
theorem dX4_lists_154 : decode cX4_lists 154 = .ok (.iinc 1 1, 3) := by decide +kernel
theorem dX4_lists_157 : decode cX4_lists 157 = .ok (.goto (-150), 3) := by decide +kernel
theorem dX4_lists_160 : decode cX4_lists 160 = .ok (.aload_n 0, 1) := by decide +kernel
theorem dX4_lists_161 : decode cX4_lists 161 = .ok (.getfield 31, 3) := by decide +kernel
theorem dX4_lists_164 : decode cX4_lists 164 = .ok (.invokeinterface 81 1, 5) := by decide +kernel
theorem dX4_lists_169 : decode cX4_lists 169 = .ok (.aload_n 0, 1) := by decide +kernel
theorem dX4_lists_170 : decode cX4_lists 170 = .ok (.getfield 35, 3) := by decide +kernel
theorem dX4_lists_173 : decode cX4_lists 173 = .ok (.invokeinterface 81 1, 5) := by decide +kernel
theorem dX4_lists_178 : decode cX4_lists 178 = .ok (.return_, 1) := by decide +kernel
def wp_X4_lists_J142 (rec27 : Int32 → FX → Prop) (v3_27 : Int32) (s_142 : FX) : Prop := (rec27 (v3_27 + 1) s_142)
def wp_X4_lists_J69 (v1_7 : Int32) (v2_17 : Int32) (rec27 : Int32 → FX → Prop) (v3_27 : Int32) (s_27 : FX) (r48 : Int32) (t0_69 : Int32) : Prop := (vp_in v2_17 13 ∧ ((¬ t0_69 = ((s_27.1.2.1 1) v2_17.toNatClampNeg) → (wp_X4_lists_J142 rec27 v3_27 s_27)) ∧ (t0_69 = ((s_27.1.2.1 1) v2_17.toNatClampNeg) → (vp_in r48 25 ∧ ((¬ ((s_27.1.2.1 0) r48.toNatClampNeg) = (-1) → (vp_in (s_27.1.1 1) 104 ∧ (vp_in r48 25 ∧ (vp_in (s_27.1.1 1) 104 ∧ (vp_in (s_27.1.1 1) 104 ∧ (wp_X4_lists_J142 rec27 v3_27 (sI (sA (sA (sA s_27.1 3 (upd (s_27.1.2.1 3) (s_27.1.1 1).toNatClampNeg v1_7)) 4 (upd (s_27.1.2.1 4) (s_27.1.1 1).toNatClampNeg ((s_27.1.2.1 0) r48.toNatClampNeg))) 5 (upd (s_27.1.2.1 5) (s_27.1.1 1).toNatClampNeg v2_17)) 1 ((s_27.1.1 1) + 1), s_27.2.1, s_27.2.2.1, s_27.2.2.2.1, s_27.2.2.2.2))))))) ∧ (((s_27.1.2.1 0) r48.toNatClampNeg) = (-1) → (wp_X4_lists_J142 rec27 v3_27 s_27)))))))
def wp_X4_lists_B27 (v1_7 : Int32) (v2_17 : Int32) (K27 : FX → Prop) (rec27 : Int32 → FX → Prop) (v3_27 : Int32) (s_27 : FX) : Prop := (((2 + (2 * ((s_27.1.1 4) + 1))) ≤ v3_27 → (K27 s_27)) ∧ (¬ (2 + (2 * ((s_27.1.1 4) + 1))) ≤ v3_27 → (vp_in v1_7 13 ∧ (wp_X4_step ((s_27.1.2.1 1) v1_7.toNatClampNeg) v3_27 (fun r48 => ((¬ r48 = (-1) → (wp_X4_step r48 v3_27 (fun r66 => (wp_X4_lists_J69 v1_7 v2_17 rec27 v3_27 s_27 r48 r66)))) ∧ (r48 = (-1) → (wp_X4_lists_J69 v1_7 v2_17 rec27 v3_27 s_27 r48 (-1)))))))))
def wp_X4_lists_L27 (v1_7 : Int32) (v2_17 : Int32) (K27 : FX → Prop) : Nat → Int32 → FX → Prop
  | 0, _, _ => False
  | nn + 1, v3_27, s_27 => wp_X4_lists_B27 v1_7 v2_17 K27 (wp_X4_lists_L27 v1_7 v2_17 K27 nn) v3_27 s_27
def wp_X4_lists_B17 (fu : Nat) (v1_7 : Int32) (K17 : FX → Prop) (rec17 : Int32 → FX → Prop) (v2_17 : Int32) (s_17 : FX) : Prop := (((s_17.1.1 0) ≤ v2_17 → (K17 s_17)) ∧ (¬ (s_17.1.1 0) ≤ v2_17 → (wp_X4_lists_L27 v1_7 v2_17 (fun (s_148 : FX) => (rec17 (v2_17 + 1) s_148)) fu 0 s_17)))
def wp_X4_lists_L17 (fu : Nat) (v1_7 : Int32) (K17 : FX → Prop) : Nat → Int32 → FX → Prop
  | 0, _, _ => False
  | nn + 1, v2_17, s_17 => wp_X4_lists_B17 fu v1_7 K17 (wp_X4_lists_L17 fu v1_7 K17 nn) v2_17 s_17
def wp_X4_lists_B7 (fu : Nat) (K7 : FX → Prop) (rec7 : Int32 → FX → Prop) (v1_7 : Int32) (s_7 : FX) : Prop := (((s_7.1.1 0) ≤ v1_7 → (K7 s_7)) ∧ (¬ (s_7.1.1 0) ≤ v1_7 → (wp_X4_lists_L17 fu v1_7 (fun (s_154 : FX) => (rec7 (v1_7 + 1) s_154)) fu 0 s_7)))
def wp_X4_lists_L7 (fu : Nat) (K7 : FX → Prop) : Nat → Int32 → FX → Prop
  | 0, _, _ => False
  | nn + 1, v1_7, s_7 => wp_X4_lists_B7 fu K7 (wp_X4_lists_L7 fu K7 nn) v1_7 s_7
def wp_X4_lists (fu : Nat) (σ : FX) (P : FX → Prop) : Prop := (wp_X4_lists_L7 fu (fun (s_160 : FX) => (okL s_160.2.1 ∧ ∀ w164 : LST, okL w164 → w164.2.2.2.2.2 = 0 → (okL s_160.2.2.1 ∧ ∀ w173 : LST, okL w173 → w173.2.2.2.2.2 = 0 → (P (s_160.1, w164, w173, s_160.2.2.2.1, s_160.2.2.2.2))))) fu 0 (sI σ.1 1 0, σ.2.1, σ.2.2.1, σ.2.2.2.1, σ.2.2.2.2))
theorem k_X4_lists : KV RX4 yX4_lists cX4_lists 6 none 0 := ⟨q928, qs25, q5, q929, by decide +kernel⟩
set_option maxHeartbeats 4000000 in
set_option maxRecDepth 100000 in
theorem m_X4_lists (l : Launch) (dC : Nat → ClassId) (dI : Nat → Nat → Nat) (h : Nat → Nat) (cy : Nat → ClassId) (z ad : Nat → Nat) (sz : Nat) (fu : Nat) (σ : FX) (P : FX → Prop) (hF : wp_X4_lists fu σ P) : Met l yX4_lists (ws_ yX4_lists cX4_lists 6 none) ({ frames := 2, cells := 0, slots := 0, locals := 45 } : Room) (va_Pc [.ref (h 0)] (PcF dC dI cy z ad (wC h cy σ.1 ++ (wl ad cy (z 0) (h 20) σ.2.1 ++ (wl ad cy (z 0) (h 21) σ.2.2.1 ++ (wl ad cy (z 0) (h 22) σ.2.2.2.1 ++ wS h cy σ.2.2.2.2)))) sz)) (va_Qv (fun u => P u) (fun (u : FX) t => va_P (dC, dI) classes (wC h cy u.1 ++ (wl ad cy (z 0) (h 20) u.2.1 ++ (wl ad cy (z 0) (h 21) u.2.2.1 ++ (wl ad cy (z 0) (h 22) u.2.2.2.1 ++ wS h cy u.2.2.2.2)))) t.heap ∧ va_D (va_A (wC h cy σ.1 ++ (wl ad cy (z 0) (h 20) σ.2.1 ++ (wl ad cy (z 0) (h 21) σ.2.2.1 ++ (wl ad cy (z 0) (h 22) σ.2.2.2.1 ++ wS h cy σ.2.2.2.2)))) sz) (wC h cy u.1 ++ (wl ad cy (z 0) (h 20) u.2.1 ++ (wl ad cy (z 0) (h 21) u.2.2.1 ++ (wl ad cy (z 0) (h 22) u.2.2.2.1 ++ wS h cy u.2.2.2.2))))) (va_A (wC h cy σ.1 ++ (wl ad cy (z 0) (h 20) σ.2.1 ++ (wl ad cy (z 0) (h 21) σ.2.2.1 ++ (wl ad cy (z 0) (h 22) σ.2.2.2.1 ++ wS h cy σ.2.2.2.2)))) sz)) 0 0 (va_A (wC h cy σ.1 ++ (wl ad cy (z 0) (h 20) σ.2.1 ++ (wl ad cy (z 0) (h 21) σ.2.2.1 ++ (wl ad cy (z 0) (h 22) σ.2.2.2.1 ++ wS h cy σ.2.2.2.2)))) sz) := by
  refine Met.ofCx (own := RX4) (by decide) rfl (Nat.le_of_ble_eq_true rfl) ?_
  intro p e s m below meth c hC hv ls hl
  obtain ⟨hx, hb, hr, hml, hown, hts, hlocks⟩ := hC
  have hl : lv_has ls 6 [(0, .ref (h 0))] := hl
  obtain ⟨hsz, hP, hK, hD0, hZ, hvk⟩ := hv
  subst hsz
  have hD := hD0.self (sz := s.heap.size)
  generalize hAe : va_A (wC h cy σ.1 ++ (wl ad cy (z 0) (h 20) σ.2.1 ++ (wl ad cy (z 0) (h 21) σ.2.2.1 ++ (wl ad cy (z 0) (h 22) σ.2.2.2.1 ++ wS h cy σ.2.2.2.2)))) s.heap.size = A at hD hZ ⊢
  have hA : ∀ q : Nat, s.heap.size ≤ q → A q := fun q h => by rw [← hAe]; exact Or.inr h
  have hS : va_S A s.heap s.heap [] := va_S.rf
  clear hAe
  unfold wp_X4_lists at hF
  refine lv_aload_n hx hb dX4_lists_0 rfl (lv_at hl 0 rfl) ?_
  refine lv_iconst (v := 0) hx hb dX4_lists_1 (by decide) ?_
  refine va_put (D := (dC, dI)) (ci := 4) (v := .int 0) (ty := .int) (C := RX4) (T := TX4) (N := 19) hx hb hts in_X4 tyX4 tyX4_ok nmX4 hown hK.1 hP hD hS 0 rfl rfl 14 (by decide) (hts _ q964) (fun _ h9 => h9) rfl (by decide +kernel) rfl rfl (Nat.le_of_ble_eq_true rfl) dX4_lists_2 (fun H locs hP hD hS => ?_)
  have hP : va_P (dC, dI) classes (wC h cy (sI σ.1 1 0) ++ (wl ad cy (z 0) (h 20) σ.2.1 ++ (wl ad cy (z 0) (h 21) σ.2.2.1 ++ (wl ad cy (z 0) (h 22) σ.2.2.2.1 ++ wS h cy σ.2.2.2.2)))) H := hP
  have hD : va_D A (wC h cy (sI σ.1 1 0) ++ (wl ad cy (z 0) (h 20) σ.2.1 ++ (wl ad cy (z 0) (h 21) σ.2.2.1 ++ (wl ad cy (z 0) (h 22) σ.2.2.2.1 ++ wS h cy σ.2.2.2.2)))) := hD
  refine lv_iconst (v := 0) hx hb dX4_lists_5 (by decide) ?_
  refine lv_istore_n (lv' := [(1, .int 0), (0, .ref (h 0))]) hx hb dX4_lists_6 rfl hl (by decide) rfl (fun ls hl => ?_)
  have hX7 : ∀ (s_160 : FX), (fun (s_160 : FX) => (okL s_160.2.1 ∧ ∀ w164 : LST, okL w164 → w164.2.2.2.2.2 = 0 → (okL s_160.2.2.1 ∧ ∀ w173 : LST, okL w173 → w173.2.2.2.2.2 = 0 → (P (s_160.1, w164, w173, s_160.2.2.2.1, s_160.2.2.2.2))))) s_160 → ∀ (H : Heap) (locs : List Loc), va_P (dC, dI) classes (wC h cy s_160.1 ++ (wl ad cy (z 0) (h 20) s_160.2.1 ++ (wl ad cy (z 0) (h 21) s_160.2.2.1 ++ (wl ad cy (z 0) (h 22) s_160.2.2.2.1 ++ wS h cy s_160.2.2.2.2)))) H → va_D A (wC h cy s_160.1 ++ (wl ad cy (z 0) (h 20) s_160.2.1 ++ (wl ad cy (z 0) (h 21) s_160.2.2.1 ++ (wl ad cy (z 0) (h 22) s_160.2.2.2.1 ++ wS h cy s_160.2.2.2.2)))) → va_S A s.heap H locs → ∀ (ls : Array Slot), lv_has ls 6 [(0, .ref (h 0))] → W p l e ({ frames := 2, cells := 0, slots := 0, locals := 45 } : Room) s m ([.ref (h 0)] : List Value).toArray below meth c H locs 0 0 (MQ below (va_Qv (fun u => P u) (fun (u : FX) t => va_P (dC, dI) classes (wC h cy u.1 ++ (wl ad cy (z 0) (h 20) u.2.1 ++ (wl ad cy (z 0) (h 21) u.2.2.1 ++ (wl ad cy (z 0) (h 22) u.2.2.2.1 ++ wS h cy u.2.2.2.2)))) t.heap ∧ va_D A (wC h cy u.1 ++ (wl ad cy (z 0) (h 20) u.2.1 ++ (wl ad cy (z 0) (h 21) u.2.2.1 ++ (wl ad cy (z 0) (h 22) u.2.2.2.1 ++ wS h cy u.2.2.2.2))))) A) ([.ref (h 0)] : List Value).toArray s 0 0 A) (F0 m 160 ls []) := by
    intro s_160 hF H locs hP hD hS ls hl
    refine lv_aload_n hx hb dX4_lists_160 rfl (lv_at hl 0 rfl) ?_
    refine va_get (D := (dC, dI)) (ci := 4) (v := .ref (h 20)) (C := RX4) (T := TX4) (N := 19) hx hb hts in_X4 hown hK.1 hP 0 rfl rfl 6 (by decide) (hts _ q956) (fun _ h9 => h9) rfl dX4_lists_161 ?_
    have hU := hF.1
    have hF := hF.2
    refine lsClear (fp1 _ _ _) ⟨hx, hb, hr, hml, hown, hts, hlocks⟩ hK hP hD hZ.1 hS hA hU q941 ⟨Nat.le_of_ble_eq_true rfl, Nat.le_of_ble_eq_true rfl⟩ hl.1 (Nat.le_of_ble_eq_true rfl) dX4_lists_164 ⟨Nat.le_of_ble_eq_true rfl, Nat.le_of_ble_eq_true rfl⟩ (fun w164 hw1 hw2 H1 locs hP1 hD1 hS => ?_)
    have hF := hF w164 hw1 hw2
    have hP := va_P.perm (fp1 _ _ _).symm hP1
    have hD := va_D.perm (fp1 _ _ _).symm hD1
    generalize H1 = H at hP hS ⊢
    have hP : va_P (dC, dI) classes (wC h cy s_160.1 ++ (wl ad cy (z 0) (h 20) w164 ++ (wl ad cy (z 0) (h 21) s_160.2.2.1 ++ (wl ad cy (z 0) (h 22) s_160.2.2.2.1 ++ wS h cy s_160.2.2.2.2)))) H := hP
    have hD : va_D A (wC h cy s_160.1 ++ (wl ad cy (z 0) (h 20) w164 ++ (wl ad cy (z 0) (h 21) s_160.2.2.1 ++ (wl ad cy (z 0) (h 22) s_160.2.2.2.1 ++ wS h cy s_160.2.2.2.2)))) := hD
    refine lv_aload_n hx hb dX4_lists_169 rfl (lv_at hl 0 rfl) ?_
    refine va_get (D := (dC, dI)) (ci := 4) (v := .ref (h 21)) (C := RX4) (T := TX4) (N := 19) hx hb hts in_X4 hown hK.1 hP 0 rfl rfl 7 (by decide) (hts _ q957) (fun _ h9 => h9) rfl dX4_lists_170 ?_
    have hU := hF.1
    have hF := hF.2
    refine lsClear (fp2 _ _ _ _) ⟨hx, hb, hr, hml, hown, hts, hlocks⟩ hK hP hD hZ.1 hS hA hU q941 ⟨Nat.le_of_ble_eq_true rfl, Nat.le_of_ble_eq_true rfl⟩ hl.1 (Nat.le_of_ble_eq_true rfl) dX4_lists_173 ⟨Nat.le_of_ble_eq_true rfl, Nat.le_of_ble_eq_true rfl⟩ (fun w173 hw1 hw2 H1 locs hP1 hD1 hS => ?_)
    have hF := hF w173 hw1 hw2
    have hP := va_P.perm (fp2 _ _ _ _).symm hP1
    have hD := va_D.perm (fp2 _ _ _ _).symm hD1
    generalize H1 = H at hP hS ⊢
    have hP : va_P (dC, dI) classes (wC h cy s_160.1 ++ (wl ad cy (z 0) (h 20) w164 ++ (wl ad cy (z 0) (h 21) w173 ++ (wl ad cy (z 0) (h 22) s_160.2.2.2.1 ++ wS h cy s_160.2.2.2.2)))) H := hP
    have hD : va_D A (wC h cy s_160.1 ++ (wl ad cy (z 0) (h 20) w164 ++ (wl ad cy (z 0) (h 21) w173 ++ (wl ad cy (z 0) (h 22) s_160.2.2.2.1 ++ wS h cy s_160.2.2.2.2)))) := hD
    exact W.vret hx hb hr (fun t ht hW => ⟨⟨(s_160.1, w164, w173, s_160.2.2.2.1, s_160.2.2.2.2), rfl, hF, by rw [ht]; exact hP, hD⟩, hS.F ht⟩) hS.2.2 dX4_lists_178
  have hL7 : ∀ (K7 : FX → Prop), (∀ (s_160 : FX), K7 s_160 → ∀ (H : Heap) (locs : List Loc), va_P (dC, dI) classes (wC h cy s_160.1 ++ (wl ad cy (z 0) (h 20) s_160.2.1 ++ (wl ad cy (z 0) (h 21) s_160.2.2.1 ++ (wl ad cy (z 0) (h 22) s_160.2.2.2.1 ++ wS h cy s_160.2.2.2.2)))) H → va_D A (wC h cy s_160.1 ++ (wl ad cy (z 0) (h 20) s_160.2.1 ++ (wl ad cy (z 0) (h 21) s_160.2.2.1 ++ (wl ad cy (z 0) (h 22) s_160.2.2.2.1 ++ wS h cy s_160.2.2.2.2)))) → va_S A s.heap H locs → ∀ (ls : Array Slot), lv_has ls 6 [(0, .ref (h 0))] → W p l e ({ frames := 2, cells := 0, slots := 0, locals := 45 } : Room) s m ([.ref (h 0)] : List Value).toArray below meth c H locs 0 0 (MQ below (va_Qv (fun u => P u) (fun (u : FX) t => va_P (dC, dI) classes (wC h cy u.1 ++ (wl ad cy (z 0) (h 20) u.2.1 ++ (wl ad cy (z 0) (h 21) u.2.2.1 ++ (wl ad cy (z 0) (h 22) u.2.2.2.1 ++ wS h cy u.2.2.2.2)))) t.heap ∧ va_D A (wC h cy u.1 ++ (wl ad cy (z 0) (h 20) u.2.1 ++ (wl ad cy (z 0) (h 21) u.2.2.1 ++ (wl ad cy (z 0) (h 22) u.2.2.2.1 ++ wS h cy u.2.2.2.2))))) A) ([.ref (h 0)] : List Value).toArray s 0 0 A) (F0 m 160 ls [])) → ∀ (nn : Nat), ∀ (v1_7 : Int32), ∀ (s_7 : FX), wp_X4_lists_L7 fu K7 nn v1_7 s_7 → ∀ (H : Heap) (locs : List Loc), va_P (dC, dI) classes (wC h cy s_7.1 ++ (wl ad cy (z 0) (h 20) s_7.2.1 ++ (wl ad cy (z 0) (h 21) s_7.2.2.1 ++ (wl ad cy (z 0) (h 22) s_7.2.2.2.1 ++ wS h cy s_7.2.2.2.2)))) H → va_D A (wC h cy s_7.1 ++ (wl ad cy (z 0) (h 20) s_7.2.1 ++ (wl ad cy (z 0) (h 21) s_7.2.2.1 ++ (wl ad cy (z 0) (h 22) s_7.2.2.2.1 ++ wS h cy s_7.2.2.2.2)))) → va_S A s.heap H locs → ∀ (ls : Array Slot), lv_has ls 6 [(1, .int v1_7), (0, .ref (h 0))] → W p l e ({ frames := 2, cells := 0, slots := 0, locals := 45 } : Room) s m ([.ref (h 0)] : List Value).toArray below meth c H locs 0 0 (MQ below (va_Qv (fun u => P u) (fun (u : FX) t => va_P (dC, dI) classes (wC h cy u.1 ++ (wl ad cy (z 0) (h 20) u.2.1 ++ (wl ad cy (z 0) (h 21) u.2.2.1 ++ (wl ad cy (z 0) (h 22) u.2.2.2.1 ++ wS h cy u.2.2.2.2)))) t.heap ∧ va_D A (wC h cy u.1 ++ (wl ad cy (z 0) (h 20) u.2.1 ++ (wl ad cy (z 0) (h 21) u.2.2.1 ++ (wl ad cy (z 0) (h 22) u.2.2.2.1 ++ wS h cy u.2.2.2.2))))) A) ([.ref (h 0)] : List Value).toArray s 0 0 A) (F0 m 7 ls []) := by
    intro K7 hX7 nn
    induction nn with
    | zero =>
      intro v1_7 s_7 hF
      exact hF.elim
    | succ nn ih =>
      intro v1_7 s_7 hF H locs hP hD hS ls hl
      obtain ⟨rec7, hrec⟩ : ∃ z : Int32 → FX → Prop, z = wp_X4_lists_L7 fu K7 nn := ⟨_, rfl⟩
      have hF : wp_X4_lists_B7 fu K7 rec7 v1_7 s_7 := by rw [hrec]; exact hF
      rw [← hrec] at ih
      clear hrec
      unfold wp_X4_lists_B7 at hF
      refine lv_iload_n hx hb dX4_lists_7 rfl (lv_at hl 0 rfl) ?_
      refine lv_aload_n hx hb dX4_lists_8 rfl (lv_at hl 1 rfl) ?_
      refine va_get (D := (dC, dI)) (ci := 4) (v := .int (s_7.1.1 0)) (C := RX4) (T := TX4) (N := 19) hx hb hts in_X4 hown hK.1 hP 0 rfl rfl 13 (by decide) (hts _ q963) (fun _ h9 => h9) rfl dX4_lists_9 ?_
      refine lv_icmp_ge (tgt := 160) hx hb dX4_lists_12 (by decide) (fun cz => ?_) (fun cz => ?_)
      · have hF := hF.1 cz
        exact hX7 s_7 hF _ _ hP hD hS _ (lv_sub hl [1] rfl)
      · have hF := hF.2 cz
        refine lv_iconst (v := 0) hx hb dX4_lists_15 (by decide) ?_
        refine lv_istore_n (lv' := [(2, .int 0), (1, .int v1_7), (0, .ref (h 0))]) hx hb dX4_lists_16 rfl hl (by decide) rfl (fun ls hl => ?_)
        have hX17 : ∀ (s_154 : FX), (fun (s_154 : FX) => (rec7 (v1_7 + 1) s_154)) s_154 → ∀ (H : Heap) (locs : List Loc), va_P (dC, dI) classes (wC h cy s_154.1 ++ (wl ad cy (z 0) (h 20) s_154.2.1 ++ (wl ad cy (z 0) (h 21) s_154.2.2.1 ++ (wl ad cy (z 0) (h 22) s_154.2.2.2.1 ++ wS h cy s_154.2.2.2.2)))) H → va_D A (wC h cy s_154.1 ++ (wl ad cy (z 0) (h 20) s_154.2.1 ++ (wl ad cy (z 0) (h 21) s_154.2.2.1 ++ (wl ad cy (z 0) (h 22) s_154.2.2.2.1 ++ wS h cy s_154.2.2.2.2)))) → va_S A s.heap H locs → ∀ (ls : Array Slot), lv_has ls 6 [(1, .int v1_7), (0, .ref (h 0))] → W p l e ({ frames := 2, cells := 0, slots := 0, locals := 45 } : Room) s m ([.ref (h 0)] : List Value).toArray below meth c H locs 0 0 (MQ below (va_Qv (fun u => P u) (fun (u : FX) t => va_P (dC, dI) classes (wC h cy u.1 ++ (wl ad cy (z 0) (h 20) u.2.1 ++ (wl ad cy (z 0) (h 21) u.2.2.1 ++ (wl ad cy (z 0) (h 22) u.2.2.2.1 ++ wS h cy u.2.2.2.2)))) t.heap ∧ va_D A (wC h cy u.1 ++ (wl ad cy (z 0) (h 20) u.2.1 ++ (wl ad cy (z 0) (h 21) u.2.2.1 ++ (wl ad cy (z 0) (h 22) u.2.2.2.1 ++ wS h cy u.2.2.2.2))))) A) ([.ref (h 0)] : List Value).toArray s 0 0 A) (F0 m 154 ls []) := by
          intro s_154 hF H locs hP hD hS ls hl
          refine lv_iinc (v := v1_7 + 1) (lv' := [(1, .int (v1_7 + 1)), (0, .ref (h 0))]) hx hb dX4_lists_154 hl (k := 0) rfl (by rfl) (by decide) rfl (fun ls hl => ?_)
          refine lv_goto (tgt := 7) hx hb dX4_lists_157 (by decide) ?_
          exact ih (v1_7 + 1) s_154 hF _ _ hP hD hS _ (lv_sub hl [0, 1] rfl)
        have hL17 : ∀ (K17 : FX → Prop), (∀ (s_154 : FX), K17 s_154 → ∀ (H : Heap) (locs : List Loc), va_P (dC, dI) classes (wC h cy s_154.1 ++ (wl ad cy (z 0) (h 20) s_154.2.1 ++ (wl ad cy (z 0) (h 21) s_154.2.2.1 ++ (wl ad cy (z 0) (h 22) s_154.2.2.2.1 ++ wS h cy s_154.2.2.2.2)))) H → va_D A (wC h cy s_154.1 ++ (wl ad cy (z 0) (h 20) s_154.2.1 ++ (wl ad cy (z 0) (h 21) s_154.2.2.1 ++ (wl ad cy (z 0) (h 22) s_154.2.2.2.1 ++ wS h cy s_154.2.2.2.2)))) → va_S A s.heap H locs → ∀ (ls : Array Slot), lv_has ls 6 [(1, .int v1_7), (0, .ref (h 0))] → W p l e ({ frames := 2, cells := 0, slots := 0, locals := 45 } : Room) s m ([.ref (h 0)] : List Value).toArray below meth c H locs 0 0 (MQ below (va_Qv (fun u => P u) (fun (u : FX) t => va_P (dC, dI) classes (wC h cy u.1 ++ (wl ad cy (z 0) (h 20) u.2.1 ++ (wl ad cy (z 0) (h 21) u.2.2.1 ++ (wl ad cy (z 0) (h 22) u.2.2.2.1 ++ wS h cy u.2.2.2.2)))) t.heap ∧ va_D A (wC h cy u.1 ++ (wl ad cy (z 0) (h 20) u.2.1 ++ (wl ad cy (z 0) (h 21) u.2.2.1 ++ (wl ad cy (z 0) (h 22) u.2.2.2.1 ++ wS h cy u.2.2.2.2))))) A) ([.ref (h 0)] : List Value).toArray s 0 0 A) (F0 m 154 ls [])) → ∀ (nn : Nat), ∀ (v2_17 : Int32), ∀ (s_17 : FX), wp_X4_lists_L17 fu v1_7 K17 nn v2_17 s_17 → ∀ (H : Heap) (locs : List Loc), va_P (dC, dI) classes (wC h cy s_17.1 ++ (wl ad cy (z 0) (h 20) s_17.2.1 ++ (wl ad cy (z 0) (h 21) s_17.2.2.1 ++ (wl ad cy (z 0) (h 22) s_17.2.2.2.1 ++ wS h cy s_17.2.2.2.2)))) H → va_D A (wC h cy s_17.1 ++ (wl ad cy (z 0) (h 20) s_17.2.1 ++ (wl ad cy (z 0) (h 21) s_17.2.2.1 ++ (wl ad cy (z 0) (h 22) s_17.2.2.2.1 ++ wS h cy s_17.2.2.2.2)))) → va_S A s.heap H locs → ∀ (ls : Array Slot), lv_has ls 6 [(2, .int v2_17), (1, .int v1_7), (0, .ref (h 0))] → W p l e ({ frames := 2, cells := 0, slots := 0, locals := 45 } : Room) s m ([.ref (h 0)] : List Value).toArray below meth c H locs 0 0 (MQ below (va_Qv (fun u => P u) (fun (u : FX) t => va_P (dC, dI) classes (wC h cy u.1 ++ (wl ad cy (z 0) (h 20) u.2.1 ++ (wl ad cy (z 0) (h 21) u.2.2.1 ++ (wl ad cy (z 0) (h 22) u.2.2.2.1 ++ wS h cy u.2.2.2.2)))) t.heap ∧ va_D A (wC h cy u.1 ++ (wl ad cy (z 0) (h 20) u.2.1 ++ (wl ad cy (z 0) (h 21) u.2.2.1 ++ (wl ad cy (z 0) (h 22) u.2.2.2.1 ++ wS h cy u.2.2.2.2))))) A) ([.ref (h 0)] : List Value).toArray s 0 0 A) (F0 m 17 ls []) := by
          intro K17 hX17 nn
          induction nn with
          | zero =>
            intro v2_17 s_17 hF
            exact hF.elim
          | succ nn ih =>
            intro v2_17 s_17 hF H locs hP hD hS ls hl
            obtain ⟨rec17, hrec⟩ : ∃ z : Int32 → FX → Prop, z = wp_X4_lists_L17 fu v1_7 K17 nn := ⟨_, rfl⟩
            have hF : wp_X4_lists_B17 fu v1_7 K17 rec17 v2_17 s_17 := by rw [hrec]; exact hF
            rw [← hrec] at ih
            clear hrec
            unfold wp_X4_lists_B17 at hF
            refine lv_iload_n hx hb dX4_lists_17 rfl (lv_at hl 0 rfl) ?_
            refine lv_aload_n hx hb dX4_lists_18 rfl (lv_at hl 2 rfl) ?_
            refine va_get (D := (dC, dI)) (ci := 4) (v := .int (s_17.1.1 0)) (C := RX4) (T := TX4) (N := 19) hx hb hts in_X4 hown hK.1 hP 0 rfl rfl 13 (by decide) (hts _ q963) (fun _ h9 => h9) rfl dX4_lists_19 ?_
            refine lv_icmp_ge (tgt := 154) hx hb dX4_lists_22 (by decide) (fun cz => ?_) (fun cz => ?_)
            · have hF := hF.1 cz
              exact hX17 s_17 hF _ _ hP hD hS _ (lv_sub hl [1, 2] rfl)
            · have hF := hF.2 cz
              refine lv_iconst (v := 0) hx hb dX4_lists_25 (by decide) ?_
              refine lv_istore_n (lv' := [(3, .int 0), (2, .int v2_17), (1, .int v1_7), (0, .ref (h 0))]) hx hb dX4_lists_26 rfl hl (by decide) rfl (fun ls hl => ?_)
              have hX27 : ∀ (s_148 : FX), (fun (s_148 : FX) => (rec17 (v2_17 + 1) s_148)) s_148 → ∀ (H : Heap) (locs : List Loc), va_P (dC, dI) classes (wC h cy s_148.1 ++ (wl ad cy (z 0) (h 20) s_148.2.1 ++ (wl ad cy (z 0) (h 21) s_148.2.2.1 ++ (wl ad cy (z 0) (h 22) s_148.2.2.2.1 ++ wS h cy s_148.2.2.2.2)))) H → va_D A (wC h cy s_148.1 ++ (wl ad cy (z 0) (h 20) s_148.2.1 ++ (wl ad cy (z 0) (h 21) s_148.2.2.1 ++ (wl ad cy (z 0) (h 22) s_148.2.2.2.1 ++ wS h cy s_148.2.2.2.2)))) → va_S A s.heap H locs → ∀ (ls : Array Slot), lv_has ls 6 [(2, .int v2_17), (1, .int v1_7), (0, .ref (h 0))] → W p l e ({ frames := 2, cells := 0, slots := 0, locals := 45 } : Room) s m ([.ref (h 0)] : List Value).toArray below meth c H locs 0 0 (MQ below (va_Qv (fun u => P u) (fun (u : FX) t => va_P (dC, dI) classes (wC h cy u.1 ++ (wl ad cy (z 0) (h 20) u.2.1 ++ (wl ad cy (z 0) (h 21) u.2.2.1 ++ (wl ad cy (z 0) (h 22) u.2.2.2.1 ++ wS h cy u.2.2.2.2)))) t.heap ∧ va_D A (wC h cy u.1 ++ (wl ad cy (z 0) (h 20) u.2.1 ++ (wl ad cy (z 0) (h 21) u.2.2.1 ++ (wl ad cy (z 0) (h 22) u.2.2.2.1 ++ wS h cy u.2.2.2.2))))) A) ([.ref (h 0)] : List Value).toArray s 0 0 A) (F0 m 148 ls []) := by
                intro s_148 hF H locs hP hD hS ls hl
                refine lv_iinc (v := v2_17 + 1) (lv' := [(2, .int (v2_17 + 1)), (1, .int v1_7), (0, .ref (h 0))]) hx hb dX4_lists_148 hl (k := 0) rfl (by rfl) (by decide) rfl (fun ls hl => ?_)
                refine lv_goto (tgt := 17) hx hb dX4_lists_151 (by decide) ?_
                exact ih (v2_17 + 1) s_148 hF _ _ hP hD hS _ (lv_sub hl [0, 1, 2] rfl)
              have hL27 : ∀ (K27 : FX → Prop), (∀ (s_148 : FX), K27 s_148 → ∀ (H : Heap) (locs : List Loc), va_P (dC, dI) classes (wC h cy s_148.1 ++ (wl ad cy (z 0) (h 20) s_148.2.1 ++ (wl ad cy (z 0) (h 21) s_148.2.2.1 ++ (wl ad cy (z 0) (h 22) s_148.2.2.2.1 ++ wS h cy s_148.2.2.2.2)))) H → va_D A (wC h cy s_148.1 ++ (wl ad cy (z 0) (h 20) s_148.2.1 ++ (wl ad cy (z 0) (h 21) s_148.2.2.1 ++ (wl ad cy (z 0) (h 22) s_148.2.2.2.1 ++ wS h cy s_148.2.2.2.2)))) → va_S A s.heap H locs → ∀ (ls : Array Slot), lv_has ls 6 [(2, .int v2_17), (1, .int v1_7), (0, .ref (h 0))] → W p l e ({ frames := 2, cells := 0, slots := 0, locals := 45 } : Room) s m ([.ref (h 0)] : List Value).toArray below meth c H locs 0 0 (MQ below (va_Qv (fun u => P u) (fun (u : FX) t => va_P (dC, dI) classes (wC h cy u.1 ++ (wl ad cy (z 0) (h 20) u.2.1 ++ (wl ad cy (z 0) (h 21) u.2.2.1 ++ (wl ad cy (z 0) (h 22) u.2.2.2.1 ++ wS h cy u.2.2.2.2)))) t.heap ∧ va_D A (wC h cy u.1 ++ (wl ad cy (z 0) (h 20) u.2.1 ++ (wl ad cy (z 0) (h 21) u.2.2.1 ++ (wl ad cy (z 0) (h 22) u.2.2.2.1 ++ wS h cy u.2.2.2.2))))) A) ([.ref (h 0)] : List Value).toArray s 0 0 A) (F0 m 148 ls [])) → ∀ (nn : Nat), ∀ (v3_27 : Int32), ∀ (s_27 : FX), wp_X4_lists_L27 v1_7 v2_17 K27 nn v3_27 s_27 → ∀ (H : Heap) (locs : List Loc), va_P (dC, dI) classes (wC h cy s_27.1 ++ (wl ad cy (z 0) (h 20) s_27.2.1 ++ (wl ad cy (z 0) (h 21) s_27.2.2.1 ++ (wl ad cy (z 0) (h 22) s_27.2.2.2.1 ++ wS h cy s_27.2.2.2.2)))) H → va_D A (wC h cy s_27.1 ++ (wl ad cy (z 0) (h 20) s_27.2.1 ++ (wl ad cy (z 0) (h 21) s_27.2.2.1 ++ (wl ad cy (z 0) (h 22) s_27.2.2.2.1 ++ wS h cy s_27.2.2.2.2)))) → va_S A s.heap H locs → ∀ (ls : Array Slot), lv_has ls 6 [(3, .int v3_27), (2, .int v2_17), (1, .int v1_7), (0, .ref (h 0))] → W p l e ({ frames := 2, cells := 0, slots := 0, locals := 45 } : Room) s m ([.ref (h 0)] : List Value).toArray below meth c H locs 0 0 (MQ below (va_Qv (fun u => P u) (fun (u : FX) t => va_P (dC, dI) classes (wC h cy u.1 ++ (wl ad cy (z 0) (h 20) u.2.1 ++ (wl ad cy (z 0) (h 21) u.2.2.1 ++ (wl ad cy (z 0) (h 22) u.2.2.2.1 ++ wS h cy u.2.2.2.2)))) t.heap ∧ va_D A (wC h cy u.1 ++ (wl ad cy (z 0) (h 20) u.2.1 ++ (wl ad cy (z 0) (h 21) u.2.2.1 ++ (wl ad cy (z 0) (h 22) u.2.2.2.1 ++ wS h cy u.2.2.2.2))))) A) ([.ref (h 0)] : List Value).toArray s 0 0 A) (F0 m 27 ls []) := by
                intro K27 hX27 nn
                induction nn with
                | zero =>
                  intro v3_27 s_27 hF
                  exact hF.elim
                | succ nn ih =>
                  intro v3_27 s_27 hF H locs hP hD hS ls hl
                  obtain ⟨rec27, hrec⟩ : ∃ z : Int32 → FX → Prop, z = wp_X4_lists_L27 v1_7 v2_17 K27 nn := ⟨_, rfl⟩
                  have hF : wp_X4_lists_B27 v1_7 v2_17 K27 rec27 v3_27 s_27 := by rw [hrec]; exact hF
                  rw [← hrec] at ih
                  clear hrec
                  unfold wp_X4_lists_B27 at hF
                  refine lv_iload_n hx hb dX4_lists_27 rfl (lv_at hl 0 rfl) ?_
                  refine lv_iconst (v := 2) hx hb dX4_lists_28 (by decide) ?_
                  refine lv_iconst (v := 2) hx hb dX4_lists_29 (by decide) ?_
                  refine lv_aload_n hx hb dX4_lists_30 rfl (lv_at hl 3 rfl) ?_
                  refine va_get (D := (dC, dI)) (ci := 4) (v := .int (s_27.1.1 4)) (C := RX4) (T := TX4) (N := 19) hx hb hts in_X4 hown hK.1 hP 0 rfl rfl 17 (by decide) (hts _ q967) (fun _ h9 => h9) rfl dX4_lists_31 ?_
                  refine lv_iconst (v := 1) hx hb dX4_lists_34 (by decide) ?_
                  refine lv_iadd hx hb dX4_lists_35 ?_
                  refine lv_imul hx hb dX4_lists_36 ?_
                  refine lv_iadd hx hb dX4_lists_37 ?_
                  refine lv_icmp_ge (tgt := 148) hx hb dX4_lists_38 (by decide) (fun cz => ?_) (fun cz => ?_)
                  · have hF := hF.1 cz
                    exact hX27 s_27 hF _ _ hP hD hS _ (lv_sub hl [1, 2, 3] rfl)
                  · have hF := hF.2 cz
                    refine lv_aload_n hx hb dX4_lists_41 rfl (lv_at hl 3 rfl) ?_
                    refine va_get (D := (dC, dI)) (ci := 4) (v := .ref (h 2)) (C := RX4) (T := TX4) (N := 19) hx hb hts in_X4 hown hK.1 hP 0 rfl rfl 1 (by decide) (hts _ q951) (fun _ h9 => h9) rfl dX4_lists_42 ?_
                    refine lv_iload_n hx hb dX4_lists_45 rfl (lv_at hl 2 rfl) ?_
                    have hI := hF.1
                    have hF := hF.2
                    refine va_iald hx hb hK.1 hP 2 0 rfl rfl hI dX4_lists_46 ?_
                    refine lv_iload_n hx hb dX4_lists_47 rfl (lv_at hl 0 rfl) ?_
                    refine czDi (As := [.int ((s_27.1.2.1 1) v1_7.toNatClampNeg), .int v3_27]) (rest := []) ⟨hx, hb, hr, hml, hown, hts, hlocks⟩ hZ.2.1 hS (m_X4_step l z ((s_27.1.2.1 1) v1_7.toNatClampNeg) v3_27 _ hF) k_X4_step q930 ⟨rfl, rfl⟩ ⟨Nat.le_of_ble_eq_true rfl, Nat.le_of_ble_eq_true rfl⟩ hl.1 rfl rfl (Nat.le_of_ble_eq_true rfl) dX4_lists_48 ⟨Nat.le_of_ble_eq_true rfl, Nat.le_of_ble_eq_true rfl⟩ (fun r48 hF => ?_)
                    refine lv_istore (lv' := [(4, .int r48), (3, .int v3_27), (2, .int v2_17), (1, .int v1_7), (0, .ref (h 0))]) hx hb dX4_lists_51 hl (by decide) rfl (fun ls hl => ?_)
                    refine lv_iload hx hb dX4_lists_53 (lv_at hl 0 rfl) ?_
                    refine lv_iconst (v := (-1)) hx hb dX4_lists_55 (by decide) ?_
                    have hJ69 : ∀ (t0_69 : Int32), wp_X4_lists_J69 v1_7 v2_17 rec27 v3_27 s_27 r48 t0_69 → ∀ (H : Heap) (locs : List Loc), va_P (dC, dI) classes (wC h cy s_27.1 ++ (wl ad cy (z 0) (h 20) s_27.2.1 ++ (wl ad cy (z 0) (h 21) s_27.2.2.1 ++ (wl ad cy (z 0) (h 22) s_27.2.2.2.1 ++ wS h cy s_27.2.2.2.2)))) H → va_D A (wC h cy s_27.1 ++ (wl ad cy (z 0) (h 20) s_27.2.1 ++ (wl ad cy (z 0) (h 21) s_27.2.2.1 ++ (wl ad cy (z 0) (h 22) s_27.2.2.2.1 ++ wS h cy s_27.2.2.2.2)))) → va_S A s.heap H locs → ∀ (ls : Array Slot), lv_has ls 6 [(4, .int r48), (3, .int v3_27), (2, .int v2_17), (1, .int v1_7), (0, .ref (h 0))] → W p l e ({ frames := 2, cells := 0, slots := 0, locals := 45 } : Room) s m ([.ref (h 0)] : List Value).toArray below meth c H locs 0 0 (MQ below (va_Qv (fun u => P u) (fun (u : FX) t => va_P (dC, dI) classes (wC h cy u.1 ++ (wl ad cy (z 0) (h 20) u.2.1 ++ (wl ad cy (z 0) (h 21) u.2.2.1 ++ (wl ad cy (z 0) (h 22) u.2.2.2.1 ++ wS h cy u.2.2.2.2)))) t.heap ∧ va_D A (wC h cy u.1 ++ (wl ad cy (z 0) (h 20) u.2.1 ++ (wl ad cy (z 0) (h 21) u.2.2.1 ++ (wl ad cy (z 0) (h 22) u.2.2.2.1 ++ wS h cy u.2.2.2.2))))) A) ([.ref (h 0)] : List Value).toArray s 0 0 A) (F0 m 69 ls [.int t0_69]) := by
                      intro t0_69 hF H locs hP hD hS ls hl
                      unfold wp_X4_lists_J69 at hF
                      refine lv_istore (lv' := [(5, .int t0_69), (4, .int r48), (3, .int v3_27), (2, .int v2_17), (1, .int v1_7), (0, .ref (h 0))]) hx hb dX4_lists_69 hl (by decide) rfl (fun ls hl => ?_)
                      refine lv_iload hx hb dX4_lists_71 (lv_at hl 0 rfl) ?_
                      refine lv_aload_n hx hb dX4_lists_73 rfl (lv_at hl 5 rfl) ?_
                      refine va_get (D := (dC, dI)) (ci := 4) (v := .ref (h 2)) (C := RX4) (T := TX4) (N := 19) hx hb hts in_X4 hown hK.1 hP 0 rfl rfl 1 (by decide) (hts _ q951) (fun _ h9 => h9) rfl dX4_lists_74 ?_
                      refine lv_iload_n hx hb dX4_lists_77 rfl (lv_at hl 3 rfl) ?_
                      have hI := hF.1
                      have hF := hF.2
                      refine va_iald hx hb hK.1 hP 2 0 rfl rfl hI dX4_lists_78 ?_
                      have hJ142 : ∀ (s_142 : FX), wp_X4_lists_J142 rec27 v3_27 s_142 → ∀ (H : Heap) (locs : List Loc), va_P (dC, dI) classes (wC h cy s_142.1 ++ (wl ad cy (z 0) (h 20) s_142.2.1 ++ (wl ad cy (z 0) (h 21) s_142.2.2.1 ++ (wl ad cy (z 0) (h 22) s_142.2.2.2.1 ++ wS h cy s_142.2.2.2.2)))) H → va_D A (wC h cy s_142.1 ++ (wl ad cy (z 0) (h 20) s_142.2.1 ++ (wl ad cy (z 0) (h 21) s_142.2.2.1 ++ (wl ad cy (z 0) (h 22) s_142.2.2.2.1 ++ wS h cy s_142.2.2.2.2)))) → va_S A s.heap H locs → ∀ (ls : Array Slot), lv_has ls 6 [(3, .int v3_27), (2, .int v2_17), (1, .int v1_7), (0, .ref (h 0))] → W p l e ({ frames := 2, cells := 0, slots := 0, locals := 45 } : Room) s m ([.ref (h 0)] : List Value).toArray below meth c H locs 0 0 (MQ below (va_Qv (fun u => P u) (fun (u : FX) t => va_P (dC, dI) classes (wC h cy u.1 ++ (wl ad cy (z 0) (h 20) u.2.1 ++ (wl ad cy (z 0) (h 21) u.2.2.1 ++ (wl ad cy (z 0) (h 22) u.2.2.2.1 ++ wS h cy u.2.2.2.2)))) t.heap ∧ va_D A (wC h cy u.1 ++ (wl ad cy (z 0) (h 20) u.2.1 ++ (wl ad cy (z 0) (h 21) u.2.2.1 ++ (wl ad cy (z 0) (h 22) u.2.2.2.1 ++ wS h cy u.2.2.2.2))))) A) ([.ref (h 0)] : List Value).toArray s 0 0 A) (F0 m 142 ls []) := by
                        intro s_142 hF H locs hP hD hS ls hl
                        unfold wp_X4_lists_J142 at hF
                        refine lv_iinc (v := v3_27 + 1) (lv' := [(3, .int (v3_27 + 1)), (2, .int v2_17), (1, .int v1_7), (0, .ref (h 0))]) hx hb dX4_lists_142 hl (k := 0) rfl (by rfl) (by decide) rfl (fun ls hl => ?_)
                        refine lv_goto (tgt := 27) hx hb dX4_lists_145 (by decide) ?_
                        exact ih (v3_27 + 1) s_142 hF _ _ hP hD hS _ (lv_sub hl [0, 1, 2, 3] rfl)
                      refine lv_icmp_ne (tgt := 142) hx hb dX4_lists_79 (by decide) (fun cz => ?_) (fun cz => ?_)
                      · have hF := hF.1 cz
                        exact hJ142 s_27 hF _ _ hP hD hS _ (lv_sub hl [2, 3, 4, 5] rfl)
                      · have hF := hF.2 cz
                        refine lv_aload_n hx hb dX4_lists_82 rfl (lv_at hl 5 rfl) ?_
                        refine va_get (D := (dC, dI)) (ci := 4) (v := .ref (h 1)) (C := RX4) (T := TX4) (N := 19) hx hb hts in_X4 hown hK.1 hP 0 rfl rfl 0 (by decide) (hts _ q950) (fun _ h9 => h9) rfl dX4_lists_83 ?_
                        refine lv_iload hx hb dX4_lists_86 (lv_at hl 1 rfl) ?_
                        have hI := hF.1
                        have hF := hF.2
                        refine va_iald hx hb hK.1 hP 1 0 rfl rfl hI dX4_lists_88 ?_
                        refine lv_iconst (v := (-1)) hx hb dX4_lists_89 (by decide) ?_
                        refine lv_icmp_ne (tgt := 96) hx hb dX4_lists_90 (by decide) (fun cz => ?_) (fun cz => ?_)
                        · have hF := hF.1 cz
                          refine lv_aload_n hx hb dX4_lists_96 rfl (lv_at hl 5 rfl) ?_
                          refine va_get (D := (dC, dI)) (ci := 4) (v := .ref (h 4)) (C := RX4) (T := TX4) (N := 19) hx hb hts in_X4 hown hK.1 hP 0 rfl rfl 3 (by decide) (hts _ q953) (fun _ h9 => h9) rfl dX4_lists_97 ?_
                          refine lv_aload_n hx hb dX4_lists_100 rfl (lv_at hl 5 rfl) ?_
                          refine va_get (D := (dC, dI)) (ci := 4) (v := .int (s_27.1.1 1)) (C := RX4) (T := TX4) (N := 19) hx hb hts in_X4 hown hK.1 hP 0 rfl rfl 14 (by decide) (hts _ q964) (fun _ h9 => h9) rfl dX4_lists_101 ?_
                          refine lv_iload_n hx hb dX4_lists_104 rfl (lv_at hl 4 rfl) ?_
                          have hI := hF.1
                          have hF := hF.2
                          refine va_iast hx hb hK.1 hP hD hS 4 0 rfl rfl hI dX4_lists_105 (fun H locs hP hD hS => ?_)
                          have hP : va_P (dC, dI) classes (wC h cy (sA s_27.1 3 (upd (s_27.1.2.1 3) (s_27.1.1 1).toNatClampNeg v1_7)) ++ (wl ad cy (z 0) (h 20) s_27.2.1 ++ (wl ad cy (z 0) (h 21) s_27.2.2.1 ++ (wl ad cy (z 0) (h 22) s_27.2.2.2.1 ++ wS h cy s_27.2.2.2.2)))) H := hP
                          have hD : va_D A (wC h cy (sA s_27.1 3 (upd (s_27.1.2.1 3) (s_27.1.1 1).toNatClampNeg v1_7)) ++ (wl ad cy (z 0) (h 20) s_27.2.1 ++ (wl ad cy (z 0) (h 21) s_27.2.2.1 ++ (wl ad cy (z 0) (h 22) s_27.2.2.2.1 ++ wS h cy s_27.2.2.2.2)))) := hD
                          refine lv_aload_n hx hb dX4_lists_106 rfl (lv_at hl 5 rfl) ?_
                          refine va_get (D := (dC, dI)) (ci := 4) (v := .ref (h 5)) (C := RX4) (T := TX4) (N := 19) hx hb hts in_X4 hown hK.1 hP 0 rfl rfl 4 (by decide) (hts _ q954) (fun _ h9 => h9) rfl dX4_lists_107 ?_
                          refine lv_aload_n hx hb dX4_lists_110 rfl (lv_at hl 5 rfl) ?_
                          refine va_get (D := (dC, dI)) (ci := 4) (v := .int (s_27.1.1 1)) (C := RX4) (T := TX4) (N := 19) hx hb hts in_X4 hown hK.1 hP 0 rfl rfl 14 (by decide) (hts _ q964) (fun _ h9 => h9) rfl dX4_lists_111 ?_
                          refine lv_aload_n hx hb dX4_lists_114 rfl (lv_at hl 5 rfl) ?_
                          refine va_get (D := (dC, dI)) (ci := 4) (v := .ref (h 1)) (C := RX4) (T := TX4) (N := 19) hx hb hts in_X4 hown hK.1 hP 0 rfl rfl 0 (by decide) (hts _ q950) (fun _ h9 => h9) rfl dX4_lists_115 ?_
                          refine lv_iload hx hb dX4_lists_118 (lv_at hl 1 rfl) ?_
                          have hI := hF.1
                          have hF := hF.2
                          refine va_iald hx hb hK.1 hP 1 0 rfl rfl hI dX4_lists_120 ?_
                          have hI := hF.1
                          have hF := hF.2
                          refine va_iast hx hb hK.1 hP hD hS 5 0 rfl rfl hI dX4_lists_121 (fun H locs hP hD hS => ?_)
                          have hP : va_P (dC, dI) classes (wC h cy (sA (sA s_27.1 3 (upd (s_27.1.2.1 3) (s_27.1.1 1).toNatClampNeg v1_7)) 4 (upd (s_27.1.2.1 4) (s_27.1.1 1).toNatClampNeg ((s_27.1.2.1 0) r48.toNatClampNeg))) ++ (wl ad cy (z 0) (h 20) s_27.2.1 ++ (wl ad cy (z 0) (h 21) s_27.2.2.1 ++ (wl ad cy (z 0) (h 22) s_27.2.2.2.1 ++ wS h cy s_27.2.2.2.2)))) H := hP
                          have hD : va_D A (wC h cy (sA (sA s_27.1 3 (upd (s_27.1.2.1 3) (s_27.1.1 1).toNatClampNeg v1_7)) 4 (upd (s_27.1.2.1 4) (s_27.1.1 1).toNatClampNeg ((s_27.1.2.1 0) r48.toNatClampNeg))) ++ (wl ad cy (z 0) (h 20) s_27.2.1 ++ (wl ad cy (z 0) (h 21) s_27.2.2.1 ++ (wl ad cy (z 0) (h 22) s_27.2.2.2.1 ++ wS h cy s_27.2.2.2.2)))) := hD
                          refine lv_aload_n hx hb dX4_lists_122 rfl (lv_at hl 5 rfl) ?_
                          refine va_get (D := (dC, dI)) (ci := 4) (v := .ref (h 6)) (C := RX4) (T := TX4) (N := 19) hx hb hts in_X4 hown hK.1 hP 0 rfl rfl 5 (by decide) (hts _ q955) (fun _ h9 => h9) rfl dX4_lists_123 ?_
                          refine lv_aload_n hx hb dX4_lists_126 rfl (lv_at hl 5 rfl) ?_
                          refine va_get (D := (dC, dI)) (ci := 4) (v := .int (s_27.1.1 1)) (C := RX4) (T := TX4) (N := 19) hx hb hts in_X4 hown hK.1 hP 0 rfl rfl 14 (by decide) (hts _ q964) (fun _ h9 => h9) rfl dX4_lists_127 ?_
                          refine lv_iload_n hx hb dX4_lists_130 rfl (lv_at hl 3 rfl) ?_
                          have hI := hF.1
                          have hF := hF.2
                          refine va_iast hx hb hK.1 hP hD hS 6 0 rfl rfl hI dX4_lists_131 (fun H locs hP hD hS => ?_)
                          have hP : va_P (dC, dI) classes (wC h cy (sA (sA (sA s_27.1 3 (upd (s_27.1.2.1 3) (s_27.1.1 1).toNatClampNeg v1_7)) 4 (upd (s_27.1.2.1 4) (s_27.1.1 1).toNatClampNeg ((s_27.1.2.1 0) r48.toNatClampNeg))) 5 (upd (s_27.1.2.1 5) (s_27.1.1 1).toNatClampNeg v2_17)) ++ (wl ad cy (z 0) (h 20) s_27.2.1 ++ (wl ad cy (z 0) (h 21) s_27.2.2.1 ++ (wl ad cy (z 0) (h 22) s_27.2.2.2.1 ++ wS h cy s_27.2.2.2.2)))) H := hP
                          have hD : va_D A (wC h cy (sA (sA (sA s_27.1 3 (upd (s_27.1.2.1 3) (s_27.1.1 1).toNatClampNeg v1_7)) 4 (upd (s_27.1.2.1 4) (s_27.1.1 1).toNatClampNeg ((s_27.1.2.1 0) r48.toNatClampNeg))) 5 (upd (s_27.1.2.1 5) (s_27.1.1 1).toNatClampNeg v2_17)) ++ (wl ad cy (z 0) (h 20) s_27.2.1 ++ (wl ad cy (z 0) (h 21) s_27.2.2.1 ++ (wl ad cy (z 0) (h 22) s_27.2.2.2.1 ++ wS h cy s_27.2.2.2.2)))) := hD
                          refine lv_aload_n hx hb dX4_lists_132 rfl (lv_at hl 5 rfl) ?_
                          refine lv_dup hx hb dX4_lists_133 rfl ?_
                          refine va_get (D := (dC, dI)) (ci := 4) (v := .int (s_27.1.1 1)) (C := RX4) (T := TX4) (N := 19) hx hb hts in_X4 hown hK.1 hP 0 rfl rfl 14 (by decide) (hts _ q964) (fun _ h9 => h9) rfl dX4_lists_134 ?_
                          refine lv_iconst (v := 1) hx hb dX4_lists_137 (by decide) ?_
                          refine lv_iadd hx hb dX4_lists_138 ?_
                          refine va_put (D := (dC, dI)) (ci := 4) (v := .int ((s_27.1.1 1) + 1)) (ty := .int) (C := RX4) (T := TX4) (N := 19) hx hb hts in_X4 tyX4 tyX4_ok nmX4 hown hK.1 hP hD hS 0 rfl rfl 14 (by decide) (hts _ q964) (fun _ h9 => h9) rfl (by decide +kernel) rfl rfl (Nat.le_of_ble_eq_true rfl) dX4_lists_139 (fun H locs hP hD hS => ?_)
                          have hP : va_P (dC, dI) classes (wC h cy (sI (sA (sA (sA s_27.1 3 (upd (s_27.1.2.1 3) (s_27.1.1 1).toNatClampNeg v1_7)) 4 (upd (s_27.1.2.1 4) (s_27.1.1 1).toNatClampNeg ((s_27.1.2.1 0) r48.toNatClampNeg))) 5 (upd (s_27.1.2.1 5) (s_27.1.1 1).toNatClampNeg v2_17)) 1 ((s_27.1.1 1) + 1)) ++ (wl ad cy (z 0) (h 20) s_27.2.1 ++ (wl ad cy (z 0) (h 21) s_27.2.2.1 ++ (wl ad cy (z 0) (h 22) s_27.2.2.2.1 ++ wS h cy s_27.2.2.2.2)))) H := hP
                          have hD : va_D A (wC h cy (sI (sA (sA (sA s_27.1 3 (upd (s_27.1.2.1 3) (s_27.1.1 1).toNatClampNeg v1_7)) 4 (upd (s_27.1.2.1 4) (s_27.1.1 1).toNatClampNeg ((s_27.1.2.1 0) r48.toNatClampNeg))) 5 (upd (s_27.1.2.1 5) (s_27.1.1 1).toNatClampNeg v2_17)) 1 ((s_27.1.1 1) + 1)) ++ (wl ad cy (z 0) (h 20) s_27.2.1 ++ (wl ad cy (z 0) (h 21) s_27.2.2.1 ++ (wl ad cy (z 0) (h 22) s_27.2.2.2.1 ++ wS h cy s_27.2.2.2.2)))) := hD
                          exact hJ142 (sI (sA (sA (sA s_27.1 3 (upd (s_27.1.2.1 3) (s_27.1.1 1).toNatClampNeg v1_7)) 4 (upd (s_27.1.2.1 4) (s_27.1.1 1).toNatClampNeg ((s_27.1.2.1 0) r48.toNatClampNeg))) 5 (upd (s_27.1.2.1 5) (s_27.1.1 1).toNatClampNeg v2_17)) 1 ((s_27.1.1 1) + 1), s_27.2.1, s_27.2.2.1, s_27.2.2.2.1, s_27.2.2.2.2) hF _ _ hP hD hS _ (lv_sub hl [2, 3, 4, 5] rfl)
                        · have hF := hF.2 cz
                          refine lv_goto (tgt := 142) hx hb dX4_lists_93 (by decide) ?_
                          exact hJ142 s_27 hF _ _ hP hD hS _ (lv_sub hl [2, 3, 4, 5] rfl)
                    refine lv_icmp_ne (tgt := 63) hx hb dX4_lists_56 (by decide) (fun cz => ?_) (fun cz => ?_)
                    · have hF := hF.1 cz
                      refine lv_iload hx hb dX4_lists_63 (lv_at hl 0 rfl) ?_
                      refine lv_iload_n hx hb dX4_lists_65 rfl (lv_at hl 1 rfl) ?_
                      refine czDi (As := [.int r48, .int v3_27]) (rest := []) ⟨hx, hb, hr, hml, hown, hts, hlocks⟩ hZ.2.1 hS (m_X4_step l z r48 v3_27 _ hF) k_X4_step q930 ⟨rfl, rfl⟩ ⟨Nat.le_of_ble_eq_true rfl, Nat.le_of_ble_eq_true rfl⟩ hl.1 rfl rfl (Nat.le_of_ble_eq_true rfl) dX4_lists_66 ⟨Nat.le_of_ble_eq_true rfl, Nat.le_of_ble_eq_true rfl⟩ (fun r66 hF => ?_)
                      exact hJ69 r66 hF _ _ hP hD hS _ (lv_sub hl [0, 1, 2, 3, 4] rfl)
                    · have hF := hF.2 cz
                      refine lv_iconst (v := (-1)) hx hb dX4_lists_59 (by decide) ?_
                      refine lv_goto (tgt := 69) hx hb dX4_lists_60 (by decide) ?_
                      exact hJ69 (-1) hF _ _ hP hD hS _ (lv_sub hl [0, 1, 2, 3, 4] rfl)
              exact hL27 _ hX27 fu 0 s_17 hF _ _ hP hD hS _ (lv_sub hl [0, 1, 2, 3] rfl)
        exact hL17 _ hX17 fu 0 s_7 hF _ _ hP hD hS _ (lv_sub hl [0, 1, 2] rfl)
  exact hL7 _ hX7 fu 0 (sI σ.1 1 0, σ.2.1, σ.2.2.1, σ.2.2.2.1, σ.2.2.2.2) hF _ _ hP hD hS _ (lv_sub hl [0, 1] rfl)
theorem dX4_numbers_0 : decode cX4_numbers 0 = .ok (.aload_n 0, 1) := by decide +kernel
theorem dX4_numbers_1 : decode cX4_numbers 1 = .ok (.getfield 9, 3) := by decide +kernel
theorem dX4_numbers_4 : decode cX4_numbers 4 = .ok (.iconst (-1), 1) := by decide +kernel
theorem dX4_numbers_5 : decode cX4_numbers 5 = .ok (.invokestatic 108, 3) := by decide +kernel
theorem dX4_numbers_8 : decode cX4_numbers 8 = .ok (.iconst 0, 1) := by decide +kernel
theorem dX4_numbers_9 : decode cX4_numbers 9 = .ok (.istore_n 1, 1) := by decide +kernel
theorem dX4_numbers_10 : decode cX4_numbers 10 = .ok (.iload_n 1, 1) := by decide +kernel
theorem dX4_numbers_11 : decode cX4_numbers 11 = .ok (.aload_n 0, 1) := by decide +kernel
theorem dX4_numbers_12 : decode cX4_numbers 12 = .ok (.getfield 64, 3) := by decide +kernel
theorem dX4_numbers_15 : decode cX4_numbers 15 = .ok (.if_icmp .ge 21, 3) := by decide +kernel
theorem dX4_numbers_18 : decode cX4_numbers 18 = .ok (.aload_n 0, 1) := by decide +kernel
theorem dX4_numbers_19 : decode cX4_numbers 19 = .ok (.getfield 9, 3) := by decide +kernel
theorem dX4_numbers_22 : decode cX4_numbers 22 = .ok (.aload_n 0, 1) := by decide +kernel
theorem dX4_numbers_23 : decode cX4_numbers 23 = .ok (.getfield 13, 3) := by decide +kernel
theorem dX4_numbers_26 : decode cX4_numbers 26 = .ok (.iload_n 1, 1) := by decide +kernel
theorem dX4_numbers_27 : decode cX4_numbers 27 = .ok (.iaload, 1) := by decide +kernel
theorem dX4_numbers_28 : decode cX4_numbers 28 = .ok (.iload_n 1, 1) := by decide +kernel
theorem dX4_numbers_29 : decode cX4_numbers 29 = .ok (.iastore, 1) := by decide +kernel
theorem dX4_numbers_30 : decode cX4_numbers 30 = .ok (.iinc 1 1, 3) := by decide +kernel
theorem dX4_numbers_33 : decode cX4_numbers 33 = .ok (.goto (-23), 3) := by decide +kernel
theorem dX4_numbers_36 : decode cX4_numbers 36 = .ok (.aload_n 0, 1) := by decide +kernel
theorem dX4_numbers_37 : decode cX4_numbers 37 = .ok (.iconst 0, 1) := by decide +kernel
theorem dX4_numbers_38 : decode cX4_numbers 38 = .ok (.putfield 114, 3) := by decide +kernel
theorem dX4_numbers_41 : decode cX4_numbers 41 = .ok (.aload_n 0, 1) := by decide +kernel
theorem dX4_numbers_42 : decode cX4_numbers 42 = .ok (.invokevirtual 57, 3) := by decide +kernel
theorem dX4_numbers_45 : decode cX4_numbers 45 = .ok (.return_, 1) := by decide +kernel
def wp_X4_numbers_B10 (K10 : FX → Prop) (rec10 : Int32 → FX → Prop) (v1_10 : Int32) (s_10 : FX) : Prop := (((s_10.1.1 0) ≤ v1_10 → (K10 s_10)) ∧ (¬ (s_10.1.1 0) ≤ v1_10 → (vp_in v1_10 13 ∧ (vp_in ((s_10.1.2.1 1) v1_10.toNatClampNeg) 25 ∧ (rec10 (v1_10 + 1) (sA s_10.1 0 (upd (s_10.1.2.1 0) ((s_10.1.2.1 1) v1_10.toNatClampNeg).toNatClampNeg v1_10), s_10.2.1, s_10.2.2.1, s_10.2.2.2.1, s_10.2.2.2.2))))))
def wp_X4_numbers_L10 (K10 : FX → Prop) : Nat → Int32 → FX → Prop
  | 0, _, _ => False
  | nn + 1, v1_10, s_10 => wp_X4_numbers_B10 K10 (wp_X4_numbers_L10 K10 nn) v1_10 s_10
def wp_X4_numbers (fu : Nat) (σ : FX) (P : FX → Prop) : Prop := (wp_J7_fill_53178 fu 25 (σ.1.2.1 0) (-1) (fun f5 => (wp_X4_numbers_L10 (fun (s_36 : FX) => (wp_X4_lists fu (sI s_36.1 3 0, s_36.2.1, s_36.2.2.1, s_36.2.2.2.1, s_36.2.2.2.2) (fun s42 => (P s42)))) fu 0 (sA σ.1 0 f5, σ.2.1, σ.2.2.1, σ.2.2.2.1, σ.2.2.2.2))))
theorem k_X4_numbers : KV RX4 yX4_numbers cX4_numbers 2 none 0 := ⟨q1139, qs28, q5, q1140, by decide +kernel⟩
set_option maxHeartbeats 4000000 in
set_option maxRecDepth 100000 in
theorem m_X4_numbers (l : Launch) (dC : Nat → ClassId) (dI : Nat → Nat → Nat) (h : Nat → Nat) (cy : Nat → ClassId) (z ad : Nat → Nat) (sz : Nat) (fu : Nat) (σ : FX) (P : FX → Prop) (hF : wp_X4_numbers fu σ P) : Met l yX4_numbers (ws_ yX4_numbers cX4_numbers 2 none) ({ frames := 3, cells := 0, slots := 0, locals := 70 } : Room) (va_Pc [.ref (h 0)] (PcF dC dI cy z ad (wC h cy σ.1 ++ (wl ad cy (z 0) (h 20) σ.2.1 ++ (wl ad cy (z 0) (h 21) σ.2.2.1 ++ (wl ad cy (z 0) (h 22) σ.2.2.2.1 ++ wS h cy σ.2.2.2.2)))) sz)) (va_Qv (fun u => P u) (fun (u : FX) t => va_P (dC, dI) classes (wC h cy u.1 ++ (wl ad cy (z 0) (h 20) u.2.1 ++ (wl ad cy (z 0) (h 21) u.2.2.1 ++ (wl ad cy (z 0) (h 22) u.2.2.2.1 ++ wS h cy u.2.2.2.2)))) t.heap ∧ va_D (va_A (wC h cy σ.1 ++ (wl ad cy (z 0) (h 20) σ.2.1 ++ (wl ad cy (z 0) (h 21) σ.2.2.1 ++ (wl ad cy (z 0) (h 22) σ.2.2.2.1 ++ wS h cy σ.2.2.2.2)))) sz) (wC h cy u.1 ++ (wl ad cy (z 0) (h 20) u.2.1 ++ (wl ad cy (z 0) (h 21) u.2.2.1 ++ (wl ad cy (z 0) (h 22) u.2.2.2.1 ++ wS h cy u.2.2.2.2))))) (va_A (wC h cy σ.1 ++ (wl ad cy (z 0) (h 20) σ.2.1 ++ (wl ad cy (z 0) (h 21) σ.2.2.1 ++ (wl ad cy (z 0) (h 22) σ.2.2.2.1 ++ wS h cy σ.2.2.2.2)))) sz)) 0 0 (va_A (wC h cy σ.1 ++ (wl ad cy (z 0) (h 20) σ.2.1 ++ (wl ad cy (z 0) (h 21) σ.2.2.1 ++ (wl ad cy (z 0) (h 22) σ.2.2.2.1 ++ wS h cy σ.2.2.2.2)))) sz) := by
  refine Met.ofCx (own := RX4) (by decide) rfl (Nat.le_of_ble_eq_true rfl) ?_
  intro p e s m below meth c hC hv ls hl
  obtain ⟨hx, hb, hr, hml, hown, hts, hlocks⟩ := hC
  have hl : lv_has ls 2 [(0, .ref (h 0))] := hl
  obtain ⟨hsz, hP, hK, hD0, hZ, hvk⟩ := hv
  subst hsz
  have hD := hD0.self (sz := s.heap.size)
  generalize hAe : va_A (wC h cy σ.1 ++ (wl ad cy (z 0) (h 20) σ.2.1 ++ (wl ad cy (z 0) (h 21) σ.2.2.1 ++ (wl ad cy (z 0) (h 22) σ.2.2.2.1 ++ wS h cy σ.2.2.2.2)))) s.heap.size = A at hD hZ ⊢
  have hA : ∀ q : Nat, s.heap.size ≤ q → A q := fun q h => by rw [← hAe]; exact Or.inr h
  have hS : va_S A s.heap s.heap [] := va_S.rf
  clear hAe
  unfold wp_X4_numbers at hF
  refine lv_aload_n hx hb dX4_numbers_0 rfl (lv_at hl 0 rfl) ?_
  refine va_get (D := (dC, dI)) (ci := 4) (v := .ref (h 1)) (C := RX4) (T := TX4) (N := 19) hx hb hts in_X4 hown hK.1 hP 0 rfl rfl 0 (by decide) (hts _ q950) (fun _ h9 => h9) rfl dX4_numbers_1 ?_
  refine lv_iconst (v := (-1)) hx hb dX4_numbers_4 (by decide) ?_
  have hFc := fw_free (fp0 _ _) hD hS hA
  have hPq := fw_get (fp0 _ _) hP
  have hDq := (fw_getD (fp0 _ _) hD).self (sz := s.heap.size)
  have hDe := fw_getD (fp0 _ _) hD
  have hPc := hPq.sub (ws' := wI1 (h 1) cy 25 (σ.1.2.1 0)) [1] rfl
  have hDc := hDq.sub (ws' := wI1 (h 1) cy 25 (σ.1.2.1 0)) [1] (by decide) rfl
  have hFq := va_free (wc := wI1 (h 1) cy 25 (σ.1.2.1 0)) hDq (va_S.rf (H0 := s.heap)) (fun q h => Or.inr h) [1] rfl
  refine cwSv (wn := fun f => wI1 (h 1) cy 25 f) (As := [.ref (h 1), .int (-1)]) (rest := []) ⟨hx, hb, hr, hml, hown, hts, hlocks⟩ hK hPc hDc hS (fun q h => hFc q (hFq q h)) (m_J7_fill_53178 l dC dI (h 1) cy _ fu 25 (σ.1.2.1 0) (-1) _ hF) k_J7_fill_53178 q1141 ⟨rfl, rfl⟩ ⟨Nat.le_of_ble_eq_true rfl, Nat.le_of_ble_eq_true rfl⟩ hl.1 rfl rfl (Nat.le_of_ble_eq_true rfl) dX4_numbers_5 ⟨Nat.le_of_ble_eq_true rfl, Nat.le_of_ble_eq_true rfl⟩ (fun u H1 locs hF hP1 hD1 hk1 hS => ?_)
  obtain ⟨f5, rfl⟩ : ∃ z, z = u := ⟨_, rfl⟩
  obtain ⟨hPj, hDj⟩ := va_join (wr := [(h 0, .inr (4, [.ref (h 1), .ref (h 2), .ref (h 3), .ref (h 4), .ref (h 5), .ref (h 6), .ref (h 20), .ref (h 21), .ref (h 22), .ref (h 7), .ref (h 8), .ref (h 9), .ref (h 23), .int (σ.1.1 0), .int (σ.1.1 1), .int (σ.1.1 2), .int (σ.1.1 3), .int (σ.1.1 4), .int (σ.1.1 5)])), (h 2, .inl (cy 0, 13, .inl (σ.1.2.1 1))), (h 3, .inl (cy 0, 13, .inl (σ.1.2.1 2))), (h 4, .inl (cy 0, 104, .inl (σ.1.2.1 3))), (h 5, .inl (cy 0, 104, .inl (σ.1.2.1 4))), (h 6, .inl (cy 0, 104, .inl (σ.1.2.1 5))), (h 7, .inl (cy 1, 8192, .inr (.inl (σ.1.2.2)))), (h 8, .inl (cy 2, 8192, .inl (σ.1.2.1 6))), (h 9, .inl (cy 0, 8192, .inl (σ.1.2.1 7)))]) (w1 := wI1 (h 1) cy 25 f5) hPq hDq [1] [0, 2, 3, 4, 5, 6, 7, 8, 9] rfl rfl (by decide) (by decide) hk1 hFq hP1 hD1
  have hPj := hPj.sub (ws' := wC h cy (sA σ.1 0 f5)) [0, 9, 1, 2, 3, 4, 5, 6, 7, 8] rfl
  have hDj := hDj.sub (ws' := wC h cy (sA σ.1 0 f5)) [0, 9, 1, 2, 3, 4, 5, 6, 7, 8] (by decide) rfl
  obtain ⟨hP, hD⟩ := fw_join (fp0 _ _) hP hD (fun q h1 h2 => hk1 q h1 (fun h3 => h2 (hFq q h3))) hFc hPj hDj
  generalize H1 = H at hP hS ⊢
  have hP : va_P (dC, dI) classes (wC h cy (sA σ.1 0 f5) ++ (wl ad cy (z 0) (h 20) σ.2.1 ++ (wl ad cy (z 0) (h 21) σ.2.2.1 ++ (wl ad cy (z 0) (h 22) σ.2.2.2.1 ++ wS h cy σ.2.2.2.2)))) H := hP
  have hD : va_D A (wC h cy (sA σ.1 0 f5) ++ (wl ad cy (z 0) (h 20) σ.2.1 ++ (wl ad cy (z 0) (h 21) σ.2.2.1 ++ (wl ad cy (z 0) (h 22) σ.2.2.2.1 ++ wS h cy σ.2.2.2.2)))) := hD
  refine lv_iconst (v := 0) hx hb dX4_numbers_8 (by decide) ?_
  refine lv_istore_n (lv' := [(1, .int 0), (0, .ref (h 0))]) hx hb dX4_numbers_9 rfl hl (by decide) rfl (fun ls hl => ?_)
  have hX10 : ∀ (s_36 : FX), (fun (s_36 : FX) => (wp_X4_lists fu (sI s_36.1 3 0, s_36.2.1, s_36.2.2.1, s_36.2.2.2.1, s_36.2.2.2.2) (fun s42 => (P s42)))) s_36 → ∀ (H : Heap) (locs : List Loc), va_P (dC, dI) classes (wC h cy s_36.1 ++ (wl ad cy (z 0) (h 20) s_36.2.1 ++ (wl ad cy (z 0) (h 21) s_36.2.2.1 ++ (wl ad cy (z 0) (h 22) s_36.2.2.2.1 ++ wS h cy s_36.2.2.2.2)))) H → va_D A (wC h cy s_36.1 ++ (wl ad cy (z 0) (h 20) s_36.2.1 ++ (wl ad cy (z 0) (h 21) s_36.2.2.1 ++ (wl ad cy (z 0) (h 22) s_36.2.2.2.1 ++ wS h cy s_36.2.2.2.2)))) → va_S A s.heap H locs → ∀ (ls : Array Slot), lv_has ls 2 [(0, .ref (h 0))] → W p l e ({ frames := 3, cells := 0, slots := 0, locals := 70 } : Room) s m ([.ref (h 0)] : List Value).toArray below meth c H locs 0 0 (MQ below (va_Qv (fun u => P u) (fun (u : FX) t => va_P (dC, dI) classes (wC h cy u.1 ++ (wl ad cy (z 0) (h 20) u.2.1 ++ (wl ad cy (z 0) (h 21) u.2.2.1 ++ (wl ad cy (z 0) (h 22) u.2.2.2.1 ++ wS h cy u.2.2.2.2)))) t.heap ∧ va_D A (wC h cy u.1 ++ (wl ad cy (z 0) (h 20) u.2.1 ++ (wl ad cy (z 0) (h 21) u.2.2.1 ++ (wl ad cy (z 0) (h 22) u.2.2.2.1 ++ wS h cy u.2.2.2.2))))) A) ([.ref (h 0)] : List Value).toArray s 0 0 A) (F0 m 36 ls []) := by
    intro s_36 hF H locs hP hD hS ls hl
    refine lv_aload_n hx hb dX4_numbers_36 rfl (lv_at hl 0 rfl) ?_
    refine lv_iconst (v := 0) hx hb dX4_numbers_37 (by decide) ?_
    refine va_put (D := (dC, dI)) (ci := 4) (v := .int 0) (ty := .int) (C := RX4) (T := TX4) (N := 19) hx hb hts in_X4 tyX4 tyX4_ok nmX4 hown hK.1 hP hD hS 0 rfl rfl 16 (by decide) (hts _ q966) (fun _ h9 => h9) rfl (by decide +kernel) rfl rfl (Nat.le_of_ble_eq_true rfl) dX4_numbers_38 (fun H locs hP hD hS => ?_)
    have hP : va_P (dC, dI) classes (wC h cy (sI s_36.1 3 0) ++ (wl ad cy (z 0) (h 20) s_36.2.1 ++ (wl ad cy (z 0) (h 21) s_36.2.2.1 ++ (wl ad cy (z 0) (h 22) s_36.2.2.2.1 ++ wS h cy s_36.2.2.2.2)))) H := hP
    have hD : va_D A (wC h cy (sI s_36.1 3 0) ++ (wl ad cy (z 0) (h 20) s_36.2.1 ++ (wl ad cy (z 0) (h 21) s_36.2.2.1 ++ (wl ad cy (z 0) (h 22) s_36.2.2.2.1 ++ wS h cy s_36.2.2.2.2)))) := hD
    refine lv_aload_n hx hb dX4_numbers_41 rfl (lv_at hl 0 rfl) ?_
    refine cfVv (x := wC h cy (sI s_36.1 3 0) ++ (wl ad cy (z 0) (h 20) s_36.2.1 ++ (wl ad cy (z 0) (h 21) s_36.2.2.1 ++ (wl ad cy (z 0) (h 22) s_36.2.2.2.1 ++ wS h cy s_36.2.2.2.2)))) (fpN _) ⟨hx, hb, hr, hml, hown, hts, hlocks⟩ hK hP hD hZ hvk hS hA rfl (m_X4_lists l dC dI h cy z ad _ fu (sI s_36.1 3 0, s_36.2.1, s_36.2.2.1, s_36.2.2.2.1, s_36.2.2.2.2)  _ hF) (As := []) (rest := []) k_X4_lists q926 ⟨rfl, rfl⟩ ⟨Nat.le_of_ble_eq_true rfl, Nat.le_of_ble_eq_true rfl⟩ hl.1 rfl rfl (Nat.le_of_ble_eq_true rfl) dX4_numbers_42 ⟨Nat.le_of_ble_eq_true rfl, Nat.le_of_ble_eq_true rfl⟩ (fun s42 H1 locs hF hP1 hD1 hS => ?_)
    have hP := va_P.perm (fpN _).symm hP1
    have hD := va_D.perm (fpN _).symm hD1
    generalize H1 = H at hP hS ⊢
    have hP : va_P (dC, dI) classes (wC h cy s42.1 ++ (wl ad cy (z 0) (h 20) s42.2.1 ++ (wl ad cy (z 0) (h 21) s42.2.2.1 ++ (wl ad cy (z 0) (h 22) s42.2.2.2.1 ++ wS h cy s42.2.2.2.2)))) H := hP
    have hD : va_D A (wC h cy s42.1 ++ (wl ad cy (z 0) (h 20) s42.2.1 ++ (wl ad cy (z 0) (h 21) s42.2.2.1 ++ (wl ad cy (z 0) (h 22) s42.2.2.2.1 ++ wS h cy s42.2.2.2.2)))) := hD
    exact W.vret hx hb hr (fun t ht hW => ⟨⟨s42, rfl, hF, by rw [ht]; exact hP, hD⟩, hS.F ht⟩) hS.2.2 dX4_numbers_45
  have hL10 : ∀ (K10 : FX → Prop), (∀ (s_36 : FX), K10 s_36 → ∀ (H : Heap) (locs : List Loc), va_P (dC, dI) classes (wC h cy s_36.1 ++ (wl ad cy (z 0) (h 20) s_36.2.1 ++ (wl ad cy (z 0) (h 21) s_36.2.2.1 ++ (wl ad cy (z 0) (h 22) s_36.2.2.2.1 ++ wS h cy s_36.2.2.2.2)))) H → va_D A (wC h cy s_36.1 ++ (wl ad cy (z 0) (h 20) s_36.2.1 ++ (wl ad cy (z 0) (h 21) s_36.2.2.1 ++ (wl ad cy (z 0) (h 22) s_36.2.2.2.1 ++ wS h cy s_36.2.2.2.2)))) → va_S A s.heap H locs → ∀ (ls : Array Slot), lv_has ls 2 [(0, .ref (h 0))] → W p l e ({ frames := 3, cells := 0, slots := 0, locals := 70 } : Room) s m ([.ref (h 0)] : List Value).toArray below meth c H locs 0 0 (MQ below (va_Qv (fun u => P u) (fun (u : FX) t => va_P (dC, dI) classes (wC h cy u.1 ++ (wl ad cy (z 0) (h 20) u.2.1 ++ (wl ad cy (z 0) (h 21) u.2.2.1 ++ (wl ad cy (z 0) (h 22) u.2.2.2.1 ++ wS h cy u.2.2.2.2)))) t.heap ∧ va_D A (wC h cy u.1 ++ (wl ad cy (z 0) (h 20) u.2.1 ++ (wl ad cy (z 0) (h 21) u.2.2.1 ++ (wl ad cy (z 0) (h 22) u.2.2.2.1 ++ wS h cy u.2.2.2.2))))) A) ([.ref (h 0)] : List Value).toArray s 0 0 A) (F0 m 36 ls [])) → ∀ (nn : Nat), ∀ (v1_10 : Int32), ∀ (s_10 : FX), wp_X4_numbers_L10 K10 nn v1_10 s_10 → ∀ (H : Heap) (locs : List Loc), va_P (dC, dI) classes (wC h cy s_10.1 ++ (wl ad cy (z 0) (h 20) s_10.2.1 ++ (wl ad cy (z 0) (h 21) s_10.2.2.1 ++ (wl ad cy (z 0) (h 22) s_10.2.2.2.1 ++ wS h cy s_10.2.2.2.2)))) H → va_D A (wC h cy s_10.1 ++ (wl ad cy (z 0) (h 20) s_10.2.1 ++ (wl ad cy (z 0) (h 21) s_10.2.2.1 ++ (wl ad cy (z 0) (h 22) s_10.2.2.2.1 ++ wS h cy s_10.2.2.2.2)))) → va_S A s.heap H locs → ∀ (ls : Array Slot), lv_has ls 2 [(1, .int v1_10), (0, .ref (h 0))] → W p l e ({ frames := 3, cells := 0, slots := 0, locals := 70 } : Room) s m ([.ref (h 0)] : List Value).toArray below meth c H locs 0 0 (MQ below (va_Qv (fun u => P u) (fun (u : FX) t => va_P (dC, dI) classes (wC h cy u.1 ++ (wl ad cy (z 0) (h 20) u.2.1 ++ (wl ad cy (z 0) (h 21) u.2.2.1 ++ (wl ad cy (z 0) (h 22) u.2.2.2.1 ++ wS h cy u.2.2.2.2)))) t.heap ∧ va_D A (wC h cy u.1 ++ (wl ad cy (z 0) (h 20) u.2.1 ++ (wl ad cy (z 0) (h 21) u.2.2.1 ++ (wl ad cy (z 0) (h 22) u.2.2.2.1 ++ wS h cy u.2.2.2.2))))) A) ([.ref (h 0)] : List Value).toArray s 0 0 A) (F0 m 10 ls []) := by
    intro K10 hX10 nn
    induction nn with
    | zero =>
      intro v1_10 s_10 hF
      exact hF.elim
    | succ nn ih =>
      intro v1_10 s_10 hF H locs hP hD hS ls hl
      obtain ⟨rec10, hrec⟩ : ∃ z : Int32 → FX → Prop, z = wp_X4_numbers_L10 K10 nn := ⟨_, rfl⟩
      have hF : wp_X4_numbers_B10 K10 rec10 v1_10 s_10 := by rw [hrec]; exact hF
      rw [← hrec] at ih
      clear hrec
      unfold wp_X4_numbers_B10 at hF
      refine lv_iload_n hx hb dX4_numbers_10 rfl (lv_at hl 0 rfl) ?_
      refine lv_aload_n hx hb dX4_numbers_11 rfl (lv_at hl 1 rfl) ?_
      refine va_get (D := (dC, dI)) (ci := 4) (v := .int (s_10.1.1 0)) (C := RX4) (T := TX4) (N := 19) hx hb hts in_X4 hown hK.1 hP 0 rfl rfl 13 (by decide) (hts _ q963) (fun _ h9 => h9) rfl dX4_numbers_12 ?_
      refine lv_icmp_ge (tgt := 36) hx hb dX4_numbers_15 (by decide) (fun cz => ?_) (fun cz => ?_)
      · have hF := hF.1 cz
        exact hX10 s_10 hF _ _ hP hD hS _ (lv_sub hl [1] rfl)
      · have hF := hF.2 cz
        refine lv_aload_n hx hb dX4_numbers_18 rfl (lv_at hl 1 rfl) ?_
        refine va_get (D := (dC, dI)) (ci := 4) (v := .ref (h 1)) (C := RX4) (T := TX4) (N := 19) hx hb hts in_X4 hown hK.1 hP 0 rfl rfl 0 (by decide) (hts _ q950) (fun _ h9 => h9) rfl dX4_numbers_19 ?_
        refine lv_aload_n hx hb dX4_numbers_22 rfl (lv_at hl 1 rfl) ?_
        refine va_get (D := (dC, dI)) (ci := 4) (v := .ref (h 2)) (C := RX4) (T := TX4) (N := 19) hx hb hts in_X4 hown hK.1 hP 0 rfl rfl 1 (by decide) (hts _ q951) (fun _ h9 => h9) rfl dX4_numbers_23 ?_
        refine lv_iload_n hx hb dX4_numbers_26 rfl (lv_at hl 0 rfl) ?_
        have hI := hF.1
        have hF := hF.2
        refine va_iald hx hb hK.1 hP 2 0 rfl rfl hI dX4_numbers_27 ?_
        refine lv_iload_n hx hb dX4_numbers_28 rfl (lv_at hl 0 rfl) ?_
        have hI := hF.1
        have hF := hF.2
        refine va_iast hx hb hK.1 hP hD hS 1 0 rfl rfl hI dX4_numbers_29 (fun H locs hP hD hS => ?_)
        have hP : va_P (dC, dI) classes (wC h cy (sA s_10.1 0 (upd (s_10.1.2.1 0) ((s_10.1.2.1 1) v1_10.toNatClampNeg).toNatClampNeg v1_10)) ++ (wl ad cy (z 0) (h 20) s_10.2.1 ++ (wl ad cy (z 0) (h 21) s_10.2.2.1 ++ (wl ad cy (z 0) (h 22) s_10.2.2.2.1 ++ wS h cy s_10.2.2.2.2)))) H := hP
        have hD : va_D A (wC h cy (sA s_10.1 0 (upd (s_10.1.2.1 0) ((s_10.1.2.1 1) v1_10.toNatClampNeg).toNatClampNeg v1_10)) ++ (wl ad cy (z 0) (h 20) s_10.2.1 ++ (wl ad cy (z 0) (h 21) s_10.2.2.1 ++ (wl ad cy (z 0) (h 22) s_10.2.2.2.1 ++ wS h cy s_10.2.2.2.2)))) := hD
        refine lv_iinc (v := v1_10 + 1) (lv' := [(1, .int (v1_10 + 1)), (0, .ref (h 0))]) hx hb dX4_numbers_30 hl (k := 0) rfl (by rfl) (by decide) rfl (fun ls hl => ?_)
        refine lv_goto (tgt := 10) hx hb dX4_numbers_33 (by decide) ?_
        exact ih (v1_10 + 1) (sA s_10.1 0 (upd (s_10.1.2.1 0) ((s_10.1.2.1 1) v1_10.toNatClampNeg).toNatClampNeg v1_10), s_10.2.1, s_10.2.2.1, s_10.2.2.2.1, s_10.2.2.2.2) hF _ _ hP hD hS _ (lv_sub hl [0, 1] rfl)
  exact hL10 _ hX10 fu 0 (sA σ.1 0 f5, σ.2.1, σ.2.2.1, σ.2.2.2.1, σ.2.2.2.2) hF _ _ hP hD hS _ (lv_sub hl [0, 1] rfl)
theorem dX4_drill_0 : decode cX4_drill 0 = .ok (.aload_n 0, 1) := by decide +kernel
theorem dX4_drill_1 : decode cX4_drill 1 = .ok (.iload_n 1, 1) := by decide +kernel
theorem dX4_drill_2 : decode cX4_drill 2 = .ok (.iconst 0, 1) := by decide +kernel
theorem dX4_drill_3 : decode cX4_drill 3 = .ok (.bipush 24, 2) := by decide +kernel
theorem dX4_drill_5 : decode cX4_drill 5 = .ok (.invokestatic 67, 3) := by decide +kernel
theorem dX4_drill_8 : decode cX4_drill 8 = .ok (.ifCond .ne 7, 3) := by decide +kernel
theorem dX4_drill_11 : decode cX4_drill 11 = .ok (.iconst 1, 1) := by decide +kernel
theorem dX4_drill_12 : decode cX4_drill 12 = .ok (.goto 29, 3) := by decide +kernel
theorem dX4_drill_15 : decode cX4_drill 15 = .ok (.aload_n 0, 1) := by decide +kernel
theorem dX4_drill_16 : decode cX4_drill 16 = .ok (.iload_n 1, 1) := by decide +kernel
theorem dX4_drill_17 : decode cX4_drill 17 = .ok (.invokevirtual 117, 3) := by decide +kernel
theorem dX4_drill_20 : decode cX4_drill 20 = .ok (.ifCond .eq 7, 3) := by decide +kernel
theorem dX4_drill_23 : decode cX4_drill 23 = .ok (.iconst 2, 1) := by decide +kernel
theorem dX4_drill_24 : decode cX4_drill 24 = .ok (.goto 17, 3) := by decide +kernel
theorem dX4_drill_27 : decode cX4_drill 27 = .ok (.aload_n 0, 1) := by decide +kernel
theorem dX4_drill_28 : decode cX4_drill 28 = .ok (.getfield 64, 3) := by decide +kernel
theorem dX4_drill_31 : decode cX4_drill 31 = .ok (.bipush 13, 2) := by decide +kernel
theorem dX4_drill_33 : decode cX4_drill 33 = .ok (.if_icmp .ne 7, 3) := by decide +kernel
theorem dX4_drill_36 : decode cX4_drill 36 = .ok (.iconst 3, 1) := by decide +kernel
theorem dX4_drill_37 : decode cX4_drill 37 = .ok (.goto 4, 3) := by decide +kernel
theorem dX4_drill_40 : decode cX4_drill 40 = .ok (.iconst 0, 1) := by decide +kernel
theorem dX4_drill_41 : decode cX4_drill 41 = .ok (.invokevirtual 100, 3) := by decide +kernel
theorem dX4_drill_44 : decode cX4_drill 44 = .ok (.ifCond .eq 5, 3) := by decide +kernel
theorem dX4_drill_47 : decode cX4_drill 47 = .ok (.iconst 0, 1) := by decide +kernel
theorem dX4_drill_48 : decode cX4_drill 48 = .ok (.ireturn, 1) := by decide +kernel
theorem dX4_drill_49 : decode cX4_drill 49 = .ok (.aload_n 0, 1) := by decide +kernel
theorem dX4_drill_50 : decode cX4_drill 50 = .ok (.getfield 64, 3) := by decide +kernel
theorem dX4_drill_53 : decode cX4_drill 53 = .ok (.istore_n 2, 1) := by decide +kernel
theorem dX4_drill_54 : decode cX4_drill 54 = .ok (.iload_n 2, 1) := by decide +kernel
theorem dX4_drill_55 : decode cX4_drill 55 = .ok (.ifCond .le 49, 3) := by decide +kernel
theorem dX4_drill_58 : decode cX4_drill 58 = .ok (.aload_n 0, 1) := by decide +kernel
theorem dX4_drill_59 : decode cX4_drill 59 = .ok (.getfield 13, 3) := by decide +kernel
theorem dX4_drill_62 : decode cX4_drill 62 = .ok (.iload_n 2, 1) := by decide +kernel
theorem dX4_drill_63 : decode cX4_drill 63 = .ok (.iconst 1, 1) := by decide +kernel
theorem dX4_drill_64 : decode cX4_drill 64 = .ok (.isub, 1) := by decide +kernel
theorem dX4_drill_65 : decode cX4_drill 65 = .ok (.iaload, 1) := by decide +kernel
theorem dX4_drill_66 : decode cX4_drill 66 = .ok (.iload_n 1, 1) := by decide +kernel
theorem dX4_drill_67 : decode cX4_drill 67 = .ok (.if_icmp .le 37, 3) := by decide +kernel
theorem dX4_drill_70 : decode cX4_drill 70 = .ok (.aload_n 0, 1) := by decide +kernel
theorem dX4_drill_71 : decode cX4_drill 71 = .ok (.getfield 13, 3) := by decide +kernel
theorem dX4_drill_74 : decode cX4_drill 74 = .ok (.iload_n 2, 1) := by decide +kernel
theorem dX4_drill_75 : decode cX4_drill 75 = .ok (.aload_n 0, 1) := by decide +kernel
theorem dX4_drill_76 : decode cX4_drill 76 = .ok (.getfield 13, 3) := by decide +kernel
theorem dX4_drill_79 : decode cX4_drill 79 = .ok (.iload_n 2, 1) := by decide +kernel
theorem dX4_drill_80 : decode cX4_drill 80 = .ok (.iconst 1, 1) := by decide +kernel
theorem dX4_drill_81 : decode cX4_drill 81 = .ok (.isub, 1) := by decide +kernel
theorem dX4_drill_82 : decode cX4_drill 82 = .ok (.iaload, 1) := by decide +kernel
theorem dX4_drill_83 : decode cX4_drill 83 = .ok (.iastore, 1) := by decide +kernel
theorem dX4_drill_84 : decode cX4_drill 84 = .ok (.aload_n 0, 1) := by decide +kernel
theorem dX4_drill_85 : decode cX4_drill 85 = .ok (.getfield 16, 3) := by decide +kernel
theorem dX4_drill_88 : decode cX4_drill 88 = .ok (.iload_n 2, 1) := by decide +kernel
theorem dX4_drill_89 : decode cX4_drill 89 = .ok (.aload_n 0, 1) := by decide +kernel
theorem dX4_drill_90 : decode cX4_drill 90 = .ok (.getfield 16, 3) := by decide +kernel
theorem dX4_drill_93 : decode cX4_drill 93 = .ok (.iload_n 2, 1) := by decide +kernel
theorem dX4_drill_94 : decode cX4_drill 94 = .ok (.iconst 1, 1) := by decide +kernel
theorem dX4_drill_95 : decode cX4_drill 95 = .ok (.isub, 1) := by decide +kernel
theorem dX4_drill_96 : decode cX4_drill 96 = .ok (.iaload, 1) := by decide +kernel
theorem dX4_drill_97 : decode cX4_drill 97 = .ok (.iastore, 1) := by decide +kernel
theorem dX4_drill_98 : decode cX4_drill 98 = .ok (.iinc 2 (-1), 3) := by decide +kernel
theorem dX4_drill_101 : decode cX4_drill 101 = .ok (.goto (-47), 3) := by decide +kernel
theorem dX4_drill_104 : decode cX4_drill 104 = .ok (.aload_n 0, 1) := by decide +kernel
theorem dX4_drill_105 : decode cX4_drill 105 = .ok (.getfield 13, 3) := by decide +kernel
theorem dX4_drill_108 : decode cX4_drill 108 = .ok (.iload_n 2, 1) := by decide +kernel
theorem dX4_drill_109 : decode cX4_drill 109 = .ok (.iload_n 1, 1) := by decide +kernel
theorem dX4_drill_110 : decode cX4_drill 110 = .ok (.iastore, 1) := by decide +kernel
theorem dX4_drill_111 : decode cX4_drill 111 = .ok (.aload_n 0, 1) := by decide +kernel
theorem dX4_drill_112 : decode cX4_drill 112 = .ok (.getfield 16, 3) := by decide +kernel
theorem dX4_drill_115 : decode cX4_drill 115 = .ok (.iload_n 2, 1) := by decide +kernel
theorem dX4_drill_116 : decode cX4_drill 116 = .ok (.iconst 0, 1) := by decide +kernel
theorem dX4_drill_117 : decode cX4_drill 117 = .ok (.iastore, 1) := by decide +kernel
theorem dX4_drill_118 : decode cX4_drill 118 = .ok (.aload_n 0, 1) := by decide +kernel
theorem dX4_drill_119 : decode cX4_drill 119 = .ok (.dup, 1) := by decide +kernel
theorem dX4_drill_120 : decode cX4_drill 120 = .ok (.getfield 64, 3) := by decide +kernel
theorem dX4_drill_123 : decode cX4_drill 123 = .ok (.iconst 1, 1) := by decide +kernel
theorem dX4_drill_124 : decode cX4_drill 124 = .ok (.iadd, 1) := by decide +kernel
theorem dX4_drill_125 : decode cX4_drill 125 = .ok (.putfield 64, 3) := by decide +kernel
theorem dX4_drill_128 : decode cX4_drill 128 = .ok (.aload_n 0, 1) := by decide +kernel
theorem dX4_drill_129 : decode cX4_drill 129 = .ok (.aload_n 0, 1) := by decide +kernel
theorem dX4_drill_130 : decode cX4_drill 130 = .ok (.getfield 120, 3) := by decide +kernel
theorem dX4_drill_133 : decode cX4_drill 133 = .ok (.iload_n 2, 1) := by decide +kernel
theorem dX4_drill_134 : decode cX4_drill 134 = .ok (.invokestatic 123, 3) := by decide +kernel
theorem dX4_drill_137 : decode cX4_drill 137 = .ok (.putfield 120, 3) := by decide +kernel
theorem dX4_drill_140 : decode cX4_drill 140 = .ok (.aload_n 0, 1) := by decide +kernel
theorem dX4_drill_141 : decode cX4_drill 141 = .ok (.invokevirtual 126, 3) := by decide +kernel
theorem dX4_drill_144 : decode cX4_drill 144 = .ok (.aload_n 0, 1) := by decide +kernel
theorem dX4_drill_145 : decode cX4_drill 145 = .ok (.getfield 64, 3) := by decide +kernel
theorem dX4_drill_148 : decode cX4_drill 148 = .ok (.ireturn, 1) := by decide +kernel
def wp_X4_drill_B54 (x1 : Int32) (K54 : Int32 → FX → Prop) (rec54 : Int32 → FX → Prop) (v2_54 : Int32) (s_54 : FX) : Prop := ((v2_54 ≤ 0 → (K54 v2_54 s_54)) ∧ (¬ v2_54 ≤ 0 → (vp_in (v2_54 - 1) 13 ∧ ((((s_54.1.2.1 1) (v2_54 - 1).toNatClampNeg) ≤ x1 → (K54 v2_54 s_54)) ∧ (¬ ((s_54.1.2.1 1) (v2_54 - 1).toNatClampNeg) ≤ x1 → (vp_in (v2_54 - 1) 13 ∧ (vp_in v2_54 13 ∧ (vp_in (v2_54 - 1) 13 ∧ (vp_in v2_54 13 ∧ (rec54 (v2_54 + (-1)) (sA (sA s_54.1 1 (upd (s_54.1.2.1 1) v2_54.toNatClampNeg ((s_54.1.2.1 1) (v2_54 - 1).toNatClampNeg))) 2 (upd (s_54.1.2.1 2) v2_54.toNatClampNeg ((s_54.1.2.1 2) (v2_54 - 1).toNatClampNeg)), s_54.2.1, s_54.2.2.1, s_54.2.2.2.1, s_54.2.2.2.2)))))))))))
def wp_X4_drill_L54 (x1 : Int32) (K54 : Int32 → FX → Prop) : Nat → Int32 → FX → Prop
  | 0, _, _ => False
  | nn + 1, v2_54, s_54 => wp_X4_drill_B54 x1 K54 (wp_X4_drill_L54 x1 K54 nn) v2_54 s_54
def wp_X4_drill_J41 (fu : Nat) (σ : FX) (x1 : Int32) (P : Int32 → FX → Prop) (t1_41 : Int32) : Prop := (wp_X4_fails σ.1 t1_41 (fun r41 s41 => ((r41 = 0 → (wp_X4_drill_L54 x1 (fun (v2_104 : Int32) (s_104 : FX) => (vp_in v2_104 13 ∧ (vp_in v2_104 13 ∧ (wp_X4_wider (s_104.1.1 2) v2_104 (fun r134 => (wp_X4_numbers fu (sI (sI (sA (sA s_104.1 1 (upd (s_104.1.2.1 1) v2_104.toNatClampNeg x1)) 2 (upd (s_104.1.2.1 2) v2_104.toNatClampNeg 0)) 0 ((s_104.1.1 0) + 1)) 2 r134, s_104.2.1, s_104.2.2.1, s_104.2.2.2.1, s_104.2.2.2.2) (fun s141 => (P (s141.1.1 0) s141)))))))) fu (s41.1 0) (s41, σ.2.1, σ.2.2.1, σ.2.2.2.1, σ.2.2.2.2))) ∧ (¬ r41 = 0 → (P 0 (s41, σ.2.1, σ.2.2.1, σ.2.2.2.1, σ.2.2.2.2))))))
def wp_X4_drill (fu : Nat) (σ : FX) (x1 : Int32) (P : Int32 → FX → Prop) : Prop := (wp_X4_in x1 0 24 (fun r5 => ((¬ r5 = 0 → (wp_X4_isDrilled fu σ.1 x1 (fun r17 => ((r17 = 0 → ((¬ (σ.1.1 0) = 13 → (wp_X4_drill_J41 fu σ x1 P 0)) ∧ ((σ.1.1 0) = 13 → (wp_X4_drill_J41 fu σ x1 P 3)))) ∧ (¬ r17 = 0 → (wp_X4_drill_J41 fu σ x1 P 2)))))) ∧ (r5 = 0 → (wp_X4_drill_J41 fu σ x1 P 1)))))
theorem k_X4_drill : KV RX4 yX4_drill cX4_drill 3 (some .int) 1 := ⟨q1127, q1128, q5, q1129, by decide +kernel⟩
set_option maxHeartbeats 4000000 in
set_option maxRecDepth 100000 in
theorem m_X4_drill (l : Launch) (dC : Nat → ClassId) (dI : Nat → Nat → Nat) (h : Nat → Nat) (cy : Nat → ClassId) (z ad : Nat → Nat) (sz : Nat) (fu : Nat) (σ : FX) (x1 : Int32) (P : Int32 → FX → Prop) (hF : wp_X4_drill fu σ x1 P) : Met l yX4_drill (ws_ yX4_drill cX4_drill 3 (some .int)) ({ frames := 4, cells := 0, slots := 0, locals := 91 } : Room) (va_Pc [.ref (h 0), .int x1] (PcF dC dI cy z ad (wC h cy σ.1 ++ (wl ad cy (z 0) (h 20) σ.2.1 ++ (wl ad cy (z 0) (h 21) σ.2.2.1 ++ (wl ad cy (z 0) (h 22) σ.2.2.2.1 ++ wS h cy σ.2.2.2.2)))) sz)) (va_Qi (fun r u => P r u) (fun (u : FX) t => va_P (dC, dI) classes (wC h cy u.1 ++ (wl ad cy (z 0) (h 20) u.2.1 ++ (wl ad cy (z 0) (h 21) u.2.2.1 ++ (wl ad cy (z 0) (h 22) u.2.2.2.1 ++ wS h cy u.2.2.2.2)))) t.heap ∧ va_D (va_A (wC h cy σ.1 ++ (wl ad cy (z 0) (h 20) σ.2.1 ++ (wl ad cy (z 0) (h 21) σ.2.2.1 ++ (wl ad cy (z 0) (h 22) σ.2.2.2.1 ++ wS h cy σ.2.2.2.2)))) sz) (wC h cy u.1 ++ (wl ad cy (z 0) (h 20) u.2.1 ++ (wl ad cy (z 0) (h 21) u.2.2.1 ++ (wl ad cy (z 0) (h 22) u.2.2.2.1 ++ wS h cy u.2.2.2.2))))) (va_A (wC h cy σ.1 ++ (wl ad cy (z 0) (h 20) σ.2.1 ++ (wl ad cy (z 0) (h 21) σ.2.2.1 ++ (wl ad cy (z 0) (h 22) σ.2.2.2.1 ++ wS h cy σ.2.2.2.2)))) sz)) 0 0 (va_A (wC h cy σ.1 ++ (wl ad cy (z 0) (h 20) σ.2.1 ++ (wl ad cy (z 0) (h 21) σ.2.2.1 ++ (wl ad cy (z 0) (h 22) σ.2.2.2.1 ++ wS h cy σ.2.2.2.2)))) sz) := by
  refine Met.ofCx (own := RX4) (by decide) rfl (Nat.le_of_ble_eq_true rfl) ?_
  intro p e s m below meth c hC hv ls hl
  obtain ⟨hx, hb, hr, hml, hown, hts, hlocks⟩ := hC
  have hl : lv_has ls 3 [(0, .ref (h 0)), (1, .int x1)] := hl
  obtain ⟨hsz, hP, hK, hD0, hZ, hvk⟩ := hv
  subst hsz
  have hD := hD0.self (sz := s.heap.size)
  generalize hAe : va_A (wC h cy σ.1 ++ (wl ad cy (z 0) (h 20) σ.2.1 ++ (wl ad cy (z 0) (h 21) σ.2.2.1 ++ (wl ad cy (z 0) (h 22) σ.2.2.2.1 ++ wS h cy σ.2.2.2.2)))) s.heap.size = A at hD hZ ⊢
  have hA : ∀ q : Nat, s.heap.size ≤ q → A q := fun q h => by rw [← hAe]; exact Or.inr h
  have hS : va_S A s.heap s.heap [] := va_S.rf
  clear hAe
  unfold wp_X4_drill at hF
  refine lv_aload_n hx hb dX4_drill_0 rfl (lv_at hl 0 rfl) ?_
  refine lv_iload_n hx hb dX4_drill_1 rfl (lv_at hl 1 rfl) ?_
  refine lv_iconst (v := 0) hx hb dX4_drill_2 (by decide) ?_
  refine lv_bipush (v := 24) hx hb dX4_drill_3 (by decide) ?_
  refine cpSi (As := [.int x1, .int 0, .int 24]) (rest := [.ref (h 0)]) ⟨hx, hb, hr, hml, hown, hts, hlocks⟩ (m_X4_in l x1 0 24 _ hF) k_X4_in q937 ⟨rfl, rfl⟩ ⟨Nat.le_of_ble_eq_true rfl, Nat.le_of_ble_eq_true rfl⟩ hl.1 rfl rfl (Nat.le_of_ble_eq_true rfl) dX4_drill_5 ⟨Nat.le_of_ble_eq_true rfl, Nat.le_of_ble_eq_true rfl⟩ (fun r5 hF => ?_)
  have hJ41 : ∀ (t1_41 : Int32), wp_X4_drill_J41 fu σ x1 P t1_41 → ∀ (H : Heap) (locs : List Loc), va_P (dC, dI) classes (wC h cy σ.1 ++ (wl ad cy (z 0) (h 20) σ.2.1 ++ (wl ad cy (z 0) (h 21) σ.2.2.1 ++ (wl ad cy (z 0) (h 22) σ.2.2.2.1 ++ wS h cy σ.2.2.2.2)))) H → va_D A (wC h cy σ.1 ++ (wl ad cy (z 0) (h 20) σ.2.1 ++ (wl ad cy (z 0) (h 21) σ.2.2.1 ++ (wl ad cy (z 0) (h 22) σ.2.2.2.1 ++ wS h cy σ.2.2.2.2)))) → va_S A s.heap H locs → ∀ (ls : Array Slot), lv_has ls 3 [(0, .ref (h 0)), (1, .int x1)] → W p l e ({ frames := 4, cells := 0, slots := 0, locals := 91 } : Room) s m ([.ref (h 0), .int x1] : List Value).toArray below meth c H locs 0 0 (MQ below (va_Qi (fun r u => P r u) (fun (u : FX) t => va_P (dC, dI) classes (wC h cy u.1 ++ (wl ad cy (z 0) (h 20) u.2.1 ++ (wl ad cy (z 0) (h 21) u.2.2.1 ++ (wl ad cy (z 0) (h 22) u.2.2.2.1 ++ wS h cy u.2.2.2.2)))) t.heap ∧ va_D A (wC h cy u.1 ++ (wl ad cy (z 0) (h 20) u.2.1 ++ (wl ad cy (z 0) (h 21) u.2.2.1 ++ (wl ad cy (z 0) (h 22) u.2.2.2.1 ++ wS h cy u.2.2.2.2))))) A) ([.ref (h 0), .int x1] : List Value).toArray s 0 0 A) (F0 m 41 ls [.int t1_41, .ref (h 0)]) := by
    intro t1_41 hF H locs hP hD hS ls hl
    unfold wp_X4_drill_J41 at hF
    have hPc := fw_get (fp0 _ _) hP
    have hDc := fw_getD (fp0 _ _) hD
    have hFc := fw_free (fp0 _ _) hD hS hA
    refine cwVi (q0 := 0) (As := [.int t1_41]) (rest := []) ⟨hx, hb, hr, hml, hown, hts, hlocks⟩ hK hPc hDc rfl rfl hS hFc (m_X4_fails l dC dI h cy _ σ.1 t1_41 _ hF) k_X4_fails q1102 ⟨rfl, rfl⟩ ⟨Nat.le_of_ble_eq_true rfl, Nat.le_of_ble_eq_true rfl⟩ hl.1 rfl rfl (Nat.le_of_ble_eq_true rfl) dX4_drill_41 ⟨Nat.le_of_ble_eq_true rfl, Nat.le_of_ble_eq_true rfl⟩ (fun r41 u H1 locs hF hP1 hD1 hk1 hS => ?_)
    obtain ⟨s41, rfl⟩ : ∃ z, z = u := ⟨_, rfl⟩
    obtain ⟨hP, hD⟩ := fw_join (fp0 _ _) hP hD hk1 hFc hP1 hD1
    generalize H1 = H at hP hS ⊢
    have hP : va_P (dC, dI) classes (wC h cy s41 ++ (wl ad cy (z 0) (h 20) σ.2.1 ++ (wl ad cy (z 0) (h 21) σ.2.2.1 ++ (wl ad cy (z 0) (h 22) σ.2.2.2.1 ++ wS h cy σ.2.2.2.2)))) H := hP
    have hD : va_D A (wC h cy s41 ++ (wl ad cy (z 0) (h 20) σ.2.1 ++ (wl ad cy (z 0) (h 21) σ.2.2.1 ++ (wl ad cy (z 0) (h 22) σ.2.2.2.1 ++ wS h cy σ.2.2.2.2)))) := hD
    refine lv_if_eq (tgt := 49) hx hb dX4_drill_44 (by decide) (fun cz => ?_) (fun cz => ?_)
    · have hF := hF.1 cz
      refine lv_aload_n hx hb dX4_drill_49 rfl (lv_at hl 0 rfl) ?_
      refine va_get (D := (dC, dI)) (ci := 4) (v := .int (s41.1 0)) (C := RX4) (T := TX4) (N := 19) hx hb hts in_X4 hown hK.1 hP 0 rfl rfl 13 (by decide) (hts _ q963) (fun _ h9 => h9) rfl dX4_drill_50 ?_
      refine lv_istore_n (lv' := [(2, .int (s41.1 0)), (0, .ref (h 0)), (1, .int x1)]) hx hb dX4_drill_53 rfl hl (by decide) rfl (fun ls hl => ?_)
      have hX54 : ∀ (v2_104 : Int32), ∀ (s_104 : FX), (fun (v2_104 : Int32) (s_104 : FX) => (vp_in v2_104 13 ∧ (vp_in v2_104 13 ∧ (wp_X4_wider (s_104.1.1 2) v2_104 (fun r134 => (wp_X4_numbers fu (sI (sI (sA (sA s_104.1 1 (upd (s_104.1.2.1 1) v2_104.toNatClampNeg x1)) 2 (upd (s_104.1.2.1 2) v2_104.toNatClampNeg 0)) 0 ((s_104.1.1 0) + 1)) 2 r134, s_104.2.1, s_104.2.2.1, s_104.2.2.2.1, s_104.2.2.2.2) (fun s141 => (P (s141.1.1 0) s141)))))))) v2_104 s_104 → ∀ (H : Heap) (locs : List Loc), va_P (dC, dI) classes (wC h cy s_104.1 ++ (wl ad cy (z 0) (h 20) s_104.2.1 ++ (wl ad cy (z 0) (h 21) s_104.2.2.1 ++ (wl ad cy (z 0) (h 22) s_104.2.2.2.1 ++ wS h cy s_104.2.2.2.2)))) H → va_D A (wC h cy s_104.1 ++ (wl ad cy (z 0) (h 20) s_104.2.1 ++ (wl ad cy (z 0) (h 21) s_104.2.2.1 ++ (wl ad cy (z 0) (h 22) s_104.2.2.2.1 ++ wS h cy s_104.2.2.2.2)))) → va_S A s.heap H locs → ∀ (ls : Array Slot), lv_has ls 3 [(2, .int v2_104), (0, .ref (h 0)), (1, .int x1)] → W p l e ({ frames := 4, cells := 0, slots := 0, locals := 91 } : Room) s m ([.ref (h 0), .int x1] : List Value).toArray below meth c H locs 0 0 (MQ below (va_Qi (fun r u => P r u) (fun (u : FX) t => va_P (dC, dI) classes (wC h cy u.1 ++ (wl ad cy (z 0) (h 20) u.2.1 ++ (wl ad cy (z 0) (h 21) u.2.2.1 ++ (wl ad cy (z 0) (h 22) u.2.2.2.1 ++ wS h cy u.2.2.2.2)))) t.heap ∧ va_D A (wC h cy u.1 ++ (wl ad cy (z 0) (h 20) u.2.1 ++ (wl ad cy (z 0) (h 21) u.2.2.1 ++ (wl ad cy (z 0) (h 22) u.2.2.2.1 ++ wS h cy u.2.2.2.2))))) A) ([.ref (h 0), .int x1] : List Value).toArray s 0 0 A) (F0 m 104 ls []) := by
        intro v2_104 s_104 hF H locs hP hD hS ls hl
        refine lv_aload_n hx hb dX4_drill_104 rfl (lv_at hl 1 rfl) ?_
        refine va_get (D := (dC, dI)) (ci := 4) (v := .ref (h 2)) (C := RX4) (T := TX4) (N := 19) hx hb hts in_X4 hown hK.1 hP 0 rfl rfl 1 (by decide) (hts _ q951) (fun _ h9 => h9) rfl dX4_drill_105 ?_
        refine lv_iload_n hx hb dX4_drill_108 rfl (lv_at hl 0 rfl) ?_
        refine lv_iload_n hx hb dX4_drill_109 rfl (lv_at hl 2 rfl) ?_
        have hI := hF.1
        have hF := hF.2
        refine va_iast hx hb hK.1 hP hD hS 2 0 rfl rfl hI dX4_drill_110 (fun H locs hP hD hS => ?_)
        have hP : va_P (dC, dI) classes (wC h cy (sA s_104.1 1 (upd (s_104.1.2.1 1) v2_104.toNatClampNeg x1)) ++ (wl ad cy (z 0) (h 20) s_104.2.1 ++ (wl ad cy (z 0) (h 21) s_104.2.2.1 ++ (wl ad cy (z 0) (h 22) s_104.2.2.2.1 ++ wS h cy s_104.2.2.2.2)))) H := hP
        have hD : va_D A (wC h cy (sA s_104.1 1 (upd (s_104.1.2.1 1) v2_104.toNatClampNeg x1)) ++ (wl ad cy (z 0) (h 20) s_104.2.1 ++ (wl ad cy (z 0) (h 21) s_104.2.2.1 ++ (wl ad cy (z 0) (h 22) s_104.2.2.2.1 ++ wS h cy s_104.2.2.2.2)))) := hD
        refine lv_aload_n hx hb dX4_drill_111 rfl (lv_at hl 1 rfl) ?_
        refine va_get (D := (dC, dI)) (ci := 4) (v := .ref (h 3)) (C := RX4) (T := TX4) (N := 19) hx hb hts in_X4 hown hK.1 hP 0 rfl rfl 2 (by decide) (hts _ q952) (fun _ h9 => h9) rfl dX4_drill_112 ?_
        refine lv_iload_n hx hb dX4_drill_115 rfl (lv_at hl 0 rfl) ?_
        refine lv_iconst (v := 0) hx hb dX4_drill_116 (by decide) ?_
        have hI := hF.1
        have hF := hF.2
        refine va_iast hx hb hK.1 hP hD hS 3 0 rfl rfl hI dX4_drill_117 (fun H locs hP hD hS => ?_)
        have hP : va_P (dC, dI) classes (wC h cy (sA (sA s_104.1 1 (upd (s_104.1.2.1 1) v2_104.toNatClampNeg x1)) 2 (upd (s_104.1.2.1 2) v2_104.toNatClampNeg 0)) ++ (wl ad cy (z 0) (h 20) s_104.2.1 ++ (wl ad cy (z 0) (h 21) s_104.2.2.1 ++ (wl ad cy (z 0) (h 22) s_104.2.2.2.1 ++ wS h cy s_104.2.2.2.2)))) H := hP
        have hD : va_D A (wC h cy (sA (sA s_104.1 1 (upd (s_104.1.2.1 1) v2_104.toNatClampNeg x1)) 2 (upd (s_104.1.2.1 2) v2_104.toNatClampNeg 0)) ++ (wl ad cy (z 0) (h 20) s_104.2.1 ++ (wl ad cy (z 0) (h 21) s_104.2.2.1 ++ (wl ad cy (z 0) (h 22) s_104.2.2.2.1 ++ wS h cy s_104.2.2.2.2)))) := hD
        refine lv_aload_n hx hb dX4_drill_118 rfl (lv_at hl 1 rfl) ?_
        refine lv_dup hx hb dX4_drill_119 rfl ?_
        refine va_get (D := (dC, dI)) (ci := 4) (v := .int (s_104.1.1 0)) (C := RX4) (T := TX4) (N := 19) hx hb hts in_X4 hown hK.1 hP 0 rfl rfl 13 (by decide) (hts _ q963) (fun _ h9 => h9) rfl dX4_drill_120 ?_
        refine lv_iconst (v := 1) hx hb dX4_drill_123 (by decide) ?_
        refine lv_iadd hx hb dX4_drill_124 ?_
        refine va_put (D := (dC, dI)) (ci := 4) (v := .int ((s_104.1.1 0) + 1)) (ty := .int) (C := RX4) (T := TX4) (N := 19) hx hb hts in_X4 tyX4 tyX4_ok nmX4 hown hK.1 hP hD hS 0 rfl rfl 13 (by decide) (hts _ q963) (fun _ h9 => h9) rfl (by decide +kernel) rfl rfl (Nat.le_of_ble_eq_true rfl) dX4_drill_125 (fun H locs hP hD hS => ?_)
        have hP : va_P (dC, dI) classes (wC h cy (sI (sA (sA s_104.1 1 (upd (s_104.1.2.1 1) v2_104.toNatClampNeg x1)) 2 (upd (s_104.1.2.1 2) v2_104.toNatClampNeg 0)) 0 ((s_104.1.1 0) + 1)) ++ (wl ad cy (z 0) (h 20) s_104.2.1 ++ (wl ad cy (z 0) (h 21) s_104.2.2.1 ++ (wl ad cy (z 0) (h 22) s_104.2.2.2.1 ++ wS h cy s_104.2.2.2.2)))) H := hP
        have hD : va_D A (wC h cy (sI (sA (sA s_104.1 1 (upd (s_104.1.2.1 1) v2_104.toNatClampNeg x1)) 2 (upd (s_104.1.2.1 2) v2_104.toNatClampNeg 0)) 0 ((s_104.1.1 0) + 1)) ++ (wl ad cy (z 0) (h 20) s_104.2.1 ++ (wl ad cy (z 0) (h 21) s_104.2.2.1 ++ (wl ad cy (z 0) (h 22) s_104.2.2.2.1 ++ wS h cy s_104.2.2.2.2)))) := hD
        refine lv_aload_n hx hb dX4_drill_128 rfl (lv_at hl 1 rfl) ?_
        refine lv_aload_n hx hb dX4_drill_129 rfl (lv_at hl 1 rfl) ?_
        refine va_get (D := (dC, dI)) (ci := 4) (v := .int (s_104.1.1 2)) (C := RX4) (T := TX4) (N := 19) hx hb hts in_X4 hown hK.1 hP 0 rfl rfl 15 (by decide) (hts _ q965) (fun _ h9 => h9) rfl dX4_drill_130 ?_
        refine lv_iload_n hx hb dX4_drill_133 rfl (lv_at hl 0 rfl) ?_
        refine cpSi (As := [.int (s_104.1.1 2), .int v2_104]) (rest := [.ref (h 0)]) ⟨hx, hb, hr, hml, hown, hts, hlocks⟩ (m_X4_wider l (s_104.1.1 2) v2_104 _ hF) k_X4_wider q1134 ⟨rfl, rfl⟩ ⟨Nat.le_of_ble_eq_true rfl, Nat.le_of_ble_eq_true rfl⟩ hl.1 rfl rfl (Nat.le_of_ble_eq_true rfl) dX4_drill_134 ⟨Nat.le_of_ble_eq_true rfl, Nat.le_of_ble_eq_true rfl⟩ (fun r134 hF => ?_)
        refine va_put (D := (dC, dI)) (ci := 4) (v := .int r134) (ty := .int) (C := RX4) (T := TX4) (N := 19) hx hb hts in_X4 tyX4 tyX4_ok nmX4 hown hK.1 hP hD hS 0 rfl rfl 15 (by decide) (hts _ q965) (fun _ h9 => h9) rfl (by decide +kernel) rfl rfl (Nat.le_of_ble_eq_true rfl) dX4_drill_137 (fun H locs hP hD hS => ?_)
        have hP : va_P (dC, dI) classes (wC h cy (sI (sI (sA (sA s_104.1 1 (upd (s_104.1.2.1 1) v2_104.toNatClampNeg x1)) 2 (upd (s_104.1.2.1 2) v2_104.toNatClampNeg 0)) 0 ((s_104.1.1 0) + 1)) 2 r134) ++ (wl ad cy (z 0) (h 20) s_104.2.1 ++ (wl ad cy (z 0) (h 21) s_104.2.2.1 ++ (wl ad cy (z 0) (h 22) s_104.2.2.2.1 ++ wS h cy s_104.2.2.2.2)))) H := hP
        have hD : va_D A (wC h cy (sI (sI (sA (sA s_104.1 1 (upd (s_104.1.2.1 1) v2_104.toNatClampNeg x1)) 2 (upd (s_104.1.2.1 2) v2_104.toNatClampNeg 0)) 0 ((s_104.1.1 0) + 1)) 2 r134) ++ (wl ad cy (z 0) (h 20) s_104.2.1 ++ (wl ad cy (z 0) (h 21) s_104.2.2.1 ++ (wl ad cy (z 0) (h 22) s_104.2.2.2.1 ++ wS h cy s_104.2.2.2.2)))) := hD
        refine lv_aload_n hx hb dX4_drill_140 rfl (lv_at hl 1 rfl) ?_
        refine cfVv (x := wC h cy (sI (sI (sA (sA s_104.1 1 (upd (s_104.1.2.1 1) v2_104.toNatClampNeg x1)) 2 (upd (s_104.1.2.1 2) v2_104.toNatClampNeg 0)) 0 ((s_104.1.1 0) + 1)) 2 r134) ++ (wl ad cy (z 0) (h 20) s_104.2.1 ++ (wl ad cy (z 0) (h 21) s_104.2.2.1 ++ (wl ad cy (z 0) (h 22) s_104.2.2.2.1 ++ wS h cy s_104.2.2.2.2)))) (fpN _) ⟨hx, hb, hr, hml, hown, hts, hlocks⟩ hK hP hD hZ hvk hS hA rfl (m_X4_numbers l dC dI h cy z ad _ fu (sI (sI (sA (sA s_104.1 1 (upd (s_104.1.2.1 1) v2_104.toNatClampNeg x1)) 2 (upd (s_104.1.2.1 2) v2_104.toNatClampNeg 0)) 0 ((s_104.1.1 0) + 1)) 2 r134, s_104.2.1, s_104.2.2.1, s_104.2.2.2.1, s_104.2.2.2.2)  _ hF) (As := []) (rest := []) k_X4_numbers q1137 ⟨rfl, rfl⟩ ⟨Nat.le_of_ble_eq_true rfl, Nat.le_of_ble_eq_true rfl⟩ hl.1 rfl rfl (Nat.le_of_ble_eq_true rfl) dX4_drill_141 ⟨Nat.le_of_ble_eq_true rfl, Nat.le_of_ble_eq_true rfl⟩ (fun s141 H1 locs hF hP1 hD1 hS => ?_)
        have hP := va_P.perm (fpN _).symm hP1
        have hD := va_D.perm (fpN _).symm hD1
        generalize H1 = H at hP hS ⊢
        have hP : va_P (dC, dI) classes (wC h cy s141.1 ++ (wl ad cy (z 0) (h 20) s141.2.1 ++ (wl ad cy (z 0) (h 21) s141.2.2.1 ++ (wl ad cy (z 0) (h 22) s141.2.2.2.1 ++ wS h cy s141.2.2.2.2)))) H := hP
        have hD : va_D A (wC h cy s141.1 ++ (wl ad cy (z 0) (h 20) s141.2.1 ++ (wl ad cy (z 0) (h 21) s141.2.2.1 ++ (wl ad cy (z 0) (h 22) s141.2.2.2.1 ++ wS h cy s141.2.2.2.2)))) := hD
        refine lv_aload_n hx hb dX4_drill_144 rfl (lv_at hl 1 rfl) ?_
        refine va_get (D := (dC, dI)) (ci := 4) (v := .int (s141.1.1 0)) (C := RX4) (T := TX4) (N := 19) hx hb hts in_X4 hown hK.1 hP 0 rfl rfl 13 (by decide) (hts _ q963) (fun _ h9 => h9) rfl dX4_drill_145 ?_
        exact W.iret (v := s141.1.1 0) hx hb hr (fun t ht hW => ⟨⟨s141.1.1 0, s141, rfl, hF, by rw [ht]; exact hP, hD⟩, hS.F ht⟩) hS.2.2 dX4_drill_148
      have hL54 : ∀ (K54 : Int32 → FX → Prop), (∀ (v2_104 : Int32), ∀ (s_104 : FX), K54 v2_104 s_104 → ∀ (H : Heap) (locs : List Loc), va_P (dC, dI) classes (wC h cy s_104.1 ++ (wl ad cy (z 0) (h 20) s_104.2.1 ++ (wl ad cy (z 0) (h 21) s_104.2.2.1 ++ (wl ad cy (z 0) (h 22) s_104.2.2.2.1 ++ wS h cy s_104.2.2.2.2)))) H → va_D A (wC h cy s_104.1 ++ (wl ad cy (z 0) (h 20) s_104.2.1 ++ (wl ad cy (z 0) (h 21) s_104.2.2.1 ++ (wl ad cy (z 0) (h 22) s_104.2.2.2.1 ++ wS h cy s_104.2.2.2.2)))) → va_S A s.heap H locs → ∀ (ls : Array Slot), lv_has ls 3 [(2, .int v2_104), (0, .ref (h 0)), (1, .int x1)] → W p l e ({ frames := 4, cells := 0, slots := 0, locals := 91 } : Room) s m ([.ref (h 0), .int x1] : List Value).toArray below meth c H locs 0 0 (MQ below (va_Qi (fun r u => P r u) (fun (u : FX) t => va_P (dC, dI) classes (wC h cy u.1 ++ (wl ad cy (z 0) (h 20) u.2.1 ++ (wl ad cy (z 0) (h 21) u.2.2.1 ++ (wl ad cy (z 0) (h 22) u.2.2.2.1 ++ wS h cy u.2.2.2.2)))) t.heap ∧ va_D A (wC h cy u.1 ++ (wl ad cy (z 0) (h 20) u.2.1 ++ (wl ad cy (z 0) (h 21) u.2.2.1 ++ (wl ad cy (z 0) (h 22) u.2.2.2.1 ++ wS h cy u.2.2.2.2))))) A) ([.ref (h 0), .int x1] : List Value).toArray s 0 0 A) (F0 m 104 ls [])) → ∀ (nn : Nat), ∀ (v2_54 : Int32), ∀ (s_54 : FX), wp_X4_drill_L54 x1 K54 nn v2_54 s_54 → ∀ (H : Heap) (locs : List Loc), va_P (dC, dI) classes (wC h cy s_54.1 ++ (wl ad cy (z 0) (h 20) s_54.2.1 ++ (wl ad cy (z 0) (h 21) s_54.2.2.1 ++ (wl ad cy (z 0) (h 22) s_54.2.2.2.1 ++ wS h cy s_54.2.2.2.2)))) H → va_D A (wC h cy s_54.1 ++ (wl ad cy (z 0) (h 20) s_54.2.1 ++ (wl ad cy (z 0) (h 21) s_54.2.2.1 ++ (wl ad cy (z 0) (h 22) s_54.2.2.2.1 ++ wS h cy s_54.2.2.2.2)))) → va_S A s.heap H locs → ∀ (ls : Array Slot), lv_has ls 3 [(2, .int v2_54), (0, .ref (h 0)), (1, .int x1)] → W p l e ({ frames := 4, cells := 0, slots := 0, locals := 91 } : Room) s m ([.ref (h 0), .int x1] : List Value).toArray below meth c H locs 0 0 (MQ below (va_Qi (fun r u => P r u) (fun (u : FX) t => va_P (dC, dI) classes (wC h cy u.1 ++ (wl ad cy (z 0) (h 20) u.2.1 ++ (wl ad cy (z 0) (h 21) u.2.2.1 ++ (wl ad cy (z 0) (h 22) u.2.2.2.1 ++ wS h cy u.2.2.2.2)))) t.heap ∧ va_D A (wC h cy u.1 ++ (wl ad cy (z 0) (h 20) u.2.1 ++ (wl ad cy (z 0) (h 21) u.2.2.1 ++ (wl ad cy (z 0) (h 22) u.2.2.2.1 ++ wS h cy u.2.2.2.2))))) A) ([.ref (h 0), .int x1] : List Value).toArray s 0 0 A) (F0 m 54 ls []) := by
        intro K54 hX54 nn
        induction nn with
        | zero =>
          intro v2_54 s_54 hF
          exact hF.elim
        | succ nn ih =>
          intro v2_54 s_54 hF H locs hP hD hS ls hl
          obtain ⟨rec54, hrec⟩ : ∃ z : Int32 → FX → Prop, z = wp_X4_drill_L54 x1 K54 nn := ⟨_, rfl⟩
          have hF : wp_X4_drill_B54 x1 K54 rec54 v2_54 s_54 := by rw [hrec]; exact hF
          rw [← hrec] at ih
          clear hrec
          unfold wp_X4_drill_B54 at hF
          refine lv_iload_n hx hb dX4_drill_54 rfl (lv_at hl 0 rfl) ?_
          refine lv_if_le (tgt := 104) hx hb dX4_drill_55 (by decide) (fun cz => ?_) (fun cz => ?_)
          · have hF := hF.1 cz
            exact hX54 v2_54 s_54 hF _ _ hP hD hS _ (lv_sub hl [0, 1, 2] rfl)
          · have hF := hF.2 cz
            refine lv_aload_n hx hb dX4_drill_58 rfl (lv_at hl 1 rfl) ?_
            refine va_get (D := (dC, dI)) (ci := 4) (v := .ref (h 2)) (C := RX4) (T := TX4) (N := 19) hx hb hts in_X4 hown hK.1 hP 0 rfl rfl 1 (by decide) (hts _ q951) (fun _ h9 => h9) rfl dX4_drill_59 ?_
            refine lv_iload_n hx hb dX4_drill_62 rfl (lv_at hl 0 rfl) ?_
            refine lv_iconst (v := 1) hx hb dX4_drill_63 (by decide) ?_
            refine lv_isub hx hb dX4_drill_64 ?_
            have hI := hF.1
            have hF := hF.2
            refine va_iald hx hb hK.1 hP 2 0 rfl rfl hI dX4_drill_65 ?_
            refine lv_iload_n hx hb dX4_drill_66 rfl (lv_at hl 2 rfl) ?_
            refine lv_icmp_le (tgt := 104) hx hb dX4_drill_67 (by decide) (fun cz => ?_) (fun cz => ?_)
            · have hF := hF.1 cz
              exact hX54 v2_54 s_54 hF _ _ hP hD hS _ (lv_sub hl [0, 1, 2] rfl)
            · have hF := hF.2 cz
              refine lv_aload_n hx hb dX4_drill_70 rfl (lv_at hl 1 rfl) ?_
              refine va_get (D := (dC, dI)) (ci := 4) (v := .ref (h 2)) (C := RX4) (T := TX4) (N := 19) hx hb hts in_X4 hown hK.1 hP 0 rfl rfl 1 (by decide) (hts _ q951) (fun _ h9 => h9) rfl dX4_drill_71 ?_
              refine lv_iload_n hx hb dX4_drill_74 rfl (lv_at hl 0 rfl) ?_
              refine lv_aload_n hx hb dX4_drill_75 rfl (lv_at hl 1 rfl) ?_
              refine va_get (D := (dC, dI)) (ci := 4) (v := .ref (h 2)) (C := RX4) (T := TX4) (N := 19) hx hb hts in_X4 hown hK.1 hP 0 rfl rfl 1 (by decide) (hts _ q951) (fun _ h9 => h9) rfl dX4_drill_76 ?_
              refine lv_iload_n hx hb dX4_drill_79 rfl (lv_at hl 0 rfl) ?_
              refine lv_iconst (v := 1) hx hb dX4_drill_80 (by decide) ?_
              refine lv_isub hx hb dX4_drill_81 ?_
              have hI := hF.1
              have hF := hF.2
              refine va_iald hx hb hK.1 hP 2 0 rfl rfl hI dX4_drill_82 ?_
              have hI := hF.1
              have hF := hF.2
              refine va_iast hx hb hK.1 hP hD hS 2 0 rfl rfl hI dX4_drill_83 (fun H locs hP hD hS => ?_)
              have hP : va_P (dC, dI) classes (wC h cy (sA s_54.1 1 (upd (s_54.1.2.1 1) v2_54.toNatClampNeg ((s_54.1.2.1 1) (v2_54 - 1).toNatClampNeg))) ++ (wl ad cy (z 0) (h 20) s_54.2.1 ++ (wl ad cy (z 0) (h 21) s_54.2.2.1 ++ (wl ad cy (z 0) (h 22) s_54.2.2.2.1 ++ wS h cy s_54.2.2.2.2)))) H := hP
              have hD : va_D A (wC h cy (sA s_54.1 1 (upd (s_54.1.2.1 1) v2_54.toNatClampNeg ((s_54.1.2.1 1) (v2_54 - 1).toNatClampNeg))) ++ (wl ad cy (z 0) (h 20) s_54.2.1 ++ (wl ad cy (z 0) (h 21) s_54.2.2.1 ++ (wl ad cy (z 0) (h 22) s_54.2.2.2.1 ++ wS h cy s_54.2.2.2.2)))) := hD
              refine lv_aload_n hx hb dX4_drill_84 rfl (lv_at hl 1 rfl) ?_
              refine va_get (D := (dC, dI)) (ci := 4) (v := .ref (h 3)) (C := RX4) (T := TX4) (N := 19) hx hb hts in_X4 hown hK.1 hP 0 rfl rfl 2 (by decide) (hts _ q952) (fun _ h9 => h9) rfl dX4_drill_85 ?_
              refine lv_iload_n hx hb dX4_drill_88 rfl (lv_at hl 0 rfl) ?_
              refine lv_aload_n hx hb dX4_drill_89 rfl (lv_at hl 1 rfl) ?_
              refine va_get (D := (dC, dI)) (ci := 4) (v := .ref (h 3)) (C := RX4) (T := TX4) (N := 19) hx hb hts in_X4 hown hK.1 hP 0 rfl rfl 2 (by decide) (hts _ q952) (fun _ h9 => h9) rfl dX4_drill_90 ?_
              refine lv_iload_n hx hb dX4_drill_93 rfl (lv_at hl 0 rfl) ?_
              refine lv_iconst (v := 1) hx hb dX4_drill_94 (by decide) ?_
              refine lv_isub hx hb dX4_drill_95 ?_
              have hI := hF.1
              have hF := hF.2
              refine va_iald hx hb hK.1 hP 3 0 rfl rfl hI dX4_drill_96 ?_
              have hI := hF.1
              have hF := hF.2
              refine va_iast hx hb hK.1 hP hD hS 3 0 rfl rfl hI dX4_drill_97 (fun H locs hP hD hS => ?_)
              have hP : va_P (dC, dI) classes (wC h cy (sA (sA s_54.1 1 (upd (s_54.1.2.1 1) v2_54.toNatClampNeg ((s_54.1.2.1 1) (v2_54 - 1).toNatClampNeg))) 2 (upd (s_54.1.2.1 2) v2_54.toNatClampNeg ((s_54.1.2.1 2) (v2_54 - 1).toNatClampNeg))) ++ (wl ad cy (z 0) (h 20) s_54.2.1 ++ (wl ad cy (z 0) (h 21) s_54.2.2.1 ++ (wl ad cy (z 0) (h 22) s_54.2.2.2.1 ++ wS h cy s_54.2.2.2.2)))) H := hP
              have hD : va_D A (wC h cy (sA (sA s_54.1 1 (upd (s_54.1.2.1 1) v2_54.toNatClampNeg ((s_54.1.2.1 1) (v2_54 - 1).toNatClampNeg))) 2 (upd (s_54.1.2.1 2) v2_54.toNatClampNeg ((s_54.1.2.1 2) (v2_54 - 1).toNatClampNeg))) ++ (wl ad cy (z 0) (h 20) s_54.2.1 ++ (wl ad cy (z 0) (h 21) s_54.2.2.1 ++ (wl ad cy (z 0) (h 22) s_54.2.2.2.1 ++ wS h cy s_54.2.2.2.2)))) := hD
              refine lv_iinc (v := v2_54 + (-1)) (lv' := [(2, .int (v2_54 + (-1))), (0, .ref (h 0)), (1, .int x1)]) hx hb dX4_drill_98 hl (k := 0) rfl (by rfl) (by decide) rfl (fun ls hl => ?_)
              refine lv_goto (tgt := 54) hx hb dX4_drill_101 (by decide) ?_
              exact ih (v2_54 + (-1)) (sA (sA s_54.1 1 (upd (s_54.1.2.1 1) v2_54.toNatClampNeg ((s_54.1.2.1 1) (v2_54 - 1).toNatClampNeg))) 2 (upd (s_54.1.2.1 2) v2_54.toNatClampNeg ((s_54.1.2.1 2) (v2_54 - 1).toNatClampNeg)), s_54.2.1, s_54.2.2.1, s_54.2.2.2.1, s_54.2.2.2.2) hF _ _ hP hD hS _ (lv_sub hl [0, 1, 2] rfl)
      exact hL54 _ hX54 fu (s41.1 0) (s41, σ.2.1, σ.2.2.1, σ.2.2.2.1, σ.2.2.2.2) hF _ _ hP hD hS _ (lv_sub hl [0, 1, 2] rfl)
    · have hF := hF.2 cz
      refine lv_iconst (v := 0) hx hb dX4_drill_47 (by decide) ?_
      exact W.iret (v := 0) hx hb hr (fun t ht hW => ⟨⟨0, (s41, σ.2.1, σ.2.2.1, σ.2.2.2.1, σ.2.2.2.2), rfl, hF, by rw [ht]; exact hP, hD⟩, hS.F ht⟩) hS.2.2 dX4_drill_48
  refine lv_if_ne (tgt := 15) hx hb dX4_drill_8 (by decide) (fun cz => ?_) (fun cz => ?_)
  · have hF := hF.1 cz
    refine lv_aload_n hx hb dX4_drill_15 rfl (lv_at hl 0 rfl) ?_
    refine lv_iload_n hx hb dX4_drill_16 rfl (lv_at hl 1 rfl) ?_
    have hPc := fw_get (fp0 _ _) hP
    refine cpVi (q0 := 0) (As := [.int x1]) (rest := [.ref (h 0)]) ⟨hx, hb, hr, hml, hown, hts, hlocks⟩ hK hPc rfl rfl (m_X4_isDrilled l dC dI h cy fu σ.1 x1 _ hF) k_X4_isDrilled q1130 ⟨rfl, rfl⟩ ⟨Nat.le_of_ble_eq_true rfl, Nat.le_of_ble_eq_true rfl⟩ hl.1 rfl rfl (Nat.le_of_ble_eq_true rfl) dX4_drill_17 ⟨Nat.le_of_ble_eq_true rfl, Nat.le_of_ble_eq_true rfl⟩ (fun r17 hF => ?_)
    refine lv_if_eq (tgt := 27) hx hb dX4_drill_20 (by decide) (fun cz => ?_) (fun cz => ?_)
    · have hF := hF.1 cz
      refine lv_aload_n hx hb dX4_drill_27 rfl (lv_at hl 0 rfl) ?_
      refine va_get (D := (dC, dI)) (ci := 4) (v := .int (σ.1.1 0)) (C := RX4) (T := TX4) (N := 19) hx hb hts in_X4 hown hK.1 hP 0 rfl rfl 13 (by decide) (hts _ q963) (fun _ h9 => h9) rfl dX4_drill_28 ?_
      refine lv_bipush (v := 13) hx hb dX4_drill_31 (by decide) ?_
      refine lv_icmp_ne (tgt := 40) hx hb dX4_drill_33 (by decide) (fun cz => ?_) (fun cz => ?_)
      · have hF := hF.1 cz
        refine lv_iconst (v := 0) hx hb dX4_drill_40 (by decide) ?_
        exact hJ41 0 hF _ _ hP hD hS _ (lv_sub hl [0, 1] rfl)
      · have hF := hF.2 cz
        refine lv_iconst (v := 3) hx hb dX4_drill_36 (by decide) ?_
        refine lv_goto (tgt := 41) hx hb dX4_drill_37 (by decide) ?_
        exact hJ41 3 hF _ _ hP hD hS _ (lv_sub hl [0, 1] rfl)
    · have hF := hF.2 cz
      refine lv_iconst (v := 2) hx hb dX4_drill_23 (by decide) ?_
      refine lv_goto (tgt := 41) hx hb dX4_drill_24 (by decide) ?_
      exact hJ41 2 hF _ _ hP hD hS _ (lv_sub hl [0, 1] rfl)
  · have hF := hF.2 cz
    refine lv_iconst (v := 1) hx hb dX4_drill_11 (by decide) ?_
    refine lv_goto (tgt := 41) hx hb dX4_drill_12 (by decide) ?_
    exact hJ41 1 hF _ _ hP hD hS _ (lv_sub hl [0, 1] rfl)
theorem dX4_fill_0 : decode cX4_fill 0 = .ok (.aload_n 0, 1) := by decide +kernel
theorem dX4_fill_1 : decode cX4_fill 1 = .ok (.iload_n 1, 1) := by decide +kernel
theorem dX4_fill_2 : decode cX4_fill 2 = .ok (.iconst 0, 1) := by decide +kernel
theorem dX4_fill_3 : decode cX4_fill 3 = .ok (.bipush 24, 2) := by decide +kernel
theorem dX4_fill_5 : decode cX4_fill 5 = .ok (.invokestatic 67, 3) := by decide +kernel
theorem dX4_fill_8 : decode cX4_fill 8 = .ok (.ifCond .ne 7, 3) := by decide +kernel
theorem dX4_fill_11 : decode cX4_fill 11 = .ok (.iconst 1, 1) := by decide +kernel
theorem dX4_fill_12 : decode cX4_fill 12 = .ok (.goto 16, 3) := by decide +kernel
theorem dX4_fill_15 : decode cX4_fill 15 = .ok (.aload_n 0, 1) := by decide +kernel
theorem dX4_fill_16 : decode cX4_fill 16 = .ok (.iload_n 1, 1) := by decide +kernel
theorem dX4_fill_17 : decode cX4_fill 17 = .ok (.invokevirtual 117, 3) := by decide +kernel
theorem dX4_fill_20 : decode cX4_fill 20 = .ok (.ifCond .eq 7, 3) := by decide +kernel
theorem dX4_fill_23 : decode cX4_fill 23 = .ok (.iconst 0, 1) := by decide +kernel
theorem dX4_fill_24 : decode cX4_fill 24 = .ok (.goto 4, 3) := by decide +kernel
theorem dX4_fill_27 : decode cX4_fill 27 = .ok (.iconst 2, 1) := by decide +kernel
theorem dX4_fill_28 : decode cX4_fill 28 = .ok (.invokevirtual 100, 3) := by decide +kernel
theorem dX4_fill_31 : decode cX4_fill 31 = .ok (.ifCond .eq 5, 3) := by decide +kernel
theorem dX4_fill_34 : decode cX4_fill 34 = .ok (.iconst 0, 1) := by decide +kernel
theorem dX4_fill_35 : decode cX4_fill 35 = .ok (.ireturn, 1) := by decide +kernel
theorem dX4_fill_36 : decode cX4_fill 36 = .ok (.aload_n 0, 1) := by decide +kernel
theorem dX4_fill_37 : decode cX4_fill 37 = .ok (.getfield 9, 3) := by decide +kernel
theorem dX4_fill_40 : decode cX4_fill 40 = .ok (.iload_n 1, 1) := by decide +kernel
theorem dX4_fill_41 : decode cX4_fill 41 = .ok (.iaload, 1) := by decide +kernel
theorem dX4_fill_42 : decode cX4_fill 42 = .ok (.istore_n 2, 1) := by decide +kernel
theorem dX4_fill_43 : decode cX4_fill 43 = .ok (.iload_n 2, 1) := by decide +kernel
theorem dX4_fill_44 : decode cX4_fill 44 = .ok (.istore_n 3, 1) := by decide +kernel
theorem dX4_fill_45 : decode cX4_fill 45 = .ok (.iload_n 3, 1) := by decide +kernel
theorem dX4_fill_46 : decode cX4_fill 46 = .ok (.iconst 1, 1) := by decide +kernel
theorem dX4_fill_47 : decode cX4_fill 47 = .ok (.iadd, 1) := by decide +kernel
theorem dX4_fill_48 : decode cX4_fill 48 = .ok (.aload_n 0, 1) := by decide +kernel
theorem dX4_fill_49 : decode cX4_fill 49 = .ok (.getfield 64, 3) := by decide +kernel
theorem dX4_fill_52 : decode cX4_fill 52 = .ok (.if_icmp .ge 37, 3) := by decide +kernel
theorem dX4_fill_55 : decode cX4_fill 55 = .ok (.aload_n 0, 1) := by decide +kernel
theorem dX4_fill_56 : decode cX4_fill 56 = .ok (.getfield 13, 3) := by decide +kernel
theorem dX4_fill_59 : decode cX4_fill 59 = .ok (.iload_n 3, 1) := by decide +kernel
theorem dX4_fill_60 : decode cX4_fill 60 = .ok (.aload_n 0, 1) := by decide +kernel
theorem dX4_fill_61 : decode cX4_fill 61 = .ok (.getfield 13, 3) := by decide +kernel
theorem dX4_fill_64 : decode cX4_fill 64 = .ok (.iload_n 3, 1) := by decide +kernel
theorem dX4_fill_65 : decode cX4_fill 65 = .ok (.iconst 1, 1) := by decide +kernel
theorem dX4_fill_66 : decode cX4_fill 66 = .ok (.iadd, 1) := by decide +kernel
theorem dX4_fill_67 : decode cX4_fill 67 = .ok (.iaload, 1) := by decide +kernel
theorem dX4_fill_68 : decode cX4_fill 68 = .ok (.iastore, 1) := by decide +kernel
theorem dX4_fill_69 : decode cX4_fill 69 = .ok (.aload_n 0, 1) := by decide +kernel
theorem dX4_fill_70 : decode cX4_fill 70 = .ok (.getfield 16, 3) := by decide +kernel
theorem dX4_fill_73 : decode cX4_fill 73 = .ok (.iload_n 3, 1) := by decide +kernel
theorem dX4_fill_74 : decode cX4_fill 74 = .ok (.aload_n 0, 1) := by decide +kernel
theorem dX4_fill_75 : decode cX4_fill 75 = .ok (.getfield 16, 3) := by decide +kernel
theorem dX4_fill_78 : decode cX4_fill 78 = .ok (.iload_n 3, 1) := by decide +kernel
theorem dX4_fill_79 : decode cX4_fill 79 = .ok (.iconst 1, 1) := by decide +kernel
theorem dX4_fill_80 : decode cX4_fill 80 = .ok (.iadd, 1) := by decide +kernel
theorem dX4_fill_81 : decode cX4_fill 81 = .ok (.iaload, 1) := by decide +kernel
theorem dX4_fill_82 : decode cX4_fill 82 = .ok (.iastore, 1) := by decide +kernel
theorem dX4_fill_83 : decode cX4_fill 83 = .ok (.iinc 3 1, 3) := by decide +kernel
theorem dX4_fill_86 : decode cX4_fill 86 = .ok (.goto (-41), 3) := by decide +kernel
theorem dX4_fill_89 : decode cX4_fill 89 = .ok (.aload_n 0, 1) := by decide +kernel
theorem dX4_fill_90 : decode cX4_fill 90 = .ok (.dup, 1) := by decide +kernel
theorem dX4_fill_91 : decode cX4_fill 91 = .ok (.getfield 64, 3) := by decide +kernel
theorem dX4_fill_94 : decode cX4_fill 94 = .ok (.iconst 1, 1) := by decide +kernel
theorem dX4_fill_95 : decode cX4_fill 95 = .ok (.isub, 1) := by decide +kernel
theorem dX4_fill_96 : decode cX4_fill 96 = .ok (.putfield 64, 3) := by decide +kernel
theorem dX4_fill_99 : decode cX4_fill 99 = .ok (.aload_n 0, 1) := by decide +kernel
theorem dX4_fill_100 : decode cX4_fill 100 = .ok (.aload_n 0, 1) := by decide +kernel
theorem dX4_fill_101 : decode cX4_fill 101 = .ok (.getfield 120, 3) := by decide +kernel
theorem dX4_fill_104 : decode cX4_fill 104 = .ok (.iload_n 2, 1) := by decide +kernel
theorem dX4_fill_105 : decode cX4_fill 105 = .ok (.invokestatic 129, 3) := by decide +kernel
theorem dX4_fill_108 : decode cX4_fill 108 = .ok (.putfield 120, 3) := by decide +kernel
theorem dX4_fill_111 : decode cX4_fill 111 = .ok (.aload_n 0, 1) := by decide +kernel
theorem dX4_fill_112 : decode cX4_fill 112 = .ok (.invokevirtual 126, 3) := by decide +kernel
theorem dX4_fill_115 : decode cX4_fill 115 = .ok (.aload_n 0, 1) := by decide +kernel
theorem dX4_fill_116 : decode cX4_fill 116 = .ok (.getfield 64, 3) := by decide +kernel
theorem dX4_fill_119 : decode cX4_fill 119 = .ok (.ireturn, 1) := by decide +kernel
def wp_X4_fill_B45 (K45 : FX → Prop) (rec45 : Int32 → FX → Prop) (v3_45 : Int32) (s_45 : FX) : Prop := (((s_45.1.1 0) ≤ (v3_45 + 1) → (K45 s_45)) ∧ (¬ (s_45.1.1 0) ≤ (v3_45 + 1) → (vp_in (v3_45 + 1) 13 ∧ (vp_in v3_45 13 ∧ (vp_in (v3_45 + 1) 13 ∧ (vp_in v3_45 13 ∧ (rec45 (v3_45 + 1) (sA (sA s_45.1 1 (upd (s_45.1.2.1 1) v3_45.toNatClampNeg ((s_45.1.2.1 1) (v3_45 + 1).toNatClampNeg))) 2 (upd (s_45.1.2.1 2) v3_45.toNatClampNeg ((s_45.1.2.1 2) (v3_45 + 1).toNatClampNeg)), s_45.2.1, s_45.2.2.1, s_45.2.2.2.1, s_45.2.2.2.2))))))))
def wp_X4_fill_L45 (K45 : FX → Prop) : Nat → Int32 → FX → Prop
  | 0, _, _ => False
  | nn + 1, v3_45, s_45 => wp_X4_fill_B45 K45 (wp_X4_fill_L45 K45 nn) v3_45 s_45
def wp_X4_fill_J28 (fu : Nat) (σ : FX) (x1 : Int32) (P : Int32 → FX → Prop) (t1_28 : Int32) : Prop := (wp_X4_fails σ.1 t1_28 (fun r28 s28 => ((r28 = 0 → (vp_in x1 25 ∧ (wp_X4_fill_L45 (fun (s_89 : FX) => (wp_X4_narrower (s_89.1.1 2) ((s28.2.1 0) x1.toNatClampNeg) (fun r105 => (wp_X4_numbers fu (sI (sI s_89.1 0 ((s_89.1.1 0) - 1)) 2 r105, s_89.2.1, s_89.2.2.1, s_89.2.2.2.1, s_89.2.2.2.2) (fun s112 => (P (s112.1.1 0) s112)))))) fu ((s28.2.1 0) x1.toNatClampNeg) (s28, σ.2.1, σ.2.2.1, σ.2.2.2.1, σ.2.2.2.2)))) ∧ (¬ r28 = 0 → (P 0 (s28, σ.2.1, σ.2.2.1, σ.2.2.2.1, σ.2.2.2.2))))))
def wp_X4_fill (fu : Nat) (σ : FX) (x1 : Int32) (P : Int32 → FX → Prop) : Prop := (wp_X4_in x1 0 24 (fun r5 => ((¬ r5 = 0 → (wp_X4_isDrilled fu σ.1 x1 (fun r17 => ((r17 = 0 → (wp_X4_fill_J28 fu σ x1 P 2)) ∧ (¬ r17 = 0 → (wp_X4_fill_J28 fu σ x1 P 0)))))) ∧ (r5 = 0 → (wp_X4_fill_J28 fu σ x1 P 1)))))
theorem k_X4_fill : KV RX4 yX4_fill cX4_fill 4 (some .int) 1 := ⟨q1145, q1146, q5, q1147, by decide +kernel⟩
set_option maxHeartbeats 4000000 in
set_option maxRecDepth 100000 in
theorem m_X4_fill (l : Launch) (dC : Nat → ClassId) (dI : Nat → Nat → Nat) (h : Nat → Nat) (cy : Nat → ClassId) (z ad : Nat → Nat) (sz : Nat) (fu : Nat) (σ : FX) (x1 : Int32) (P : Int32 → FX → Prop) (hF : wp_X4_fill fu σ x1 P) : Met l yX4_fill (ws_ yX4_fill cX4_fill 4 (some .int)) ({ frames := 4, cells := 0, slots := 0, locals := 91 } : Room) (va_Pc [.ref (h 0), .int x1] (PcF dC dI cy z ad (wC h cy σ.1 ++ (wl ad cy (z 0) (h 20) σ.2.1 ++ (wl ad cy (z 0) (h 21) σ.2.2.1 ++ (wl ad cy (z 0) (h 22) σ.2.2.2.1 ++ wS h cy σ.2.2.2.2)))) sz)) (va_Qi (fun r u => P r u) (fun (u : FX) t => va_P (dC, dI) classes (wC h cy u.1 ++ (wl ad cy (z 0) (h 20) u.2.1 ++ (wl ad cy (z 0) (h 21) u.2.2.1 ++ (wl ad cy (z 0) (h 22) u.2.2.2.1 ++ wS h cy u.2.2.2.2)))) t.heap ∧ va_D (va_A (wC h cy σ.1 ++ (wl ad cy (z 0) (h 20) σ.2.1 ++ (wl ad cy (z 0) (h 21) σ.2.2.1 ++ (wl ad cy (z 0) (h 22) σ.2.2.2.1 ++ wS h cy σ.2.2.2.2)))) sz) (wC h cy u.1 ++ (wl ad cy (z 0) (h 20) u.2.1 ++ (wl ad cy (z 0) (h 21) u.2.2.1 ++ (wl ad cy (z 0) (h 22) u.2.2.2.1 ++ wS h cy u.2.2.2.2))))) (va_A (wC h cy σ.1 ++ (wl ad cy (z 0) (h 20) σ.2.1 ++ (wl ad cy (z 0) (h 21) σ.2.2.1 ++ (wl ad cy (z 0) (h 22) σ.2.2.2.1 ++ wS h cy σ.2.2.2.2)))) sz)) 0 0 (va_A (wC h cy σ.1 ++ (wl ad cy (z 0) (h 20) σ.2.1 ++ (wl ad cy (z 0) (h 21) σ.2.2.1 ++ (wl ad cy (z 0) (h 22) σ.2.2.2.1 ++ wS h cy σ.2.2.2.2)))) sz) := by
  refine Met.ofCx (own := RX4) (by decide) rfl (Nat.le_of_ble_eq_true rfl) ?_
  intro p e s m below meth c hC hv ls hl
  obtain ⟨hx, hb, hr, hml, hown, hts, hlocks⟩ := hC
  have hl : lv_has ls 4 [(0, .ref (h 0)), (1, .int x1)] := hl
  obtain ⟨hsz, hP, hK, hD0, hZ, hvk⟩ := hv
  subst hsz
  have hD := hD0.self (sz := s.heap.size)
  generalize hAe : va_A (wC h cy σ.1 ++ (wl ad cy (z 0) (h 20) σ.2.1 ++ (wl ad cy (z 0) (h 21) σ.2.2.1 ++ (wl ad cy (z 0) (h 22) σ.2.2.2.1 ++ wS h cy σ.2.2.2.2)))) s.heap.size = A at hD hZ ⊢
  have hA : ∀ q : Nat, s.heap.size ≤ q → A q := fun q h => by rw [← hAe]; exact Or.inr h
  have hS : va_S A s.heap s.heap [] := va_S.rf
  clear hAe
  unfold wp_X4_fill at hF
  refine lv_aload_n hx hb dX4_fill_0 rfl (lv_at hl 0 rfl) ?_
  refine lv_iload_n hx hb dX4_fill_1 rfl (lv_at hl 1 rfl) ?_
  refine lv_iconst (v := 0) hx hb dX4_fill_2 (by decide) ?_
  refine lv_bipush (v := 24) hx hb dX4_fill_3 (by decide) ?_
  refine cpSi (As := [.int x1, .int 0, .int 24]) (rest := [.ref (h 0)]) ⟨hx, hb, hr, hml, hown, hts, hlocks⟩ (m_X4_in l x1 0 24 _ hF) k_X4_in q937 ⟨rfl, rfl⟩ ⟨Nat.le_of_ble_eq_true rfl, Nat.le_of_ble_eq_true rfl⟩ hl.1 rfl rfl (Nat.le_of_ble_eq_true rfl) dX4_fill_5 ⟨Nat.le_of_ble_eq_true rfl, Nat.le_of_ble_eq_true rfl⟩ (fun r5 hF => ?_)
  have hJ28 : ∀ (t1_28 : Int32), wp_X4_fill_J28 fu σ x1 P t1_28 → ∀ (H : Heap) (locs : List Loc), va_P (dC, dI) classes (wC h cy σ.1 ++ (wl ad cy (z 0) (h 20) σ.2.1 ++ (wl ad cy (z 0) (h 21) σ.2.2.1 ++ (wl ad cy (z 0) (h 22) σ.2.2.2.1 ++ wS h cy σ.2.2.2.2)))) H → va_D A (wC h cy σ.1 ++ (wl ad cy (z 0) (h 20) σ.2.1 ++ (wl ad cy (z 0) (h 21) σ.2.2.1 ++ (wl ad cy (z 0) (h 22) σ.2.2.2.1 ++ wS h cy σ.2.2.2.2)))) → va_S A s.heap H locs → ∀ (ls : Array Slot), lv_has ls 4 [(0, .ref (h 0)), (1, .int x1)] → W p l e ({ frames := 4, cells := 0, slots := 0, locals := 91 } : Room) s m ([.ref (h 0), .int x1] : List Value).toArray below meth c H locs 0 0 (MQ below (va_Qi (fun r u => P r u) (fun (u : FX) t => va_P (dC, dI) classes (wC h cy u.1 ++ (wl ad cy (z 0) (h 20) u.2.1 ++ (wl ad cy (z 0) (h 21) u.2.2.1 ++ (wl ad cy (z 0) (h 22) u.2.2.2.1 ++ wS h cy u.2.2.2.2)))) t.heap ∧ va_D A (wC h cy u.1 ++ (wl ad cy (z 0) (h 20) u.2.1 ++ (wl ad cy (z 0) (h 21) u.2.2.1 ++ (wl ad cy (z 0) (h 22) u.2.2.2.1 ++ wS h cy u.2.2.2.2))))) A) ([.ref (h 0), .int x1] : List Value).toArray s 0 0 A) (F0 m 28 ls [.int t1_28, .ref (h 0)]) := by
    intro t1_28 hF H locs hP hD hS ls hl
    unfold wp_X4_fill_J28 at hF
    have hPc := fw_get (fp0 _ _) hP
    have hDc := fw_getD (fp0 _ _) hD
    have hFc := fw_free (fp0 _ _) hD hS hA
    refine cwVi (q0 := 0) (As := [.int t1_28]) (rest := []) ⟨hx, hb, hr, hml, hown, hts, hlocks⟩ hK hPc hDc rfl rfl hS hFc (m_X4_fails l dC dI h cy _ σ.1 t1_28 _ hF) k_X4_fails q1102 ⟨rfl, rfl⟩ ⟨Nat.le_of_ble_eq_true rfl, Nat.le_of_ble_eq_true rfl⟩ hl.1 rfl rfl (Nat.le_of_ble_eq_true rfl) dX4_fill_28 ⟨Nat.le_of_ble_eq_true rfl, Nat.le_of_ble_eq_true rfl⟩ (fun r28 u H1 locs hF hP1 hD1 hk1 hS => ?_)
    obtain ⟨s28, rfl⟩ : ∃ z, z = u := ⟨_, rfl⟩
    obtain ⟨hP, hD⟩ := fw_join (fp0 _ _) hP hD hk1 hFc hP1 hD1
    generalize H1 = H at hP hS ⊢
    have hP : va_P (dC, dI) classes (wC h cy s28 ++ (wl ad cy (z 0) (h 20) σ.2.1 ++ (wl ad cy (z 0) (h 21) σ.2.2.1 ++ (wl ad cy (z 0) (h 22) σ.2.2.2.1 ++ wS h cy σ.2.2.2.2)))) H := hP
    have hD : va_D A (wC h cy s28 ++ (wl ad cy (z 0) (h 20) σ.2.1 ++ (wl ad cy (z 0) (h 21) σ.2.2.1 ++ (wl ad cy (z 0) (h 22) σ.2.2.2.1 ++ wS h cy σ.2.2.2.2)))) := hD
    refine lv_if_eq (tgt := 36) hx hb dX4_fill_31 (by decide) (fun cz => ?_) (fun cz => ?_)
    · have hF := hF.1 cz
      refine lv_aload_n hx hb dX4_fill_36 rfl (lv_at hl 0 rfl) ?_
      refine va_get (D := (dC, dI)) (ci := 4) (v := .ref (h 1)) (C := RX4) (T := TX4) (N := 19) hx hb hts in_X4 hown hK.1 hP 0 rfl rfl 0 (by decide) (hts _ q950) (fun _ h9 => h9) rfl dX4_fill_37 ?_
      refine lv_iload_n hx hb dX4_fill_40 rfl (lv_at hl 1 rfl) ?_
      have hI := hF.1
      have hF := hF.2
      refine va_iald hx hb hK.1 hP 1 0 rfl rfl hI dX4_fill_41 ?_
      refine lv_istore_n (lv' := [(2, .int ((s28.2.1 0) x1.toNatClampNeg)), (0, .ref (h 0)), (1, .int x1)]) hx hb dX4_fill_42 rfl hl (by decide) rfl (fun ls hl => ?_)
      refine lv_iload_n hx hb dX4_fill_43 rfl (lv_at hl 0 rfl) ?_
      refine lv_istore_n (lv' := [(3, .int ((s28.2.1 0) x1.toNatClampNeg)), (2, .int ((s28.2.1 0) x1.toNatClampNeg)), (0, .ref (h 0)), (1, .int x1)]) hx hb dX4_fill_44 rfl hl (by decide) rfl (fun ls hl => ?_)
      have hX45 : ∀ (s_89 : FX), (fun (s_89 : FX) => (wp_X4_narrower (s_89.1.1 2) ((s28.2.1 0) x1.toNatClampNeg) (fun r105 => (wp_X4_numbers fu (sI (sI s_89.1 0 ((s_89.1.1 0) - 1)) 2 r105, s_89.2.1, s_89.2.2.1, s_89.2.2.2.1, s_89.2.2.2.2) (fun s112 => (P (s112.1.1 0) s112)))))) s_89 → ∀ (H : Heap) (locs : List Loc), va_P (dC, dI) classes (wC h cy s_89.1 ++ (wl ad cy (z 0) (h 20) s_89.2.1 ++ (wl ad cy (z 0) (h 21) s_89.2.2.1 ++ (wl ad cy (z 0) (h 22) s_89.2.2.2.1 ++ wS h cy s_89.2.2.2.2)))) H → va_D A (wC h cy s_89.1 ++ (wl ad cy (z 0) (h 20) s_89.2.1 ++ (wl ad cy (z 0) (h 21) s_89.2.2.1 ++ (wl ad cy (z 0) (h 22) s_89.2.2.2.1 ++ wS h cy s_89.2.2.2.2)))) → va_S A s.heap H locs → ∀ (ls : Array Slot), lv_has ls 4 [(2, .int ((s28.2.1 0) x1.toNatClampNeg)), (0, .ref (h 0))] → W p l e ({ frames := 4, cells := 0, slots := 0, locals := 91 } : Room) s m ([.ref (h 0), .int x1] : List Value).toArray below meth c H locs 0 0 (MQ below (va_Qi (fun r u => P r u) (fun (u : FX) t => va_P (dC, dI) classes (wC h cy u.1 ++ (wl ad cy (z 0) (h 20) u.2.1 ++ (wl ad cy (z 0) (h 21) u.2.2.1 ++ (wl ad cy (z 0) (h 22) u.2.2.2.1 ++ wS h cy u.2.2.2.2)))) t.heap ∧ va_D A (wC h cy u.1 ++ (wl ad cy (z 0) (h 20) u.2.1 ++ (wl ad cy (z 0) (h 21) u.2.2.1 ++ (wl ad cy (z 0) (h 22) u.2.2.2.1 ++ wS h cy u.2.2.2.2))))) A) ([.ref (h 0), .int x1] : List Value).toArray s 0 0 A) (F0 m 89 ls []) := by
        intro s_89 hF H locs hP hD hS ls hl
        refine lv_aload_n hx hb dX4_fill_89 rfl (lv_at hl 1 rfl) ?_
        refine lv_dup hx hb dX4_fill_90 rfl ?_
        refine va_get (D := (dC, dI)) (ci := 4) (v := .int (s_89.1.1 0)) (C := RX4) (T := TX4) (N := 19) hx hb hts in_X4 hown hK.1 hP 0 rfl rfl 13 (by decide) (hts _ q963) (fun _ h9 => h9) rfl dX4_fill_91 ?_
        refine lv_iconst (v := 1) hx hb dX4_fill_94 (by decide) ?_
        refine lv_isub hx hb dX4_fill_95 ?_
        refine va_put (D := (dC, dI)) (ci := 4) (v := .int ((s_89.1.1 0) - 1)) (ty := .int) (C := RX4) (T := TX4) (N := 19) hx hb hts in_X4 tyX4 tyX4_ok nmX4 hown hK.1 hP hD hS 0 rfl rfl 13 (by decide) (hts _ q963) (fun _ h9 => h9) rfl (by decide +kernel) rfl rfl (Nat.le_of_ble_eq_true rfl) dX4_fill_96 (fun H locs hP hD hS => ?_)
        have hP : va_P (dC, dI) classes (wC h cy (sI s_89.1 0 ((s_89.1.1 0) - 1)) ++ (wl ad cy (z 0) (h 20) s_89.2.1 ++ (wl ad cy (z 0) (h 21) s_89.2.2.1 ++ (wl ad cy (z 0) (h 22) s_89.2.2.2.1 ++ wS h cy s_89.2.2.2.2)))) H := hP
        have hD : va_D A (wC h cy (sI s_89.1 0 ((s_89.1.1 0) - 1)) ++ (wl ad cy (z 0) (h 20) s_89.2.1 ++ (wl ad cy (z 0) (h 21) s_89.2.2.1 ++ (wl ad cy (z 0) (h 22) s_89.2.2.2.1 ++ wS h cy s_89.2.2.2.2)))) := hD
        refine lv_aload_n hx hb dX4_fill_99 rfl (lv_at hl 1 rfl) ?_
        refine lv_aload_n hx hb dX4_fill_100 rfl (lv_at hl 1 rfl) ?_
        refine va_get (D := (dC, dI)) (ci := 4) (v := .int (s_89.1.1 2)) (C := RX4) (T := TX4) (N := 19) hx hb hts in_X4 hown hK.1 hP 0 rfl rfl 15 (by decide) (hts _ q965) (fun _ h9 => h9) rfl dX4_fill_101 ?_
        refine lv_iload_n hx hb dX4_fill_104 rfl (lv_at hl 0 rfl) ?_
        refine cpSi (As := [.int (s_89.1.1 2), .int ((s28.2.1 0) x1.toNatClampNeg)]) (rest := [.ref (h 0)]) ⟨hx, hb, hr, hml, hown, hts, hlocks⟩ (m_X4_narrower l (s_89.1.1 2) ((s28.2.1 0) x1.toNatClampNeg) _ hF) k_X4_narrower q1148 ⟨rfl, rfl⟩ ⟨Nat.le_of_ble_eq_true rfl, Nat.le_of_ble_eq_true rfl⟩ hl.1 rfl rfl (Nat.le_of_ble_eq_true rfl) dX4_fill_105 ⟨Nat.le_of_ble_eq_true rfl, Nat.le_of_ble_eq_true rfl⟩ (fun r105 hF => ?_)
        refine va_put (D := (dC, dI)) (ci := 4) (v := .int r105) (ty := .int) (C := RX4) (T := TX4) (N := 19) hx hb hts in_X4 tyX4 tyX4_ok nmX4 hown hK.1 hP hD hS 0 rfl rfl 15 (by decide) (hts _ q965) (fun _ h9 => h9) rfl (by decide +kernel) rfl rfl (Nat.le_of_ble_eq_true rfl) dX4_fill_108 (fun H locs hP hD hS => ?_)
        have hP : va_P (dC, dI) classes (wC h cy (sI (sI s_89.1 0 ((s_89.1.1 0) - 1)) 2 r105) ++ (wl ad cy (z 0) (h 20) s_89.2.1 ++ (wl ad cy (z 0) (h 21) s_89.2.2.1 ++ (wl ad cy (z 0) (h 22) s_89.2.2.2.1 ++ wS h cy s_89.2.2.2.2)))) H := hP
        have hD : va_D A (wC h cy (sI (sI s_89.1 0 ((s_89.1.1 0) - 1)) 2 r105) ++ (wl ad cy (z 0) (h 20) s_89.2.1 ++ (wl ad cy (z 0) (h 21) s_89.2.2.1 ++ (wl ad cy (z 0) (h 22) s_89.2.2.2.1 ++ wS h cy s_89.2.2.2.2)))) := hD
        refine lv_aload_n hx hb dX4_fill_111 rfl (lv_at hl 1 rfl) ?_
        refine cfVv (x := wC h cy (sI (sI s_89.1 0 ((s_89.1.1 0) - 1)) 2 r105) ++ (wl ad cy (z 0) (h 20) s_89.2.1 ++ (wl ad cy (z 0) (h 21) s_89.2.2.1 ++ (wl ad cy (z 0) (h 22) s_89.2.2.2.1 ++ wS h cy s_89.2.2.2.2)))) (fpN _) ⟨hx, hb, hr, hml, hown, hts, hlocks⟩ hK hP hD hZ hvk hS hA rfl (m_X4_numbers l dC dI h cy z ad _ fu (sI (sI s_89.1 0 ((s_89.1.1 0) - 1)) 2 r105, s_89.2.1, s_89.2.2.1, s_89.2.2.2.1, s_89.2.2.2.2)  _ hF) (As := []) (rest := []) k_X4_numbers q1137 ⟨rfl, rfl⟩ ⟨Nat.le_of_ble_eq_true rfl, Nat.le_of_ble_eq_true rfl⟩ hl.1 rfl rfl (Nat.le_of_ble_eq_true rfl) dX4_fill_112 ⟨Nat.le_of_ble_eq_true rfl, Nat.le_of_ble_eq_true rfl⟩ (fun s112 H1 locs hF hP1 hD1 hS => ?_)
        have hP := va_P.perm (fpN _).symm hP1
        have hD := va_D.perm (fpN _).symm hD1
        generalize H1 = H at hP hS ⊢
        have hP : va_P (dC, dI) classes (wC h cy s112.1 ++ (wl ad cy (z 0) (h 20) s112.2.1 ++ (wl ad cy (z 0) (h 21) s112.2.2.1 ++ (wl ad cy (z 0) (h 22) s112.2.2.2.1 ++ wS h cy s112.2.2.2.2)))) H := hP
        have hD : va_D A (wC h cy s112.1 ++ (wl ad cy (z 0) (h 20) s112.2.1 ++ (wl ad cy (z 0) (h 21) s112.2.2.1 ++ (wl ad cy (z 0) (h 22) s112.2.2.2.1 ++ wS h cy s112.2.2.2.2)))) := hD
        refine lv_aload_n hx hb dX4_fill_115 rfl (lv_at hl 1 rfl) ?_
        refine va_get (D := (dC, dI)) (ci := 4) (v := .int (s112.1.1 0)) (C := RX4) (T := TX4) (N := 19) hx hb hts in_X4 hown hK.1 hP 0 rfl rfl 13 (by decide) (hts _ q963) (fun _ h9 => h9) rfl dX4_fill_116 ?_
        exact W.iret (v := s112.1.1 0) hx hb hr (fun t ht hW => ⟨⟨s112.1.1 0, s112, rfl, hF, by rw [ht]; exact hP, hD⟩, hS.F ht⟩) hS.2.2 dX4_fill_119
      have hL45 : ∀ (K45 : FX → Prop), (∀ (s_89 : FX), K45 s_89 → ∀ (H : Heap) (locs : List Loc), va_P (dC, dI) classes (wC h cy s_89.1 ++ (wl ad cy (z 0) (h 20) s_89.2.1 ++ (wl ad cy (z 0) (h 21) s_89.2.2.1 ++ (wl ad cy (z 0) (h 22) s_89.2.2.2.1 ++ wS h cy s_89.2.2.2.2)))) H → va_D A (wC h cy s_89.1 ++ (wl ad cy (z 0) (h 20) s_89.2.1 ++ (wl ad cy (z 0) (h 21) s_89.2.2.1 ++ (wl ad cy (z 0) (h 22) s_89.2.2.2.1 ++ wS h cy s_89.2.2.2.2)))) → va_S A s.heap H locs → ∀ (ls : Array Slot), lv_has ls 4 [(2, .int ((s28.2.1 0) x1.toNatClampNeg)), (0, .ref (h 0))] → W p l e ({ frames := 4, cells := 0, slots := 0, locals := 91 } : Room) s m ([.ref (h 0), .int x1] : List Value).toArray below meth c H locs 0 0 (MQ below (va_Qi (fun r u => P r u) (fun (u : FX) t => va_P (dC, dI) classes (wC h cy u.1 ++ (wl ad cy (z 0) (h 20) u.2.1 ++ (wl ad cy (z 0) (h 21) u.2.2.1 ++ (wl ad cy (z 0) (h 22) u.2.2.2.1 ++ wS h cy u.2.2.2.2)))) t.heap ∧ va_D A (wC h cy u.1 ++ (wl ad cy (z 0) (h 20) u.2.1 ++ (wl ad cy (z 0) (h 21) u.2.2.1 ++ (wl ad cy (z 0) (h 22) u.2.2.2.1 ++ wS h cy u.2.2.2.2))))) A) ([.ref (h 0), .int x1] : List Value).toArray s 0 0 A) (F0 m 89 ls [])) → ∀ (nn : Nat), ∀ (v3_45 : Int32), ∀ (s_45 : FX), wp_X4_fill_L45 K45 nn v3_45 s_45 → ∀ (H : Heap) (locs : List Loc), va_P (dC, dI) classes (wC h cy s_45.1 ++ (wl ad cy (z 0) (h 20) s_45.2.1 ++ (wl ad cy (z 0) (h 21) s_45.2.2.1 ++ (wl ad cy (z 0) (h 22) s_45.2.2.2.1 ++ wS h cy s_45.2.2.2.2)))) H → va_D A (wC h cy s_45.1 ++ (wl ad cy (z 0) (h 20) s_45.2.1 ++ (wl ad cy (z 0) (h 21) s_45.2.2.1 ++ (wl ad cy (z 0) (h 22) s_45.2.2.2.1 ++ wS h cy s_45.2.2.2.2)))) → va_S A s.heap H locs → ∀ (ls : Array Slot), lv_has ls 4 [(3, .int v3_45), (2, .int ((s28.2.1 0) x1.toNatClampNeg)), (0, .ref (h 0))] → W p l e ({ frames := 4, cells := 0, slots := 0, locals := 91 } : Room) s m ([.ref (h 0), .int x1] : List Value).toArray below meth c H locs 0 0 (MQ below (va_Qi (fun r u => P r u) (fun (u : FX) t => va_P (dC, dI) classes (wC h cy u.1 ++ (wl ad cy (z 0) (h 20) u.2.1 ++ (wl ad cy (z 0) (h 21) u.2.2.1 ++ (wl ad cy (z 0) (h 22) u.2.2.2.1 ++ wS h cy u.2.2.2.2)))) t.heap ∧ va_D A (wC h cy u.1 ++ (wl ad cy (z 0) (h 20) u.2.1 ++ (wl ad cy (z 0) (h 21) u.2.2.1 ++ (wl ad cy (z 0) (h 22) u.2.2.2.1 ++ wS h cy u.2.2.2.2))))) A) ([.ref (h 0), .int x1] : List Value).toArray s 0 0 A) (F0 m 45 ls []) := by
        intro K45 hX45 nn
        induction nn with
        | zero =>
          intro v3_45 s_45 hF
          exact hF.elim
        | succ nn ih =>
          intro v3_45 s_45 hF H locs hP hD hS ls hl
          obtain ⟨rec45, hrec⟩ : ∃ z : Int32 → FX → Prop, z = wp_X4_fill_L45 K45 nn := ⟨_, rfl⟩
          have hF : wp_X4_fill_B45 K45 rec45 v3_45 s_45 := by rw [hrec]; exact hF
          rw [← hrec] at ih
          clear hrec
          unfold wp_X4_fill_B45 at hF
          refine lv_iload_n hx hb dX4_fill_45 rfl (lv_at hl 0 rfl) ?_
          refine lv_iconst (v := 1) hx hb dX4_fill_46 (by decide) ?_
          refine lv_iadd hx hb dX4_fill_47 ?_
          refine lv_aload_n hx hb dX4_fill_48 rfl (lv_at hl 2 rfl) ?_
          refine va_get (D := (dC, dI)) (ci := 4) (v := .int (s_45.1.1 0)) (C := RX4) (T := TX4) (N := 19) hx hb hts in_X4 hown hK.1 hP 0 rfl rfl 13 (by decide) (hts _ q963) (fun _ h9 => h9) rfl dX4_fill_49 ?_
          refine lv_icmp_ge (tgt := 89) hx hb dX4_fill_52 (by decide) (fun cz => ?_) (fun cz => ?_)
          · have hF := hF.1 cz
            exact hX45 s_45 hF _ _ hP hD hS _ (lv_sub hl [1, 2] rfl)
          · have hF := hF.2 cz
            refine lv_aload_n hx hb dX4_fill_55 rfl (lv_at hl 2 rfl) ?_
            refine va_get (D := (dC, dI)) (ci := 4) (v := .ref (h 2)) (C := RX4) (T := TX4) (N := 19) hx hb hts in_X4 hown hK.1 hP 0 rfl rfl 1 (by decide) (hts _ q951) (fun _ h9 => h9) rfl dX4_fill_56 ?_
            refine lv_iload_n hx hb dX4_fill_59 rfl (lv_at hl 0 rfl) ?_
            refine lv_aload_n hx hb dX4_fill_60 rfl (lv_at hl 2 rfl) ?_
            refine va_get (D := (dC, dI)) (ci := 4) (v := .ref (h 2)) (C := RX4) (T := TX4) (N := 19) hx hb hts in_X4 hown hK.1 hP 0 rfl rfl 1 (by decide) (hts _ q951) (fun _ h9 => h9) rfl dX4_fill_61 ?_
            refine lv_iload_n hx hb dX4_fill_64 rfl (lv_at hl 0 rfl) ?_
            refine lv_iconst (v := 1) hx hb dX4_fill_65 (by decide) ?_
            refine lv_iadd hx hb dX4_fill_66 ?_
            have hI := hF.1
            have hF := hF.2
            refine va_iald hx hb hK.1 hP 2 0 rfl rfl hI dX4_fill_67 ?_
            have hI := hF.1
            have hF := hF.2
            refine va_iast hx hb hK.1 hP hD hS 2 0 rfl rfl hI dX4_fill_68 (fun H locs hP hD hS => ?_)
            have hP : va_P (dC, dI) classes (wC h cy (sA s_45.1 1 (upd (s_45.1.2.1 1) v3_45.toNatClampNeg ((s_45.1.2.1 1) (v3_45 + 1).toNatClampNeg))) ++ (wl ad cy (z 0) (h 20) s_45.2.1 ++ (wl ad cy (z 0) (h 21) s_45.2.2.1 ++ (wl ad cy (z 0) (h 22) s_45.2.2.2.1 ++ wS h cy s_45.2.2.2.2)))) H := hP
            have hD : va_D A (wC h cy (sA s_45.1 1 (upd (s_45.1.2.1 1) v3_45.toNatClampNeg ((s_45.1.2.1 1) (v3_45 + 1).toNatClampNeg))) ++ (wl ad cy (z 0) (h 20) s_45.2.1 ++ (wl ad cy (z 0) (h 21) s_45.2.2.1 ++ (wl ad cy (z 0) (h 22) s_45.2.2.2.1 ++ wS h cy s_45.2.2.2.2)))) := hD
            refine lv_aload_n hx hb dX4_fill_69 rfl (lv_at hl 2 rfl) ?_
            refine va_get (D := (dC, dI)) (ci := 4) (v := .ref (h 3)) (C := RX4) (T := TX4) (N := 19) hx hb hts in_X4 hown hK.1 hP 0 rfl rfl 2 (by decide) (hts _ q952) (fun _ h9 => h9) rfl dX4_fill_70 ?_
            refine lv_iload_n hx hb dX4_fill_73 rfl (lv_at hl 0 rfl) ?_
            refine lv_aload_n hx hb dX4_fill_74 rfl (lv_at hl 2 rfl) ?_
            refine va_get (D := (dC, dI)) (ci := 4) (v := .ref (h 3)) (C := RX4) (T := TX4) (N := 19) hx hb hts in_X4 hown hK.1 hP 0 rfl rfl 2 (by decide) (hts _ q952) (fun _ h9 => h9) rfl dX4_fill_75 ?_
            refine lv_iload_n hx hb dX4_fill_78 rfl (lv_at hl 0 rfl) ?_
            refine lv_iconst (v := 1) hx hb dX4_fill_79 (by decide) ?_
            refine lv_iadd hx hb dX4_fill_80 ?_
            have hI := hF.1
            have hF := hF.2
            refine va_iald hx hb hK.1 hP 3 0 rfl rfl hI dX4_fill_81 ?_
            have hI := hF.1
            have hF := hF.2
            refine va_iast hx hb hK.1 hP hD hS 3 0 rfl rfl hI dX4_fill_82 (fun H locs hP hD hS => ?_)
            have hP : va_P (dC, dI) classes (wC h cy (sA (sA s_45.1 1 (upd (s_45.1.2.1 1) v3_45.toNatClampNeg ((s_45.1.2.1 1) (v3_45 + 1).toNatClampNeg))) 2 (upd (s_45.1.2.1 2) v3_45.toNatClampNeg ((s_45.1.2.1 2) (v3_45 + 1).toNatClampNeg))) ++ (wl ad cy (z 0) (h 20) s_45.2.1 ++ (wl ad cy (z 0) (h 21) s_45.2.2.1 ++ (wl ad cy (z 0) (h 22) s_45.2.2.2.1 ++ wS h cy s_45.2.2.2.2)))) H := hP
            have hD : va_D A (wC h cy (sA (sA s_45.1 1 (upd (s_45.1.2.1 1) v3_45.toNatClampNeg ((s_45.1.2.1 1) (v3_45 + 1).toNatClampNeg))) 2 (upd (s_45.1.2.1 2) v3_45.toNatClampNeg ((s_45.1.2.1 2) (v3_45 + 1).toNatClampNeg))) ++ (wl ad cy (z 0) (h 20) s_45.2.1 ++ (wl ad cy (z 0) (h 21) s_45.2.2.1 ++ (wl ad cy (z 0) (h 22) s_45.2.2.2.1 ++ wS h cy s_45.2.2.2.2)))) := hD
            refine lv_iinc (v := v3_45 + 1) (lv' := [(3, .int (v3_45 + 1)), (2, .int ((s28.2.1 0) x1.toNatClampNeg)), (0, .ref (h 0))]) hx hb dX4_fill_83 hl (k := 0) rfl (by rfl) (by decide) rfl (fun ls hl => ?_)
            refine lv_goto (tgt := 45) hx hb dX4_fill_86 (by decide) ?_
            exact ih (v3_45 + 1) (sA (sA s_45.1 1 (upd (s_45.1.2.1 1) v3_45.toNatClampNeg ((s_45.1.2.1 1) (v3_45 + 1).toNatClampNeg))) 2 (upd (s_45.1.2.1 2) v3_45.toNatClampNeg ((s_45.1.2.1 2) (v3_45 + 1).toNatClampNeg)), s_45.2.1, s_45.2.2.1, s_45.2.2.2.1, s_45.2.2.2.2) hF _ _ hP hD hS _ (lv_sub hl [0, 1, 2] rfl)
      exact hL45 _ hX45 fu ((s28.2.1 0) x1.toNatClampNeg) (s28, σ.2.1, σ.2.2.1, σ.2.2.2.1, σ.2.2.2.2) hF _ _ hP hD hS _ (lv_sub hl [0, 1, 2] rfl)
    · have hF := hF.2 cz
      refine lv_iconst (v := 0) hx hb dX4_fill_34 (by decide) ?_
      exact W.iret (v := 0) hx hb hr (fun t ht hW => ⟨⟨0, (s28, σ.2.1, σ.2.2.1, σ.2.2.2.1, σ.2.2.2.2), rfl, hF, by rw [ht]; exact hP, hD⟩, hS.F ht⟩) hS.2.2 dX4_fill_35
  refine lv_if_ne (tgt := 15) hx hb dX4_fill_8 (by decide) (fun cz => ?_) (fun cz => ?_)
  · have hF := hF.1 cz
    refine lv_aload_n hx hb dX4_fill_15 rfl (lv_at hl 0 rfl) ?_
    refine lv_iload_n hx hb dX4_fill_16 rfl (lv_at hl 1 rfl) ?_
    have hPc := fw_get (fp0 _ _) hP
    refine cpVi (q0 := 0) (As := [.int x1]) (rest := [.ref (h 0)]) ⟨hx, hb, hr, hml, hown, hts, hlocks⟩ hK hPc rfl rfl (m_X4_isDrilled l dC dI h cy fu σ.1 x1 _ hF) k_X4_isDrilled q1130 ⟨rfl, rfl⟩ ⟨Nat.le_of_ble_eq_true rfl, Nat.le_of_ble_eq_true rfl⟩ hl.1 rfl rfl (Nat.le_of_ble_eq_true rfl) dX4_fill_17 ⟨Nat.le_of_ble_eq_true rfl, Nat.le_of_ble_eq_true rfl⟩ (fun r17 hF => ?_)
    refine lv_if_eq (tgt := 27) hx hb dX4_fill_20 (by decide) (fun cz => ?_) (fun cz => ?_)
    · have hF := hF.1 cz
      refine lv_iconst (v := 2) hx hb dX4_fill_27 (by decide) ?_
      exact hJ28 2 hF _ _ hP hD hS _ (lv_sub hl [0, 1] rfl)
    · have hF := hF.2 cz
      refine lv_iconst (v := 0) hx hb dX4_fill_23 (by decide) ?_
      refine lv_goto (tgt := 28) hx hb dX4_fill_24 (by decide) ?_
      exact hJ28 0 hF _ _ hP hD hS _ (lv_sub hl [0, 1] rfl)
  · have hF := hF.2 cz
    refine lv_iconst (v := 1) hx hb dX4_fill_11 (by decide) ?_
    refine lv_goto (tgt := 28) hx hb dX4_fill_12 (by decide) ?_
    exact hJ28 1 hF _ _ hP hD hS _ (lv_sub hl [0, 1] rfl)
theorem dX4_put_0 : decode cX4_put 0 = .ok (.aload_n 0, 1) := by decide +kernel
theorem dX4_put_1 : decode cX4_put 1 = .ok (.aload_n 0, 1) := by decide +kernel
theorem dX4_put_2 : decode cX4_put 2 = .ok (.iload_n 1, 1) := by decide +kernel
theorem dX4_put_3 : decode cX4_put 3 = .ok (.invokevirtual 147, 3) := by decide +kernel
theorem dX4_put_6 : decode cX4_put 6 = .ok (.ifCond .eq 7, 3) := by decide +kernel
theorem dX4_put_9 : decode cX4_put 9 = .ok (.iconst 0, 1) := by decide +kernel
theorem dX4_put_10 : decode cX4_put 10 = .ok (.goto 4, 3) := by decide +kernel
theorem dX4_put_13 : decode cX4_put 13 = .ok (.iconst 1, 1) := by decide +kernel
theorem dX4_put_14 : decode cX4_put 14 = .ok (.invokevirtual 100, 3) := by decide +kernel
theorem dX4_put_17 : decode cX4_put 17 = .ok (.ifCond .eq 5, 3) := by decide +kernel
theorem dX4_put_20 : decode cX4_put 20 = .ok (.iconst 0, 1) := by decide +kernel
theorem dX4_put_21 : decode cX4_put 21 = .ok (.ireturn, 1) := by decide +kernel
theorem dX4_put_22 : decode cX4_put 22 = .ok (.aload_n 0, 1) := by decide +kernel
theorem dX4_put_23 : decode cX4_put 23 = .ok (.getfield 120, 3) := by decide +kernel
theorem dX4_put_26 : decode cX4_put 26 = .ok (.istore_n 2, 1) := by decide +kernel
theorem dX4_put_27 : decode cX4_put 27 = .ok (.aload_n 0, 1) := by decide +kernel
theorem dX4_put_28 : decode cX4_put 28 = .ok (.iload_n 1, 1) := by decide +kernel
theorem dX4_put_29 : decode cX4_put 29 = .ok (.putfield 120, 3) := by decide +kernel
theorem dX4_put_32 : decode cX4_put 32 = .ok (.aload_n 0, 1) := by decide +kernel
theorem dX4_put_33 : decode cX4_put 33 = .ok (.getfield 31, 3) := by decide +kernel
theorem dX4_put_36 : decode cX4_put 36 = .ok (.invokeinterface 81 1, 5) := by decide +kernel
theorem dX4_put_41 : decode cX4_put 41 = .ok (.iload_n 2, 1) := by decide +kernel
theorem dX4_put_42 : decode cX4_put 42 = .ok (.ireturn, 1) := by decide +kernel
def wp_X4_put_J14 (σ : FX) (x1 : Int32) (P : Int32 → FX → Prop) (t1_14 : Int32) : Prop := (wp_X4_fails σ.1 t1_14 (fun r14 s14 => ((r14 = 0 → (okL σ.2.1 ∧ ∀ w36 : LST, okL w36 → w36.2.2.2.2.2 = 0 → (P (s14.1 2) (sI s14 2 x1, w36, σ.2.2.1, σ.2.2.2.1, σ.2.2.2.2)))) ∧ (¬ r14 = 0 → (P 0 (s14, σ.2.1, σ.2.2.1, σ.2.2.2.1, σ.2.2.2.2))))))
def wp_X4_put (σ : FX) (x1 : Int32) (P : Int32 → FX → Prop) : Prop := (wp_X4_isPosition σ.1 x1 (fun r3 => ((r3 = 0 → (wp_X4_put_J14 σ x1 P 1)) ∧ (¬ r3 = 0 → (wp_X4_put_J14 σ x1 P 0)))))
theorem k_X4_put : KV RX4 yX4_put cX4_put 3 (some .int) 1 := ⟨q1199, q1200, q5, q1201, by decide +kernel⟩
set_option maxHeartbeats 4000000 in
set_option maxRecDepth 100000 in
theorem m_X4_put (l : Launch) (dC : Nat → ClassId) (dI : Nat → Nat → Nat) (h : Nat → Nat) (cy : Nat → ClassId) (z ad : Nat → Nat) (sz : Nat) (σ : FX) (x1 : Int32) (P : Int32 → FX → Prop) (hF : wp_X4_put σ x1 P) : Met l yX4_put (ws_ yX4_put cX4_put 3 (some .int)) ({ frames := 2, cells := 0, slots := 0, locals := 43 } : Room) (va_Pc [.ref (h 0), .int x1] (PcF dC dI cy z ad (wC h cy σ.1 ++ (wl ad cy (z 0) (h 20) σ.2.1 ++ (wl ad cy (z 0) (h 21) σ.2.2.1 ++ (wl ad cy (z 0) (h 22) σ.2.2.2.1 ++ wS h cy σ.2.2.2.2)))) sz)) (va_Qi (fun r u => P r u) (fun (u : FX) t => va_P (dC, dI) classes (wC h cy u.1 ++ (wl ad cy (z 0) (h 20) u.2.1 ++ (wl ad cy (z 0) (h 21) u.2.2.1 ++ (wl ad cy (z 0) (h 22) u.2.2.2.1 ++ wS h cy u.2.2.2.2)))) t.heap ∧ va_D (va_A (wC h cy σ.1 ++ (wl ad cy (z 0) (h 20) σ.2.1 ++ (wl ad cy (z 0) (h 21) σ.2.2.1 ++ (wl ad cy (z 0) (h 22) σ.2.2.2.1 ++ wS h cy σ.2.2.2.2)))) sz) (wC h cy u.1 ++ (wl ad cy (z 0) (h 20) u.2.1 ++ (wl ad cy (z 0) (h 21) u.2.2.1 ++ (wl ad cy (z 0) (h 22) u.2.2.2.1 ++ wS h cy u.2.2.2.2))))) (va_A (wC h cy σ.1 ++ (wl ad cy (z 0) (h 20) σ.2.1 ++ (wl ad cy (z 0) (h 21) σ.2.2.1 ++ (wl ad cy (z 0) (h 22) σ.2.2.2.1 ++ wS h cy σ.2.2.2.2)))) sz)) 0 0 (va_A (wC h cy σ.1 ++ (wl ad cy (z 0) (h 20) σ.2.1 ++ (wl ad cy (z 0) (h 21) σ.2.2.1 ++ (wl ad cy (z 0) (h 22) σ.2.2.2.1 ++ wS h cy σ.2.2.2.2)))) sz) := by
  refine Met.ofCx (own := RX4) (by decide) rfl (Nat.le_of_ble_eq_true rfl) ?_
  intro p e s m below meth c hC hv ls hl
  obtain ⟨hx, hb, hr, hml, hown, hts, hlocks⟩ := hC
  have hl : lv_has ls 3 [(0, .ref (h 0)), (1, .int x1)] := hl
  obtain ⟨hsz, hP, hK, hD0, hZ, hvk⟩ := hv
  subst hsz
  have hD := hD0.self (sz := s.heap.size)
  generalize hAe : va_A (wC h cy σ.1 ++ (wl ad cy (z 0) (h 20) σ.2.1 ++ (wl ad cy (z 0) (h 21) σ.2.2.1 ++ (wl ad cy (z 0) (h 22) σ.2.2.2.1 ++ wS h cy σ.2.2.2.2)))) s.heap.size = A at hD hZ ⊢
  have hA : ∀ q : Nat, s.heap.size ≤ q → A q := fun q h => by rw [← hAe]; exact Or.inr h
  have hS : va_S A s.heap s.heap [] := va_S.rf
  clear hAe
  unfold wp_X4_put at hF
  refine lv_aload_n hx hb dX4_put_0 rfl (lv_at hl 0 rfl) ?_
  refine lv_aload_n hx hb dX4_put_1 rfl (lv_at hl 0 rfl) ?_
  refine lv_iload_n hx hb dX4_put_2 rfl (lv_at hl 1 rfl) ?_
  have hPc := fw_get (fp0 _ _) hP
  refine cpVi (q0 := 0) (As := [.int x1]) (rest := [.ref (h 0)]) ⟨hx, hb, hr, hml, hown, hts, hlocks⟩ hK hPc rfl rfl (m_X4_isPosition l dC dI h cy σ.1 x1 _ hF) k_X4_isPosition q1190 ⟨rfl, rfl⟩ ⟨Nat.le_of_ble_eq_true rfl, Nat.le_of_ble_eq_true rfl⟩ hl.1 rfl rfl (Nat.le_of_ble_eq_true rfl) dX4_put_3 ⟨Nat.le_of_ble_eq_true rfl, Nat.le_of_ble_eq_true rfl⟩ (fun r3 hF => ?_)
  have hJ14 : ∀ (t1_14 : Int32), wp_X4_put_J14 σ x1 P t1_14 → ∀ (H : Heap) (locs : List Loc), va_P (dC, dI) classes (wC h cy σ.1 ++ (wl ad cy (z 0) (h 20) σ.2.1 ++ (wl ad cy (z 0) (h 21) σ.2.2.1 ++ (wl ad cy (z 0) (h 22) σ.2.2.2.1 ++ wS h cy σ.2.2.2.2)))) H → va_D A (wC h cy σ.1 ++ (wl ad cy (z 0) (h 20) σ.2.1 ++ (wl ad cy (z 0) (h 21) σ.2.2.1 ++ (wl ad cy (z 0) (h 22) σ.2.2.2.1 ++ wS h cy σ.2.2.2.2)))) → va_S A s.heap H locs → ∀ (ls : Array Slot), lv_has ls 3 [(0, .ref (h 0)), (1, .int x1)] → W p l e ({ frames := 2, cells := 0, slots := 0, locals := 43 } : Room) s m ([.ref (h 0), .int x1] : List Value).toArray below meth c H locs 0 0 (MQ below (va_Qi (fun r u => P r u) (fun (u : FX) t => va_P (dC, dI) classes (wC h cy u.1 ++ (wl ad cy (z 0) (h 20) u.2.1 ++ (wl ad cy (z 0) (h 21) u.2.2.1 ++ (wl ad cy (z 0) (h 22) u.2.2.2.1 ++ wS h cy u.2.2.2.2)))) t.heap ∧ va_D A (wC h cy u.1 ++ (wl ad cy (z 0) (h 20) u.2.1 ++ (wl ad cy (z 0) (h 21) u.2.2.1 ++ (wl ad cy (z 0) (h 22) u.2.2.2.1 ++ wS h cy u.2.2.2.2))))) A) ([.ref (h 0), .int x1] : List Value).toArray s 0 0 A) (F0 m 14 ls [.int t1_14, .ref (h 0)]) := by
    intro t1_14 hF H locs hP hD hS ls hl
    unfold wp_X4_put_J14 at hF
    have hPc := fw_get (fp0 _ _) hP
    have hDc := fw_getD (fp0 _ _) hD
    have hFc := fw_free (fp0 _ _) hD hS hA
    refine cwVi (q0 := 0) (As := [.int t1_14]) (rest := []) ⟨hx, hb, hr, hml, hown, hts, hlocks⟩ hK hPc hDc rfl rfl hS hFc (m_X4_fails l dC dI h cy _ σ.1 t1_14 _ hF) k_X4_fails q1102 ⟨rfl, rfl⟩ ⟨Nat.le_of_ble_eq_true rfl, Nat.le_of_ble_eq_true rfl⟩ hl.1 rfl rfl (Nat.le_of_ble_eq_true rfl) dX4_put_14 ⟨Nat.le_of_ble_eq_true rfl, Nat.le_of_ble_eq_true rfl⟩ (fun r14 u H1 locs hF hP1 hD1 hk1 hS => ?_)
    obtain ⟨s14, rfl⟩ : ∃ z, z = u := ⟨_, rfl⟩
    obtain ⟨hP, hD⟩ := fw_join (fp0 _ _) hP hD hk1 hFc hP1 hD1
    generalize H1 = H at hP hS ⊢
    have hP : va_P (dC, dI) classes (wC h cy s14 ++ (wl ad cy (z 0) (h 20) σ.2.1 ++ (wl ad cy (z 0) (h 21) σ.2.2.1 ++ (wl ad cy (z 0) (h 22) σ.2.2.2.1 ++ wS h cy σ.2.2.2.2)))) H := hP
    have hD : va_D A (wC h cy s14 ++ (wl ad cy (z 0) (h 20) σ.2.1 ++ (wl ad cy (z 0) (h 21) σ.2.2.1 ++ (wl ad cy (z 0) (h 22) σ.2.2.2.1 ++ wS h cy σ.2.2.2.2)))) := hD
    refine lv_if_eq (tgt := 22) hx hb dX4_put_17 (by decide) (fun cz => ?_) (fun cz => ?_)
    · have hF := hF.1 cz
      refine lv_aload_n hx hb dX4_put_22 rfl (lv_at hl 0 rfl) ?_
      refine va_get (D := (dC, dI)) (ci := 4) (v := .int (s14.1 2)) (C := RX4) (T := TX4) (N := 19) hx hb hts in_X4 hown hK.1 hP 0 rfl rfl 15 (by decide) (hts _ q965) (fun _ h9 => h9) rfl dX4_put_23 ?_
      refine lv_istore_n (lv' := [(2, .int (s14.1 2)), (0, .ref (h 0)), (1, .int x1)]) hx hb dX4_put_26 rfl hl (by decide) rfl (fun ls hl => ?_)
      refine lv_aload_n hx hb dX4_put_27 rfl (lv_at hl 1 rfl) ?_
      refine lv_iload_n hx hb dX4_put_28 rfl (lv_at hl 2 rfl) ?_
      refine va_put (D := (dC, dI)) (ci := 4) (v := .int x1) (ty := .int) (C := RX4) (T := TX4) (N := 19) hx hb hts in_X4 tyX4 tyX4_ok nmX4 hown hK.1 hP hD hS 0 rfl rfl 15 (by decide) (hts _ q965) (fun _ h9 => h9) rfl (by decide +kernel) rfl rfl (Nat.le_of_ble_eq_true rfl) dX4_put_29 (fun H locs hP hD hS => ?_)
      have hP : va_P (dC, dI) classes (wC h cy (sI s14 2 x1) ++ (wl ad cy (z 0) (h 20) σ.2.1 ++ (wl ad cy (z 0) (h 21) σ.2.2.1 ++ (wl ad cy (z 0) (h 22) σ.2.2.2.1 ++ wS h cy σ.2.2.2.2)))) H := hP
      have hD : va_D A (wC h cy (sI s14 2 x1) ++ (wl ad cy (z 0) (h 20) σ.2.1 ++ (wl ad cy (z 0) (h 21) σ.2.2.1 ++ (wl ad cy (z 0) (h 22) σ.2.2.2.1 ++ wS h cy σ.2.2.2.2)))) := hD
      refine lv_aload_n hx hb dX4_put_32 rfl (lv_at hl 1 rfl) ?_
      refine va_get (D := (dC, dI)) (ci := 4) (v := .ref (h 20)) (C := RX4) (T := TX4) (N := 19) hx hb hts in_X4 hown hK.1 hP 0 rfl rfl 6 (by decide) (hts _ q956) (fun _ h9 => h9) rfl dX4_put_33 ?_
      have hU := hF.1
      have hF := hF.2
      refine lsClear (fp1 _ _ _) ⟨hx, hb, hr, hml, hown, hts, hlocks⟩ hK hP hD hZ.1 hS hA hU q941 ⟨Nat.le_of_ble_eq_true rfl, Nat.le_of_ble_eq_true rfl⟩ hl.1 (Nat.le_of_ble_eq_true rfl) dX4_put_36 ⟨Nat.le_of_ble_eq_true rfl, Nat.le_of_ble_eq_true rfl⟩ (fun w36 hw1 hw2 H1 locs hP1 hD1 hS => ?_)
      have hF := hF w36 hw1 hw2
      have hP := va_P.perm (fp1 _ _ _).symm hP1
      have hD := va_D.perm (fp1 _ _ _).symm hD1
      generalize H1 = H at hP hS ⊢
      have hP : va_P (dC, dI) classes (wC h cy (sI s14 2 x1) ++ (wl ad cy (z 0) (h 20) w36 ++ (wl ad cy (z 0) (h 21) σ.2.2.1 ++ (wl ad cy (z 0) (h 22) σ.2.2.2.1 ++ wS h cy σ.2.2.2.2)))) H := hP
      have hD : va_D A (wC h cy (sI s14 2 x1) ++ (wl ad cy (z 0) (h 20) w36 ++ (wl ad cy (z 0) (h 21) σ.2.2.1 ++ (wl ad cy (z 0) (h 22) σ.2.2.2.1 ++ wS h cy σ.2.2.2.2)))) := hD
      refine lv_iload_n hx hb dX4_put_41 rfl (lv_at hl 0 rfl) ?_
      exact W.iret (v := s14.1 2) hx hb hr (fun t ht hW => ⟨⟨s14.1 2, (sI s14 2 x1, w36, σ.2.2.1, σ.2.2.2.1, σ.2.2.2.2), rfl, hF, by rw [ht]; exact hP, hD⟩, hS.F ht⟩) hS.2.2 dX4_put_42
    · have hF := hF.2 cz
      refine lv_iconst (v := 0) hx hb dX4_put_20 (by decide) ?_
      exact W.iret (v := 0) hx hb hr (fun t ht hW => ⟨⟨0, (s14, σ.2.1, σ.2.2.1, σ.2.2.2.1, σ.2.2.2.2), rfl, hF, by rw [ht]; exact hP, hD⟩, hS.F ht⟩) hS.2.2 dX4_put_21
  refine lv_if_eq (tgt := 13) hx hb dX4_put_6 (by decide) (fun cz => ?_) (fun cz => ?_)
  · have hF := hF.1 cz
    refine lv_iconst (v := 1) hx hb dX4_put_13 (by decide) ?_
    exact hJ14 1 hF _ _ hP hD hS _ (lv_sub hl [0, 1] rfl)
  · have hF := hF.2 cz
    refine lv_iconst (v := 0) hx hb dX4_put_9 (by decide) ?_
    refine lv_goto (tgt := 14) hx hb dX4_put_10 (by decide) ?_
    exact hJ14 0 hF _ _ hP hD hS _ (lv_sub hl [0, 1] rfl)
theorem dX4_made_0 : decode cX4_made 0 = .ok (.aload_n 0, 1) := by decide +kernel
theorem dX4_made_1 : decode cX4_made 1 = .ok (.iconst 0, 1) := by decide +kernel
theorem dX4_made_2 : decode cX4_made 2 = .ok (.putfield 60, 3) := by decide +kernel
theorem dX4_made_5 : decode cX4_made 5 = .ok (.aload_n 0, 1) := by decide +kernel
theorem dX4_made_6 : decode cX4_made 6 = .ok (.getfield 31, 3) := by decide +kernel
theorem dX4_made_9 : decode cX4_made 9 = .ok (.invokeinterface 198 1, 5) := by decide +kernel
theorem dX4_made_14 : decode cX4_made 14 = .ok (.ireturn, 1) := by decide +kernel
def wp_X4_made (σ : FX) (P : Int32 → FX → Prop) : Prop := (okL σ.2.1 ∧ (P (nI σ.2.1.2.2.2.2.2) (sI σ.1 5 0, σ.2.1, σ.2.2.1, σ.2.2.2.1, σ.2.2.2.2)))
theorem k_X4_made : KV RX4 yX4_made cX4_made 1 (some .int) 0 := ⟨q1382, q1383, q5, q1384, by decide +kernel⟩
set_option maxHeartbeats 4000000 in
set_option maxRecDepth 100000 in
theorem m_X4_made (l : Launch) (dC : Nat → ClassId) (dI : Nat → Nat → Nat) (h : Nat → Nat) (cy : Nat → ClassId) (z ad : Nat → Nat) (sz : Nat) (σ : FX) (P : Int32 → FX → Prop) (hF : wp_X4_made σ P) : Met l yX4_made (ws_ yX4_made cX4_made 1 (some .int)) ({ frames := 1, cells := 0, slots := 0, locals := 20 } : Room) (va_Pc [.ref (h 0)] (PcF dC dI cy z ad (wC h cy σ.1 ++ (wl ad cy (z 0) (h 20) σ.2.1 ++ (wl ad cy (z 0) (h 21) σ.2.2.1 ++ (wl ad cy (z 0) (h 22) σ.2.2.2.1 ++ wS h cy σ.2.2.2.2)))) sz)) (va_Qi (fun r u => P r u) (fun (u : FX) t => va_P (dC, dI) classes (wC h cy u.1 ++ (wl ad cy (z 0) (h 20) u.2.1 ++ (wl ad cy (z 0) (h 21) u.2.2.1 ++ (wl ad cy (z 0) (h 22) u.2.2.2.1 ++ wS h cy u.2.2.2.2)))) t.heap ∧ va_D (va_A (wC h cy σ.1 ++ (wl ad cy (z 0) (h 20) σ.2.1 ++ (wl ad cy (z 0) (h 21) σ.2.2.1 ++ (wl ad cy (z 0) (h 22) σ.2.2.2.1 ++ wS h cy σ.2.2.2.2)))) sz) (wC h cy u.1 ++ (wl ad cy (z 0) (h 20) u.2.1 ++ (wl ad cy (z 0) (h 21) u.2.2.1 ++ (wl ad cy (z 0) (h 22) u.2.2.2.1 ++ wS h cy u.2.2.2.2))))) (va_A (wC h cy σ.1 ++ (wl ad cy (z 0) (h 20) σ.2.1 ++ (wl ad cy (z 0) (h 21) σ.2.2.1 ++ (wl ad cy (z 0) (h 22) σ.2.2.2.1 ++ wS h cy σ.2.2.2.2)))) sz)) 0 0 (va_A (wC h cy σ.1 ++ (wl ad cy (z 0) (h 20) σ.2.1 ++ (wl ad cy (z 0) (h 21) σ.2.2.1 ++ (wl ad cy (z 0) (h 22) σ.2.2.2.1 ++ wS h cy σ.2.2.2.2)))) sz) := by
  refine Met.ofCx (own := RX4) (by decide) rfl (Nat.le_of_ble_eq_true rfl) ?_
  intro p e s m below meth c hC hv ls hl
  obtain ⟨hx, hb, hr, hml, hown, hts, hlocks⟩ := hC
  have hl : lv_has ls 1 [(0, .ref (h 0))] := hl
  obtain ⟨hsz, hP, hK, hD0, hZ, hvk⟩ := hv
  subst hsz
  have hD := hD0.self (sz := s.heap.size)
  generalize hAe : va_A (wC h cy σ.1 ++ (wl ad cy (z 0) (h 20) σ.2.1 ++ (wl ad cy (z 0) (h 21) σ.2.2.1 ++ (wl ad cy (z 0) (h 22) σ.2.2.2.1 ++ wS h cy σ.2.2.2.2)))) s.heap.size = A at hD hZ ⊢
  have hA : ∀ q : Nat, s.heap.size ≤ q → A q := fun q h => by rw [← hAe]; exact Or.inr h
  have hS : va_S A s.heap s.heap [] := va_S.rf
  clear hAe
  unfold wp_X4_made at hF
  refine lv_aload_n hx hb dX4_made_0 rfl (lv_at hl 0 rfl) ?_
  refine lv_iconst (v := 0) hx hb dX4_made_1 (by decide) ?_
  refine va_put (D := (dC, dI)) (ci := 4) (v := .int 0) (ty := .int) (C := RX4) (T := TX4) (N := 19) hx hb hts in_X4 tyX4 tyX4_ok nmX4 hown hK.1 hP hD hS 0 rfl rfl 18 (by decide) (hts _ q968) (fun _ h9 => h9) rfl (by decide +kernel) rfl rfl (Nat.le_of_ble_eq_true rfl) dX4_made_2 (fun H locs hP hD hS => ?_)
  have hP : va_P (dC, dI) classes (wC h cy (sI σ.1 5 0) ++ (wl ad cy (z 0) (h 20) σ.2.1 ++ (wl ad cy (z 0) (h 21) σ.2.2.1 ++ (wl ad cy (z 0) (h 22) σ.2.2.2.1 ++ wS h cy σ.2.2.2.2)))) H := hP
  have hD : va_D A (wC h cy (sI σ.1 5 0) ++ (wl ad cy (z 0) (h 20) σ.2.1 ++ (wl ad cy (z 0) (h 21) σ.2.2.1 ++ (wl ad cy (z 0) (h 22) σ.2.2.2.1 ++ wS h cy σ.2.2.2.2)))) := hD
  refine lv_aload_n hx hb dX4_made_5 rfl (lv_at hl 0 rfl) ?_
  refine va_get (D := (dC, dI)) (ci := 4) (v := .ref (h 20)) (C := RX4) (T := TX4) (N := 19) hx hb hts in_X4 hown hK.1 hP 0 rfl rfl 6 (by decide) (hts _ q956) (fun _ h9 => h9) rfl dX4_made_6 ?_
  have hU := hF.1
  have hF := hF.2
  refine lsSize (fp1 _ _ _) ⟨hx, hb, hr, hml, hown, hts, hlocks⟩ hK hP hU q1350 ⟨Nat.le_of_ble_eq_true rfl, Nat.le_of_ble_eq_true rfl⟩ hl.1 (Nat.le_of_ble_eq_true rfl) dX4_made_9 ⟨Nat.le_of_ble_eq_true rfl, Nat.le_of_ble_eq_true rfl⟩ ?_
  exact W.iret (v := nI σ.2.1.2.2.2.2.2) hx hb hr (fun t ht hW => ⟨⟨nI σ.2.1.2.2.2.2.2, (sI σ.1 5 0, σ.2.1, σ.2.2.1, σ.2.2.2.1, σ.2.2.2.2), rfl, hF, by rw [ht]; exact hP, hD⟩, hS.F ht⟩) hS.2.2 dX4_made_14
theorem dX4_clear_0 : decode cX4_clear 0 = .ok (.aload_n 0, 1) := by decide +kernel
theorem dX4_clear_1 : decode cX4_clear 1 = .ok (.iconst 0, 1) := by decide +kernel
theorem dX4_clear_2 : decode cX4_clear 2 = .ok (.putfield 60, 3) := by decide +kernel
theorem dX4_clear_5 : decode cX4_clear 5 = .ok (.aload_n 0, 1) := by decide +kernel
theorem dX4_clear_6 : decode cX4_clear 6 = .ok (.getfield 35, 3) := by decide +kernel
theorem dX4_clear_9 : decode cX4_clear 9 = .ok (.invokeinterface 198 1, 5) := by decide +kernel
theorem dX4_clear_14 : decode cX4_clear 14 = .ok (.istore_n 1, 1) := by decide +kernel
theorem dX4_clear_15 : decode cX4_clear 15 = .ok (.aload_n 0, 1) := by decide +kernel
theorem dX4_clear_16 : decode cX4_clear 16 = .ok (.getfield 35, 3) := by decide +kernel
theorem dX4_clear_19 : decode cX4_clear 19 = .ok (.invokeinterface 81 1, 5) := by decide +kernel
theorem dX4_clear_24 : decode cX4_clear 24 = .ok (.iload_n 1, 1) := by decide +kernel
theorem dX4_clear_25 : decode cX4_clear 25 = .ok (.ireturn, 1) := by decide +kernel
def wp_X4_clear (σ : FX) (P : Int32 → FX → Prop) : Prop := (okL σ.2.2.1 ∧ (okL σ.2.2.1 ∧ ∀ w19 : LST, okL w19 → w19.2.2.2.2.2 = 0 → (P (nI σ.2.2.1.2.2.2.2.2) (sI σ.1 5 0, σ.2.1, w19, σ.2.2.2.1, σ.2.2.2.2))))
theorem k_X4_clear : KV RX4 yX4_clear cX4_clear 2 (some .int) 0 := ⟨q1815, q1816, q5, q1817, by decide +kernel⟩
set_option maxHeartbeats 4000000 in
set_option maxRecDepth 100000 in
theorem m_X4_clear (l : Launch) (dC : Nat → ClassId) (dI : Nat → Nat → Nat) (h : Nat → Nat) (cy : Nat → ClassId) (z ad : Nat → Nat) (sz : Nat) (σ : FX) (P : Int32 → FX → Prop) (hF : wp_X4_clear σ P) : Met l yX4_clear (ws_ yX4_clear cX4_clear 2 (some .int)) ({ frames := 1, cells := 0, slots := 0, locals := 23 } : Room) (va_Pc [.ref (h 0)] (PcF dC dI cy z ad (wC h cy σ.1 ++ (wl ad cy (z 0) (h 20) σ.2.1 ++ (wl ad cy (z 0) (h 21) σ.2.2.1 ++ (wl ad cy (z 0) (h 22) σ.2.2.2.1 ++ wS h cy σ.2.2.2.2)))) sz)) (va_Qi (fun r u => P r u) (fun (u : FX) t => va_P (dC, dI) classes (wC h cy u.1 ++ (wl ad cy (z 0) (h 20) u.2.1 ++ (wl ad cy (z 0) (h 21) u.2.2.1 ++ (wl ad cy (z 0) (h 22) u.2.2.2.1 ++ wS h cy u.2.2.2.2)))) t.heap ∧ va_D (va_A (wC h cy σ.1 ++ (wl ad cy (z 0) (h 20) σ.2.1 ++ (wl ad cy (z 0) (h 21) σ.2.2.1 ++ (wl ad cy (z 0) (h 22) σ.2.2.2.1 ++ wS h cy σ.2.2.2.2)))) sz) (wC h cy u.1 ++ (wl ad cy (z 0) (h 20) u.2.1 ++ (wl ad cy (z 0) (h 21) u.2.2.1 ++ (wl ad cy (z 0) (h 22) u.2.2.2.1 ++ wS h cy u.2.2.2.2))))) (va_A (wC h cy σ.1 ++ (wl ad cy (z 0) (h 20) σ.2.1 ++ (wl ad cy (z 0) (h 21) σ.2.2.1 ++ (wl ad cy (z 0) (h 22) σ.2.2.2.1 ++ wS h cy σ.2.2.2.2)))) sz)) 0 0 (va_A (wC h cy σ.1 ++ (wl ad cy (z 0) (h 20) σ.2.1 ++ (wl ad cy (z 0) (h 21) σ.2.2.1 ++ (wl ad cy (z 0) (h 22) σ.2.2.2.1 ++ wS h cy σ.2.2.2.2)))) sz) := by
  refine Met.ofCx (own := RX4) (by decide) rfl (Nat.le_of_ble_eq_true rfl) ?_
  intro p e s m below meth c hC hv ls hl
  obtain ⟨hx, hb, hr, hml, hown, hts, hlocks⟩ := hC
  have hl : lv_has ls 2 [(0, .ref (h 0))] := hl
  obtain ⟨hsz, hP, hK, hD0, hZ, hvk⟩ := hv
  subst hsz
  have hD := hD0.self (sz := s.heap.size)
  generalize hAe : va_A (wC h cy σ.1 ++ (wl ad cy (z 0) (h 20) σ.2.1 ++ (wl ad cy (z 0) (h 21) σ.2.2.1 ++ (wl ad cy (z 0) (h 22) σ.2.2.2.1 ++ wS h cy σ.2.2.2.2)))) s.heap.size = A at hD hZ ⊢
  have hA : ∀ q : Nat, s.heap.size ≤ q → A q := fun q h => by rw [← hAe]; exact Or.inr h
  have hS : va_S A s.heap s.heap [] := va_S.rf
  clear hAe
  unfold wp_X4_clear at hF
  refine lv_aload_n hx hb dX4_clear_0 rfl (lv_at hl 0 rfl) ?_
  refine lv_iconst (v := 0) hx hb dX4_clear_1 (by decide) ?_
  refine va_put (D := (dC, dI)) (ci := 4) (v := .int 0) (ty := .int) (C := RX4) (T := TX4) (N := 19) hx hb hts in_X4 tyX4 tyX4_ok nmX4 hown hK.1 hP hD hS 0 rfl rfl 18 (by decide) (hts _ q968) (fun _ h9 => h9) rfl (by decide +kernel) rfl rfl (Nat.le_of_ble_eq_true rfl) dX4_clear_2 (fun H locs hP hD hS => ?_)
  have hP : va_P (dC, dI) classes (wC h cy (sI σ.1 5 0) ++ (wl ad cy (z 0) (h 20) σ.2.1 ++ (wl ad cy (z 0) (h 21) σ.2.2.1 ++ (wl ad cy (z 0) (h 22) σ.2.2.2.1 ++ wS h cy σ.2.2.2.2)))) H := hP
  have hD : va_D A (wC h cy (sI σ.1 5 0) ++ (wl ad cy (z 0) (h 20) σ.2.1 ++ (wl ad cy (z 0) (h 21) σ.2.2.1 ++ (wl ad cy (z 0) (h 22) σ.2.2.2.1 ++ wS h cy σ.2.2.2.2)))) := hD
  refine lv_aload_n hx hb dX4_clear_5 rfl (lv_at hl 0 rfl) ?_
  refine va_get (D := (dC, dI)) (ci := 4) (v := .ref (h 21)) (C := RX4) (T := TX4) (N := 19) hx hb hts in_X4 hown hK.1 hP 0 rfl rfl 7 (by decide) (hts _ q957) (fun _ h9 => h9) rfl dX4_clear_6 ?_
  have hU := hF.1
  have hF := hF.2
  refine lsSize (fp2 _ _ _ _) ⟨hx, hb, hr, hml, hown, hts, hlocks⟩ hK hP hU q1350 ⟨Nat.le_of_ble_eq_true rfl, Nat.le_of_ble_eq_true rfl⟩ hl.1 (Nat.le_of_ble_eq_true rfl) dX4_clear_9 ⟨Nat.le_of_ble_eq_true rfl, Nat.le_of_ble_eq_true rfl⟩ ?_
  refine lv_istore_n (lv' := [(1, .int (nI σ.2.2.1.2.2.2.2.2)), (0, .ref (h 0))]) hx hb dX4_clear_14 rfl hl (by decide) rfl (fun ls hl => ?_)
  refine lv_aload_n hx hb dX4_clear_15 rfl (lv_at hl 1 rfl) ?_
  refine va_get (D := (dC, dI)) (ci := 4) (v := .ref (h 21)) (C := RX4) (T := TX4) (N := 19) hx hb hts in_X4 hown hK.1 hP 0 rfl rfl 7 (by decide) (hts _ q957) (fun _ h9 => h9) rfl dX4_clear_16 ?_
  have hU := hF.1
  have hF := hF.2
  refine lsClear (fp2 _ _ _ _) ⟨hx, hb, hr, hml, hown, hts, hlocks⟩ hK hP hD hZ.1 hS hA hU q941 ⟨Nat.le_of_ble_eq_true rfl, Nat.le_of_ble_eq_true rfl⟩ hl.1 (Nat.le_of_ble_eq_true rfl) dX4_clear_19 ⟨Nat.le_of_ble_eq_true rfl, Nat.le_of_ble_eq_true rfl⟩ (fun w19 hw1 hw2 H1 locs hP1 hD1 hS => ?_)
  have hF := hF w19 hw1 hw2
  have hP := va_P.perm (fp2 _ _ _ _).symm hP1
  have hD := va_D.perm (fp2 _ _ _ _).symm hD1
  generalize H1 = H at hP hS ⊢
  have hP : va_P (dC, dI) classes (wC h cy (sI σ.1 5 0) ++ (wl ad cy (z 0) (h 20) σ.2.1 ++ (wl ad cy (z 0) (h 21) w19 ++ (wl ad cy (z 0) (h 22) σ.2.2.2.1 ++ wS h cy σ.2.2.2.2)))) H := hP
  have hD : va_D A (wC h cy (sI σ.1 5 0) ++ (wl ad cy (z 0) (h 20) σ.2.1 ++ (wl ad cy (z 0) (h 21) w19 ++ (wl ad cy (z 0) (h 22) σ.2.2.2.1 ++ wS h cy σ.2.2.2.2)))) := hD
  refine lv_iload_n hx hb dX4_clear_24 rfl (lv_at hl 0 rfl) ?_
  exact W.iret (v := nI σ.2.2.1.2.2.2.2.2) hx hb hr (fun t ht hW => ⟨⟨nI σ.2.2.1.2.2.2.2.2, (sI σ.1 5 0, σ.2.1, w19, σ.2.2.2.1, σ.2.2.2.2), rfl, hF, by rw [ht]; exact hP, hD⟩, hS.F ht⟩) hS.2.2 dX4_clear_25
