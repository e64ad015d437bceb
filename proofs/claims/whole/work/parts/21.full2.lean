theorem dX4_makes_0 : decode cX4_makes 0 = .ok (.aload_n 0, 1) := by decide +kernel
theorem dX4_makes_1 : decode cX4_makes 1 = .ok (.aload_n 0, 1) := by decide +kernel
theorem dX4_makes_2 : decode cX4_makes 2 = .ok (.aload_n 0, 1) := by decide +kernel
theorem dX4_makes_3 : decode cX4_makes 3 = .ok (.getfield 120, 3) := by decide +kernel
theorem dX4_makes_6 : decode cX4_makes 6 = .ok (.iload_n 1, 1) := by decide +kernel
theorem dX4_makes_7 : decode cX4_makes 7 = .ok (.invokevirtual 166, 3) := by decide +kernel
theorem dX4_makes_10 : decode cX4_makes 10 = .ok (.putfield 120, 3) := by decide +kernel
theorem dX4_makes_13 : decode cX4_makes 13 = .ok (.aload_n 0, 1) := by decide +kernel
theorem dX4_makes_14 : decode cX4_makes 14 = .ok (.getfield 31, 3) := by decide +kernel
theorem dX4_makes_17 : decode cX4_makes 17 = .ok (.iload_n 1, 1) := by decide +kernel
theorem dX4_makes_18 : decode cX4_makes 18 = .ok (.invokestatic 169, 3) := by decide +kernel
theorem dX4_makes_21 : decode cX4_makes 21 = .ok (.invokeinterface 175 2, 5) := by decide +kernel
theorem dX4_makes_26 : decode cX4_makes 26 = .ok (.pop, 1) := by decide +kernel
theorem dX4_makes_27 : decode cX4_makes 27 = .ok (.aload_n 0, 1) := by decide +kernel
theorem dX4_makes_28 : decode cX4_makes 28 = .ok (.getfield 120, 3) := by decide +kernel
theorem dX4_makes_31 : decode cX4_makes 31 = .ok (.invokestatic 179, 3) := by decide +kernel
theorem dX4_makes_34 : decode cX4_makes 34 = .ok (.ireturn, 1) := by decide +kernel
def wp_X4_makes (σ : FX) (x1 : Int32) (P : Int32 → FX → Prop) : Prop := (wp_X4_behind σ.1 (σ.1.1 2) x1 (fun r7 => (vp_in x1 128 ∧ (okL σ.2.1 ∧ (σ.2.1.2.2.2.2.2 < 12 ∧ ∀ w21 : LST, okL w21 → w21.2.2.2.2.2 = σ.2.1.2.2.2.2.2 + 1 → w21.2.2.2.2.1 = upN (σ.2.1.2.2.2.2.1) σ.2.1.2.2.2.2.2 x1.toNatClampNeg → (wp_J6_bitCount_0f7a4 r7 (fun r31 => (P r31 (sI σ.1 2 r7, w21, σ.2.2.1, σ.2.2.2.1, σ.2.2.2.2)))))))))
theorem k_X4_makes : KV RX4 yX4_makes cX4_makes 2 (some .int) 1 := ⟨q1228, qs37, q5, q1229, by decide +kernel⟩
set_option maxHeartbeats 4000000 in
set_option maxRecDepth 100000 in
theorem m_X4_makes (l : Launch) (dC : Nat → ClassId) (dI : Nat → Nat → Nat) (h : Nat → Nat) (cy : Nat → ClassId) (z ad : Nat → Nat) (sz : Nat) (σ : FX) (x1 : Int32) (P : Int32 → FX → Prop) (hF : wp_X4_makes σ x1 P) : Met l yX4_makes (ws_ yX4_makes cX4_makes 2 (some .int)) ({ frames := 7, cells := 1, slots := 15, locals := 226 } : Room) (va_Pc [.ref (h 0), .int x1] (PcF dC dI cy z ad (wC h cy σ.1 ++ (wl ad cy (z 0) (h 20) σ.2.1 ++ (wl ad cy (z 0) (h 21) σ.2.2.1 ++ (wl ad cy (z 0) (h 22) σ.2.2.2.1 ++ wS h cy σ.2.2.2.2)))) sz)) (va_Qi (fun r u => P r u) (fun (u : FX) t => va_P (dC, dI) classes (wC h cy u.1 ++ (wl ad cy (z 0) (h 20) u.2.1 ++ (wl ad cy (z 0) (h 21) u.2.2.1 ++ (wl ad cy (z 0) (h 22) u.2.2.2.1 ++ wS h cy u.2.2.2.2)))) t.heap ∧ va_D (va_A (wC h cy σ.1 ++ (wl ad cy (z 0) (h 20) σ.2.1 ++ (wl ad cy (z 0) (h 21) σ.2.2.1 ++ (wl ad cy (z 0) (h 22) σ.2.2.2.1 ++ wS h cy σ.2.2.2.2)))) sz) (wC h cy u.1 ++ (wl ad cy (z 0) (h 20) u.2.1 ++ (wl ad cy (z 0) (h 21) u.2.2.1 ++ (wl ad cy (z 0) (h 22) u.2.2.2.1 ++ wS h cy u.2.2.2.2))))) (va_A (wC h cy σ.1 ++ (wl ad cy (z 0) (h 20) σ.2.1 ++ (wl ad cy (z 0) (h 21) σ.2.2.1 ++ (wl ad cy (z 0) (h 22) σ.2.2.2.1 ++ wS h cy σ.2.2.2.2)))) sz)) 1 15 (va_A (wC h cy σ.1 ++ (wl ad cy (z 0) (h 20) σ.2.1 ++ (wl ad cy (z 0) (h 21) σ.2.2.1 ++ (wl ad cy (z 0) (h 22) σ.2.2.2.1 ++ wS h cy σ.2.2.2.2)))) sz) := by
  refine Met.ofCx (own := RX4) (by decide) rfl (Nat.le_of_ble_eq_true rfl) ?_
  intro p e s m below meth c hC hv ls hl
  obtain ⟨hx, hb, hr, hml, hown, hts, hlocks⟩ := hC
  have hl : lv_has ls 2 [(0, .ref (h 0)), (1, .int x1)] := hl
  obtain ⟨hsz, hP, hK, hD0, hZ, hvk⟩ := hv
  subst hsz
  have hD := hD0.self (sz := s.heap.size)
  generalize hAe : va_A (wC h cy σ.1 ++ (wl ad cy (z 0) (h 20) σ.2.1 ++ (wl ad cy (z 0) (h 21) σ.2.2.1 ++ (wl ad cy (z 0) (h 22) σ.2.2.2.1 ++ wS h cy σ.2.2.2.2)))) s.heap.size = A at hD hZ ⊢
  have hA : ∀ q : Nat, s.heap.size ≤ q → A q := fun q h => by rw [← hAe]; exact Or.inr h
  have hS : va_S A s.heap s.heap [] := va_S.rf
  clear hAe
  unfold wp_X4_makes at hF
  refine lv_aload_n hx hb dX4_makes_0 rfl (lv_at hl 0 rfl) ?_
  refine lv_aload_n hx hb dX4_makes_1 rfl (lv_at hl 0 rfl) ?_
  refine lv_aload_n hx hb dX4_makes_2 rfl (lv_at hl 0 rfl) ?_
  refine va_get (D := (dC, dI)) (ci := 4) (v := .int (σ.1.1 2)) (C := RX4) (T := TX4) (N := 19) hx hb hts in_X4 hown hK.1 hP 0 rfl rfl 15 (by decide) (hts _ q965) (fun _ h9 => h9) rfl dX4_makes_3 ?_
  refine lv_iload_n hx hb dX4_makes_6 rfl (lv_at hl 1 rfl) ?_
  have hPc := fw_get (fp0 _ _) hP
  refine cpVi (q0 := 0) (As := [.int (σ.1.1 2), .int x1]) (rest := [.ref (h 0)]) ⟨hx, hb, hr, hml, hown, hts, hlocks⟩ hK hPc rfl rfl (m_X4_behind l dC dI h cy σ.1 (σ.1.1 2) x1 _ hF) k_X4_behind q1230 ⟨rfl, rfl⟩ ⟨Nat.le_of_ble_eq_true rfl, Nat.le_of_ble_eq_true rfl⟩ hl.1 rfl rfl (Nat.le_of_ble_eq_true rfl) dX4_makes_7 ⟨Nat.le_of_ble_eq_true rfl, Nat.le_of_ble_eq_true rfl⟩ (fun r7 hF => ?_)
  refine va_put (D := (dC, dI)) (ci := 4) (v := .int r7) (ty := .int) (C := RX4) (T := TX4) (N := 19) hx hb hts in_X4 tyX4 tyX4_ok nmX4 hown hK.1 hP hD hS 0 rfl rfl 15 (by decide) (hts _ q965) (fun _ h9 => h9) rfl (by decide +kernel) rfl rfl (Nat.le_of_ble_eq_true rfl) dX4_makes_10 (fun H locs hP hD hS => ?_)
  have hP : va_P (dC, dI) classes (wC h cy (sI σ.1 2 r7) ++ (wl ad cy (z 0) (h 20) σ.2.1 ++ (wl ad cy (z 0) (h 21) σ.2.2.1 ++ (wl ad cy (z 0) (h 22) σ.2.2.2.1 ++ wS h cy σ.2.2.2.2)))) H := hP
  have hD : va_D A (wC h cy (sI σ.1 2 r7) ++ (wl ad cy (z 0) (h 20) σ.2.1 ++ (wl ad cy (z 0) (h 21) σ.2.2.1 ++ (wl ad cy (z 0) (h 22) σ.2.2.2.1 ++ wS h cy σ.2.2.2.2)))) := hD
  refine lv_aload_n hx hb dX4_makes_13 rfl (lv_at hl 0 rfl) ?_
  refine va_get (D := (dC, dI)) (ci := 4) (v := .ref (h 20)) (C := RX4) (T := TX4) (N := 19) hx hb hts in_X4 hown hK.1 hP 0 rfl rfl 6 (by decide) (hts _ q956) (fun _ h9 => h9) rfl dX4_makes_14 ?_
  refine lv_iload_n hx hb dX4_makes_17 rfl (lv_at hl 1 rfl) ?_
  have hI := hF.1
  have hF := hF.2
  have hB18 : x1.toNatClampNeg < 128 := vp_in_lt hI
  refine W.eq (g2 := F0 m 18 ls [.int (nI x1.toNatClampNeg), .ref (h 20)]) (by rw [nI_of_in hI (by decide)]) ?_
  refine czSq (As := [.int (nI x1.toNatClampNeg)]) (rest := [.ref (h 20)]) ⟨hx, hb, hr, hml, hown, hts, hlocks⟩ hZ.1 hS (m_J6_valueOf_2dffe l (z 0) (z 1) ad _ hB18) k_J6_valueOf_2dffe q1234 ⟨rfl, rfl⟩ ⟨Nat.le_of_ble_eq_true rfl, Nat.le_of_ble_eq_true rfl⟩ hl.1 rfl rfl (Nat.le_of_ble_eq_true rfl) dX4_makes_18 ⟨Nat.le_of_ble_eq_true rfl, Nat.le_of_ble_eq_true rfl⟩ ?_
  have hU := hF.1
  have hF := hF.2
  have hN := hF.1
  have hF := hF.2
  refine lsAdd (k := x1.toNatClampNeg) (fp1 _ _ _) ⟨hx, hb, hr, hml, hown, hts, hlocks⟩ hK hP hD hZ.1 hS hA hU hN hB18 q1255 ⟨Nat.le_of_ble_eq_true rfl, Nat.le_of_ble_eq_true rfl⟩ hl.1 (Nat.le_of_ble_eq_true rfl) dX4_makes_21 ⟨Nat.le_of_ble_eq_true rfl, Nat.le_of_ble_eq_true rfl⟩ (fun w21 hw1 hw2 hw3 H1 locs hP1 hD1 hS => ?_)
  have hF := hF w21 hw1 hw2 hw3
  have hP := va_P.perm (fp1 _ _ _).symm hP1
  have hD := va_D.perm (fp1 _ _ _).symm hD1
  generalize H1 = H at hP hS ⊢
  have hP : va_P (dC, dI) classes (wC h cy (sI σ.1 2 r7) ++ (wl ad cy (z 0) (h 20) w21 ++ (wl ad cy (z 0) (h 21) σ.2.2.1 ++ (wl ad cy (z 0) (h 22) σ.2.2.2.1 ++ wS h cy σ.2.2.2.2)))) H := hP
  have hD : va_D A (wC h cy (sI σ.1 2 r7) ++ (wl ad cy (z 0) (h 20) w21 ++ (wl ad cy (z 0) (h 21) σ.2.2.1 ++ (wl ad cy (z 0) (h 22) σ.2.2.2.1 ++ wS h cy σ.2.2.2.2)))) := hD
  refine lv_pop hx hb dX4_makes_26 rfl ?_
  refine lv_aload_n hx hb dX4_makes_27 rfl (lv_at hl 0 rfl) ?_
  refine va_get (D := (dC, dI)) (ci := 4) (v := .int r7) (C := RX4) (T := TX4) (N := 19) hx hb hts in_X4 hown hK.1 hP 0 rfl rfl 15 (by decide) (hts _ q965) (fun _ h9 => h9) rfl dX4_makes_28 ?_
  refine cpSi (As := [.int r7]) (rest := []) ⟨hx, hb, hr, hml, hown, hts, hlocks⟩ (m_J6_bitCount_0f7a4 l r7 _ hF) k_J6_bitCount_0f7a4 q1319 ⟨rfl, rfl⟩ ⟨Nat.le_of_ble_eq_true rfl, Nat.le_of_ble_eq_true rfl⟩ hl.1 rfl rfl (Nat.le_of_ble_eq_true rfl) dX4_makes_31 ⟨Nat.le_of_ble_eq_true rfl, Nat.le_of_ble_eq_true rfl⟩ (fun r31 hF => ?_)
  exact W.iret (v := r31) hx hb hr (fun t ht hW => ⟨⟨r31, (sI σ.1 2 r7, w21, σ.2.2.1, σ.2.2.2.1, σ.2.2.2.2), rfl, hF, by rw [ht]; exact hP, hD⟩, hS.F ht⟩) hS.2.2 dX4_makes_34
theorem dX4_jump_0 : decode cX4_jump 0 = .ok (.aload_n 0, 1) := by decide +kernel
theorem dX4_jump_1 : decode cX4_jump 1 = .ok (.aload_n 0, 1) := by decide +kernel
theorem dX4_jump_2 : decode cX4_jump 2 = .ok (.iload_n 1, 1) := by decide +kernel
theorem dX4_jump_3 : decode cX4_jump 3 = .ok (.iload_n 2, 1) := by decide +kernel
theorem dX4_jump_4 : decode cX4_jump 4 = .ok (.invokevirtual 182, 3) := by decide +kernel
theorem dX4_jump_7 : decode cX4_jump 7 = .ok (.invokevirtual 100, 3) := by decide +kernel
theorem dX4_jump_10 : decode cX4_jump 10 = .ok (.ifCond .eq 7, 3) := by decide +kernel
theorem dX4_jump_13 : decode cX4_jump 13 = .ok (.iconst 0, 1) := by decide +kernel
theorem dX4_jump_14 : decode cX4_jump 14 = .ok (.goto 17, 3) := by decide +kernel
theorem dX4_jump_17 : decode cX4_jump 17 = .ok (.aload_n 0, 1) := by decide +kernel
theorem dX4_jump_18 : decode cX4_jump 18 = .ok (.aload_n 0, 1) := by decide +kernel
theorem dX4_jump_19 : decode cX4_jump 19 = .ok (.aload_n 0, 1) := by decide +kernel
theorem dX4_jump_20 : decode cX4_jump 20 = .ok (.getfield 120, 3) := by decide +kernel
theorem dX4_jump_23 : decode cX4_jump 23 = .ok (.iload_n 1, 1) := by decide +kernel
theorem dX4_jump_24 : decode cX4_jump 24 = .ok (.iload_n 2, 1) := by decide +kernel
theorem dX4_jump_25 : decode cX4_jump 25 = .ok (.invokevirtual 162, 3) := by decide +kernel
theorem dX4_jump_28 : decode cX4_jump 28 = .ok (.invokevirtual 185, 3) := by decide +kernel
theorem dX4_jump_31 : decode cX4_jump 31 = .ok (.ireturn, 1) := by decide +kernel
def wp_X4_jump (fu : Nat) (σ : FX) (x1 : Int32) (x2 : Int32) (P : Int32 → FX → Prop) : Prop := (wp_X4_whyNoJump fu σ.1 x1 x2 (fun r4 => (wp_X4_fails σ.1 r4 (fun r7 s7 => ((r7 = 0 → (wp_X4_jumpOf fu s7 (s7.1 2) x1 x2 (fun r25 => (wp_X4_makes (s7, σ.2.1, σ.2.2.1, σ.2.2.2.1, σ.2.2.2.2) r25 (fun r28 s28 => (P r28 s28)))))) ∧ (¬ r7 = 0 → (P 0 (s7, σ.2.1, σ.2.2.1, σ.2.2.2.1, σ.2.2.2.2))))))))
theorem k_X4_jump : KV RX4 yX4_jump cX4_jump 3 (some .int) 2 := ⟨q1219, q1220, q5, q1221, by decide +kernel⟩
set_option maxHeartbeats 4000000 in
set_option maxRecDepth 100000 in
theorem m_X4_jump (l : Launch) (dC : Nat → ClassId) (dI : Nat → Nat → Nat) (h : Nat → Nat) (cy : Nat → ClassId) (z ad : Nat → Nat) (sz : Nat) (fu : Nat) (σ : FX) (x1 : Int32) (x2 : Int32) (P : Int32 → FX → Prop) (hF : wp_X4_jump fu σ x1 x2 P) : Met l yX4_jump (ws_ yX4_jump cX4_jump 3 (some .int)) ({ frames := 8, cells := 1, slots := 15, locals := 247 } : Room) (va_Pc [.ref (h 0), .int x1, .int x2] (PcF dC dI cy z ad (wC h cy σ.1 ++ (wl ad cy (z 0) (h 20) σ.2.1 ++ (wl ad cy (z 0) (h 21) σ.2.2.1 ++ (wl ad cy (z 0) (h 22) σ.2.2.2.1 ++ wS h cy σ.2.2.2.2)))) sz)) (va_Qi (fun r u => P r u) (fun (u : FX) t => va_P (dC, dI) classes (wC h cy u.1 ++ (wl ad cy (z 0) (h 20) u.2.1 ++ (wl ad cy (z 0) (h 21) u.2.2.1 ++ (wl ad cy (z 0) (h 22) u.2.2.2.1 ++ wS h cy u.2.2.2.2)))) t.heap ∧ va_D (va_A (wC h cy σ.1 ++ (wl ad cy (z 0) (h 20) σ.2.1 ++ (wl ad cy (z 0) (h 21) σ.2.2.1 ++ (wl ad cy (z 0) (h 22) σ.2.2.2.1 ++ wS h cy σ.2.2.2.2)))) sz) (wC h cy u.1 ++ (wl ad cy (z 0) (h 20) u.2.1 ++ (wl ad cy (z 0) (h 21) u.2.2.1 ++ (wl ad cy (z 0) (h 22) u.2.2.2.1 ++ wS h cy u.2.2.2.2))))) (va_A (wC h cy σ.1 ++ (wl ad cy (z 0) (h 20) σ.2.1 ++ (wl ad cy (z 0) (h 21) σ.2.2.1 ++ (wl ad cy (z 0) (h 22) σ.2.2.2.1 ++ wS h cy σ.2.2.2.2)))) sz)) 1 15 (va_A (wC h cy σ.1 ++ (wl ad cy (z 0) (h 20) σ.2.1 ++ (wl ad cy (z 0) (h 21) σ.2.2.1 ++ (wl ad cy (z 0) (h 22) σ.2.2.2.1 ++ wS h cy σ.2.2.2.2)))) sz) := by
  refine Met.ofCx (own := RX4) (by decide) rfl (Nat.le_of_ble_eq_true rfl) ?_
  intro p e s m below meth c hC hv ls hl
  obtain ⟨hx, hb, hr, hml, hown, hts, hlocks⟩ := hC
  have hl : lv_has ls 3 [(0, .ref (h 0)), (1, .int x1), (2, .int x2)] := hl
  obtain ⟨hsz, hP, hK, hD0, hZ, hvk⟩ := hv
  subst hsz
  have hD := hD0.self (sz := s.heap.size)
  generalize hAe : va_A (wC h cy σ.1 ++ (wl ad cy (z 0) (h 20) σ.2.1 ++ (wl ad cy (z 0) (h 21) σ.2.2.1 ++ (wl ad cy (z 0) (h 22) σ.2.2.2.1 ++ wS h cy σ.2.2.2.2)))) s.heap.size = A at hD hZ ⊢
  have hA : ∀ q : Nat, s.heap.size ≤ q → A q := fun q h => by rw [← hAe]; exact Or.inr h
  have hS : va_S A s.heap s.heap [] := va_S.rf
  clear hAe
  unfold wp_X4_jump at hF
  refine lv_aload_n hx hb dX4_jump_0 rfl (lv_at hl 0 rfl) ?_
  refine lv_aload_n hx hb dX4_jump_1 rfl (lv_at hl 0 rfl) ?_
  refine lv_iload_n hx hb dX4_jump_2 rfl (lv_at hl 1 rfl) ?_
  refine lv_iload_n hx hb dX4_jump_3 rfl (lv_at hl 2 rfl) ?_
  have hPc := fw_get (fp0 _ _) hP
  refine cpVi (q0 := 0) (As := [.int x1, .int x2]) (rest := [.ref (h 0)]) ⟨hx, hb, hr, hml, hown, hts, hlocks⟩ hK hPc rfl rfl (m_X4_whyNoJump l dC dI h cy fu σ.1 x1 x2 _ hF) k_X4_whyNoJump q1222 ⟨rfl, rfl⟩ ⟨Nat.le_of_ble_eq_true rfl, Nat.le_of_ble_eq_true rfl⟩ hl.1 rfl rfl (Nat.le_of_ble_eq_true rfl) dX4_jump_4 ⟨Nat.le_of_ble_eq_true rfl, Nat.le_of_ble_eq_true rfl⟩ (fun r4 hF => ?_)
  have hPc := fw_get (fp0 _ _) hP
  have hDc := fw_getD (fp0 _ _) hD
  have hFc := fw_free (fp0 _ _) hD hS hA
  refine cwVi (q0 := 0) (As := [.int r4]) (rest := []) ⟨hx, hb, hr, hml, hown, hts, hlocks⟩ hK hPc hDc rfl rfl hS hFc (m_X4_fails l dC dI h cy _ σ.1 r4 _ hF) k_X4_fails q1102 ⟨rfl, rfl⟩ ⟨Nat.le_of_ble_eq_true rfl, Nat.le_of_ble_eq_true rfl⟩ hl.1 rfl rfl (Nat.le_of_ble_eq_true rfl) dX4_jump_7 ⟨Nat.le_of_ble_eq_true rfl, Nat.le_of_ble_eq_true rfl⟩ (fun r7 u H1 locs hF hP1 hD1 hk1 hS => ?_)
  obtain ⟨s7, rfl⟩ : ∃ z, z = u := ⟨_, rfl⟩
  obtain ⟨hP, hD⟩ := fw_join (fp0 _ _) hP hD hk1 hFc hP1 hD1
  generalize H1 = H at hP hS ⊢
  have hP : va_P (dC, dI) classes (wC h cy s7 ++ (wl ad cy (z 0) (h 20) σ.2.1 ++ (wl ad cy (z 0) (h 21) σ.2.2.1 ++ (wl ad cy (z 0) (h 22) σ.2.2.2.1 ++ wS h cy σ.2.2.2.2)))) H := hP
  have hD : va_D A (wC h cy s7 ++ (wl ad cy (z 0) (h 20) σ.2.1 ++ (wl ad cy (z 0) (h 21) σ.2.2.1 ++ (wl ad cy (z 0) (h 22) σ.2.2.2.1 ++ wS h cy σ.2.2.2.2)))) := hD
  refine lv_if_eq (tgt := 17) hx hb dX4_jump_10 (by decide) (fun cz => ?_) (fun cz => ?_)
  · have hF := hF.1 cz
    refine lv_aload_n hx hb dX4_jump_17 rfl (lv_at hl 0 rfl) ?_
    refine lv_aload_n hx hb dX4_jump_18 rfl (lv_at hl 0 rfl) ?_
    refine lv_aload_n hx hb dX4_jump_19 rfl (lv_at hl 0 rfl) ?_
    refine va_get (D := (dC, dI)) (ci := 4) (v := .int (s7.1 2)) (C := RX4) (T := TX4) (N := 19) hx hb hts in_X4 hown hK.1 hP 0 rfl rfl 15 (by decide) (hts _ q965) (fun _ h9 => h9) rfl dX4_jump_20 ?_
    refine lv_iload_n hx hb dX4_jump_23 rfl (lv_at hl 1 rfl) ?_
    refine lv_iload_n hx hb dX4_jump_24 rfl (lv_at hl 2 rfl) ?_
    have hPc := fw_get (fp0 _ _) hP
    refine cpVi (q0 := 0) (As := [.int (s7.1 2), .int x1, .int x2]) (rest := [.ref (h 0)]) ⟨hx, hb, hr, hml, hown, hts, hlocks⟩ hK hPc rfl rfl (m_X4_jumpOf l dC dI h cy fu s7 (s7.1 2) x1 x2 _ hF) k_X4_jumpOf q1210 ⟨rfl, rfl⟩ ⟨Nat.le_of_ble_eq_true rfl, Nat.le_of_ble_eq_true rfl⟩ hl.1 rfl rfl (Nat.le_of_ble_eq_true rfl) dX4_jump_25 ⟨Nat.le_of_ble_eq_true rfl, Nat.le_of_ble_eq_true rfl⟩ (fun r25 hF => ?_)
    refine cfVi (x := wC h cy s7 ++ (wl ad cy (z 0) (h 20) σ.2.1 ++ (wl ad cy (z 0) (h 21) σ.2.2.1 ++ (wl ad cy (z 0) (h 22) σ.2.2.2.1 ++ wS h cy σ.2.2.2.2)))) (fpN _) ⟨hx, hb, hr, hml, hown, hts, hlocks⟩ hK hP hD hZ hvk hS hA rfl (m_X4_makes l dC dI h cy z ad _ (s7, σ.2.1, σ.2.2.1, σ.2.2.2.1, σ.2.2.2.2) r25 _ hF) (As := [.int r25]) (rest := []) k_X4_makes q1226 ⟨rfl, rfl⟩ ⟨Nat.le_of_ble_eq_true rfl, Nat.le_of_ble_eq_true rfl⟩ hl.1 rfl rfl (Nat.le_of_ble_eq_true rfl) dX4_jump_28 ⟨Nat.le_of_ble_eq_true rfl, Nat.le_of_ble_eq_true rfl⟩ (fun r28 s28 H1 locs hF hP1 hD1 hS => ?_)
    have hP := va_P.perm (fpN _).symm hP1
    have hD := va_D.perm (fpN _).symm hD1
    generalize H1 = H at hP hS ⊢
    have hP : va_P (dC, dI) classes (wC h cy s28.1 ++ (wl ad cy (z 0) (h 20) s28.2.1 ++ (wl ad cy (z 0) (h 21) s28.2.2.1 ++ (wl ad cy (z 0) (h 22) s28.2.2.2.1 ++ wS h cy s28.2.2.2.2)))) H := hP
    have hD : va_D A (wC h cy s28.1 ++ (wl ad cy (z 0) (h 20) s28.2.1 ++ (wl ad cy (z 0) (h 21) s28.2.2.1 ++ (wl ad cy (z 0) (h 22) s28.2.2.2.1 ++ wS h cy s28.2.2.2.2)))) := hD
    exact W.iret (v := r28) hx hb hr (fun t ht hW => ⟨⟨r28, s28, rfl, hF, by rw [ht]; exact hP, hD⟩, hS.F ht⟩) hS.2.2 dX4_jump_31
  · have hF := hF.2 cz
    refine lv_iconst (v := 0) hx hb dX4_jump_13 (by decide) ?_
    refine lv_goto (tgt := 31) hx hb dX4_jump_14 (by decide) ?_
    refine W.widen (k := 1) (n := 15) (Nat.le_of_ble_eq_true rfl) (Nat.le_of_ble_eq_true rfl) ?_
    exact W.iret (v := 0) hx hb hr (fun t ht hW => ⟨⟨0, (s7, σ.2.1, σ.2.2.1, σ.2.2.2.1, σ.2.2.2.2), rfl, hF, by rw [ht]; exact hP, hD⟩, hS.F ht⟩) hS.2.2 dX4_jump_31
theorem dX4_takeBack_0 : decode cX4_takeBack 0 = .ok (.aload_n 0, 1) := by decide +kernel
theorem dX4_takeBack_1 : decode cX4_takeBack 1 = .ok (.aload_n 0, 1) := by decide +kernel
theorem dX4_takeBack_2 : decode cX4_takeBack 2 = .ok (.getfield 31, 3) := by decide +kernel
theorem dX4_takeBack_5 : decode cX4_takeBack 5 = .ok (.invokeinterface 194 1, 5) := by decide +kernel
theorem dX4_takeBack_10 : decode cX4_takeBack 10 = .ok (.ifCond .eq 7, 3) := by decide +kernel
theorem dX4_takeBack_13 : decode cX4_takeBack 13 = .ok (.iconst 1, 1) := by decide +kernel
theorem dX4_takeBack_14 : decode cX4_takeBack 14 = .ok (.goto 4, 3) := by decide +kernel
theorem dX4_takeBack_17 : decode cX4_takeBack 17 = .ok (.iconst 0, 1) := by decide +kernel
theorem dX4_takeBack_18 : decode cX4_takeBack 18 = .ok (.invokevirtual 100, 3) := by decide +kernel
theorem dX4_takeBack_21 : decode cX4_takeBack 21 = .ok (.ifCond .eq 5, 3) := by decide +kernel
theorem dX4_takeBack_24 : decode cX4_takeBack 24 = .ok (.iconst 0, 1) := by decide +kernel
theorem dX4_takeBack_25 : decode cX4_takeBack 25 = .ok (.ireturn, 1) := by decide +kernel
theorem dX4_takeBack_26 : decode cX4_takeBack 26 = .ok (.aload_n 0, 1) := by decide +kernel
theorem dX4_takeBack_27 : decode cX4_takeBack 27 = .ok (.getfield 31, 3) := by decide +kernel
theorem dX4_takeBack_30 : decode cX4_takeBack 30 = .ok (.aload_n 0, 1) := by decide +kernel
theorem dX4_takeBack_31 : decode cX4_takeBack 31 = .ok (.getfield 31, 3) := by decide +kernel
theorem dX4_takeBack_34 : decode cX4_takeBack 34 = .ok (.invokeinterface 198 1, 5) := by decide +kernel
theorem dX4_takeBack_39 : decode cX4_takeBack 39 = .ok (.iconst 1, 1) := by decide +kernel
theorem dX4_takeBack_40 : decode cX4_takeBack 40 = .ok (.isub, 1) := by decide +kernel
theorem dX4_takeBack_41 : decode cX4_takeBack 41 = .ok (.invokeinterface 202 2, 5) := by decide +kernel
theorem dX4_takeBack_46 : decode cX4_takeBack 46 = .ok (.checkcast 170, 3) := by decide +kernel
theorem dX4_takeBack_49 : decode cX4_takeBack 49 = .ok (.invokevirtual 206, 3) := by decide +kernel
theorem dX4_takeBack_52 : decode cX4_takeBack 52 = .ok (.istore_n 1, 1) := by decide +kernel
theorem dX4_takeBack_53 : decode cX4_takeBack 53 = .ok (.aload_n 0, 1) := by decide +kernel
theorem dX4_takeBack_54 : decode cX4_takeBack 54 = .ok (.aload_n 0, 1) := by decide +kernel
theorem dX4_takeBack_55 : decode cX4_takeBack 55 = .ok (.aload_n 0, 1) := by decide +kernel
theorem dX4_takeBack_56 : decode cX4_takeBack 56 = .ok (.getfield 120, 3) := by decide +kernel
theorem dX4_takeBack_59 : decode cX4_takeBack 59 = .ok (.iload_n 1, 1) := by decide +kernel
theorem dX4_takeBack_60 : decode cX4_takeBack 60 = .ok (.invokevirtual 166, 3) := by decide +kernel
theorem dX4_takeBack_63 : decode cX4_takeBack 63 = .ok (.putfield 120, 3) := by decide +kernel
theorem dX4_takeBack_66 : decode cX4_takeBack 66 = .ok (.aload_n 0, 1) := by decide +kernel
theorem dX4_takeBack_67 : decode cX4_takeBack 67 = .ok (.iload_n 1, 1) := by decide +kernel
theorem dX4_takeBack_68 : decode cX4_takeBack 68 = .ok (.invokevirtual 191, 3) := by decide +kernel
theorem dX4_takeBack_71 : decode cX4_takeBack 71 = .ok (.ireturn, 1) := by decide +kernel
def wp_X4_takeBack_J18 (σ : FX) (P : Int32 → FX → Prop) (t1_18 : Int32) : Prop := (wp_X4_fails σ.1 t1_18 (fun r18 s18 => ((r18 = 0 → (okL σ.2.1 ∧ (okL σ.2.1 ∧ ((0 < σ.2.1.2.2.2.2.2 ∧ ((nI σ.2.1.2.2.2.2.2) - 1) = nI (σ.2.1.2.2.2.2.2 - 1)) ∧ ∀ w41 : LST, okL w41 → w41.2.2.2.2.2 + 1 = σ.2.1.2.2.2.2.2 → w41.2.2.2.2.1 = σ.2.1.2.2.2.2.1 → (wp_X4_behind s18 (s18.1 2) (nI (σ.2.1.2.2.2.2.1 (σ.2.1.2.2.2.2.2 - 1))) (fun r60 => (wp_X4_codeOf (sI s18 2 r60) (nI (σ.2.1.2.2.2.2.1 (σ.2.1.2.2.2.2.2 - 1))) (fun r68 => (P r68 (sI s18 2 r60, w41, σ.2.2.1, σ.2.2.2.1, σ.2.2.2.2)))))))))) ∧ (¬ r18 = 0 → (P 0 (s18, σ.2.1, σ.2.2.1, σ.2.2.2.1, σ.2.2.2.2))))))
def wp_X4_takeBack (σ : FX) (P : Int32 → FX → Prop) : Prop := (okL σ.2.1 ∧ (((isE (σ.2.1.2.2.2.2.2)) = 0 → (wp_X4_takeBack_J18 σ P 0)) ∧ (¬ (isE (σ.2.1.2.2.2.2.2)) = 0 → (wp_X4_takeBack_J18 σ P 1))))
theorem k_X4_takeBack : KV RX4 yX4_takeBack cX4_takeBack 2 (some .int) 0 := ⟨q1337, q1338, q5, q1339, by decide +kernel⟩
set_option maxHeartbeats 4000000 in
set_option maxRecDepth 100000 in
theorem m_X4_takeBack (l : Launch) (dC : Nat → ClassId) (dI : Nat → Nat → Nat) (h : Nat → Nat) (cy : Nat → ClassId) (z ad : Nat → Nat) (sz : Nat) (σ : FX) (P : Int32 → FX → Prop) (hF : wp_X4_takeBack σ P) : Met l yX4_takeBack (ws_ yX4_takeBack cX4_takeBack 2 (some .int)) ({ frames := 3, cells := 0, slots := 0, locals := 76 } : Room) (va_Pc [.ref (h 0)] (PcF dC dI cy z ad (wC h cy σ.1 ++ (wl ad cy (z 0) (h 20) σ.2.1 ++ (wl ad cy (z 0) (h 21) σ.2.2.1 ++ (wl ad cy (z 0) (h 22) σ.2.2.2.1 ++ wS h cy σ.2.2.2.2)))) sz)) (va_Qi (fun r u => P r u) (fun (u : FX) t => va_P (dC, dI) classes (wC h cy u.1 ++ (wl ad cy (z 0) (h 20) u.2.1 ++ (wl ad cy (z 0) (h 21) u.2.2.1 ++ (wl ad cy (z 0) (h 22) u.2.2.2.1 ++ wS h cy u.2.2.2.2)))) t.heap ∧ va_D (va_A (wC h cy σ.1 ++ (wl ad cy (z 0) (h 20) σ.2.1 ++ (wl ad cy (z 0) (h 21) σ.2.2.1 ++ (wl ad cy (z 0) (h 22) σ.2.2.2.1 ++ wS h cy σ.2.2.2.2)))) sz) (wC h cy u.1 ++ (wl ad cy (z 0) (h 20) u.2.1 ++ (wl ad cy (z 0) (h 21) u.2.2.1 ++ (wl ad cy (z 0) (h 22) u.2.2.2.1 ++ wS h cy u.2.2.2.2))))) (va_A (wC h cy σ.1 ++ (wl ad cy (z 0) (h 20) σ.2.1 ++ (wl ad cy (z 0) (h 21) σ.2.2.1 ++ (wl ad cy (z 0) (h 22) σ.2.2.2.1 ++ wS h cy σ.2.2.2.2)))) sz)) 0 0 (va_A (wC h cy σ.1 ++ (wl ad cy (z 0) (h 20) σ.2.1 ++ (wl ad cy (z 0) (h 21) σ.2.2.1 ++ (wl ad cy (z 0) (h 22) σ.2.2.2.1 ++ wS h cy σ.2.2.2.2)))) sz) := by
  refine Met.ofCx (own := RX4) (by decide) rfl (Nat.le_of_ble_eq_true rfl) ?_
  intro p e s m below meth c hC hv ls hl
  obtain ⟨hx, hb, hr, hml, hown, hts, hlocks⟩ := hC
  have hl : lv_has ls 2 [(0, .ref (h 0))] := hl
  obtain ⟨hsz, hP, hK, hD0, hZ, hvk⟩ := hv
  subst hsz
  have hD := hD0.self (sz := s.heap.size)
  generalize hAe : va_A (wC h cy σ.1 ++ (wl ad cy (z 0) (h 20) σ.2.1 ++ (wl ad cy (z 0) (h 21) σ.2.2.1 ++ (wl ad cy (z 0) (h 22) σ.2.2.2.1 ++ wS h cy σ.2.2.2.2)))) s.heap.size = A at hD hZ ⊢
  have hA : ∀ q : Nat, s.heap.size ≤ q → A q := fun q h => by rw [← hAe]; exact Or.inr h
  have hS : va_S A s.heap s.heap [] := va_S.rf
  clear hAe
  unfold wp_X4_takeBack at hF
  refine lv_aload_n hx hb dX4_takeBack_0 rfl (lv_at hl 0 rfl) ?_
  refine lv_aload_n hx hb dX4_takeBack_1 rfl (lv_at hl 0 rfl) ?_
  refine va_get (D := (dC, dI)) (ci := 4) (v := .ref (h 20)) (C := RX4) (T := TX4) (N := 19) hx hb hts in_X4 hown hK.1 hP 0 rfl rfl 6 (by decide) (hts _ q956) (fun _ h9 => h9) rfl dX4_takeBack_2 ?_
  have hU := hF.1
  have hF := hF.2
  refine lsEmpty2 (fp1 _ _ _) ⟨hx, hb, hr, hml, hown, hts, hlocks⟩ hK hP hU q1341 ⟨Nat.le_of_ble_eq_true rfl, Nat.le_of_ble_eq_true rfl⟩ hl.1 (Nat.le_of_ble_eq_true rfl) dX4_takeBack_5 ⟨Nat.le_of_ble_eq_true rfl, Nat.le_of_ble_eq_true rfl⟩ ?_
  have hJ18 : ∀ (t1_18 : Int32), wp_X4_takeBack_J18 σ P t1_18 → ∀ (H : Heap) (locs : List Loc), va_P (dC, dI) classes (wC h cy σ.1 ++ (wl ad cy (z 0) (h 20) σ.2.1 ++ (wl ad cy (z 0) (h 21) σ.2.2.1 ++ (wl ad cy (z 0) (h 22) σ.2.2.2.1 ++ wS h cy σ.2.2.2.2)))) H → va_D A (wC h cy σ.1 ++ (wl ad cy (z 0) (h 20) σ.2.1 ++ (wl ad cy (z 0) (h 21) σ.2.2.1 ++ (wl ad cy (z 0) (h 22) σ.2.2.2.1 ++ wS h cy σ.2.2.2.2)))) → va_S A s.heap H locs → ∀ (ls : Array Slot), lv_has ls 2 [(0, .ref (h 0))] → W p l e ({ frames := 3, cells := 0, slots := 0, locals := 76 } : Room) s m ([.ref (h 0)] : List Value).toArray below meth c H locs 0 0 (MQ below (va_Qi (fun r u => P r u) (fun (u : FX) t => va_P (dC, dI) classes (wC h cy u.1 ++ (wl ad cy (z 0) (h 20) u.2.1 ++ (wl ad cy (z 0) (h 21) u.2.2.1 ++ (wl ad cy (z 0) (h 22) u.2.2.2.1 ++ wS h cy u.2.2.2.2)))) t.heap ∧ va_D A (wC h cy u.1 ++ (wl ad cy (z 0) (h 20) u.2.1 ++ (wl ad cy (z 0) (h 21) u.2.2.1 ++ (wl ad cy (z 0) (h 22) u.2.2.2.1 ++ wS h cy u.2.2.2.2))))) A) ([.ref (h 0)] : List Value).toArray s 0 0 A) (F0 m 18 ls [.int t1_18, .ref (h 0)]) := by
    intro t1_18 hF H locs hP hD hS ls hl
    unfold wp_X4_takeBack_J18 at hF
    have hPc := fw_get (fp0 _ _) hP
    have hDc := fw_getD (fp0 _ _) hD
    have hFc := fw_free (fp0 _ _) hD hS hA
    refine cwVi (q0 := 0) (As := [.int t1_18]) (rest := []) ⟨hx, hb, hr, hml, hown, hts, hlocks⟩ hK hPc hDc rfl rfl hS hFc (m_X4_fails l dC dI h cy _ σ.1 t1_18 _ hF) k_X4_fails q1102 ⟨rfl, rfl⟩ ⟨Nat.le_of_ble_eq_true rfl, Nat.le_of_ble_eq_true rfl⟩ hl.1 rfl rfl (Nat.le_of_ble_eq_true rfl) dX4_takeBack_18 ⟨Nat.le_of_ble_eq_true rfl, Nat.le_of_ble_eq_true rfl⟩ (fun r18 u H1 locs hF hP1 hD1 hk1 hS => ?_)
    obtain ⟨s18, rfl⟩ : ∃ z, z = u := ⟨_, rfl⟩
    obtain ⟨hP, hD⟩ := fw_join (fp0 _ _) hP hD hk1 hFc hP1 hD1
    generalize H1 = H at hP hS ⊢
    have hP : va_P (dC, dI) classes (wC h cy s18 ++ (wl ad cy (z 0) (h 20) σ.2.1 ++ (wl ad cy (z 0) (h 21) σ.2.2.1 ++ (wl ad cy (z 0) (h 22) σ.2.2.2.1 ++ wS h cy σ.2.2.2.2)))) H := hP
    have hD : va_D A (wC h cy s18 ++ (wl ad cy (z 0) (h 20) σ.2.1 ++ (wl ad cy (z 0) (h 21) σ.2.2.1 ++ (wl ad cy (z 0) (h 22) σ.2.2.2.1 ++ wS h cy σ.2.2.2.2)))) := hD
    refine lv_if_eq (tgt := 26) hx hb dX4_takeBack_21 (by decide) (fun cz => ?_) (fun cz => ?_)
    · have hF := hF.1 cz
      refine lv_aload_n hx hb dX4_takeBack_26 rfl (lv_at hl 0 rfl) ?_
      refine va_get (D := (dC, dI)) (ci := 4) (v := .ref (h 20)) (C := RX4) (T := TX4) (N := 19) hx hb hts in_X4 hown hK.1 hP 0 rfl rfl 6 (by decide) (hts _ q956) (fun _ h9 => h9) rfl dX4_takeBack_27 ?_
      refine lv_aload_n hx hb dX4_takeBack_30 rfl (lv_at hl 0 rfl) ?_
      refine va_get (D := (dC, dI)) (ci := 4) (v := .ref (h 20)) (C := RX4) (T := TX4) (N := 19) hx hb hts in_X4 hown hK.1 hP 0 rfl rfl 6 (by decide) (hts _ q956) (fun _ h9 => h9) rfl dX4_takeBack_31 ?_
      have hU := hF.1
      have hF := hF.2
      refine lsSize (fp1 _ _ _) ⟨hx, hb, hr, hml, hown, hts, hlocks⟩ hK hP hU q1350 ⟨Nat.le_of_ble_eq_true rfl, Nat.le_of_ble_eq_true rfl⟩ hl.1 (Nat.le_of_ble_eq_true rfl) dX4_takeBack_34 ⟨Nat.le_of_ble_eq_true rfl, Nat.le_of_ble_eq_true rfl⟩ ?_
      refine lv_iconst (v := 1) hx hb dX4_takeBack_39 (by decide) ?_
      refine lv_isub hx hb dX4_takeBack_40 ?_
      have hU := hF.1
      have hF := hF.2
      have hI := hF.1
      have hF := hF.2
      have hB41 : σ.2.1.2.2.2.2.1 (σ.2.1.2.2.2.2.2 - 1) < 128 := hU.2.1 _ (Nat.sub_lt hI.1 (by decide))
      refine lsRemove (fp1 _ _ _) ⟨hx, hb, hr, hml, hown, hts, hlocks⟩ hK hP hD hZ.1 hS hA hU hI q1359 ⟨Nat.le_of_ble_eq_true rfl, Nat.le_of_ble_eq_true rfl⟩ hl.1 (Nat.le_of_ble_eq_true rfl) dX4_takeBack_41 ⟨Nat.le_of_ble_eq_true rfl, Nat.le_of_ble_eq_true rfl⟩ (fun w41 hw1 hw2 hw3 H1 locs hP1 hD1 hS => ?_)
      have hF := hF w41 hw1 hw2 hw3
      have hP := va_P.perm (fp1 _ _ _).symm hP1
      have hD := va_D.perm (fp1 _ _ _).symm hD1
      generalize H1 = H at hP hS ⊢
      have hP : va_P (dC, dI) classes (wC h cy s18 ++ (wl ad cy (z 0) (h 20) w41 ++ (wl ad cy (z 0) (h 21) σ.2.2.1 ++ (wl ad cy (z 0) (h 22) σ.2.2.2.1 ++ wS h cy σ.2.2.2.2)))) H := hP
      have hD : va_D A (wC h cy s18 ++ (wl ad cy (z 0) (h 20) w41 ++ (wl ad cy (z 0) (h 21) σ.2.2.1 ++ (wl ad cy (z 0) (h 22) σ.2.2.2.1 ++ wS h cy σ.2.2.2.2)))) := hD
      refine va_castE hx hb hown (hts _ q1376) (box_at hZ.1 hS (by have := hB41; omega)) dX4_takeBack_46 ?_
      refine czVi ⟨hx, hb, hr, hml, hown, hts, hlocks⟩ hZ.1 hS (by have := hB41; omega) (m_J6_intValue_8abf5 l (z 0) (z 1) ad (σ.2.1.2.2.2.2.1 (σ.2.1.2.2.2.2.2 - 1)) hB41) k_J6_intValue_8abf5 q1377 ⟨rfl, rfl⟩ ⟨Nat.le_of_ble_eq_true rfl, Nat.le_of_ble_eq_true rfl⟩ hl.1 (Nat.le_of_ble_eq_true rfl) dX4_takeBack_49 ⟨Nat.le_of_ble_eq_true rfl, Nat.le_of_ble_eq_true rfl⟩ (fun r9 hr9 => ?_)
      rw [hr9]
      refine lv_istore_n (lv' := [(1, .int (nI (σ.2.1.2.2.2.2.1 (σ.2.1.2.2.2.2.2 - 1)))), (0, .ref (h 0))]) hx hb dX4_takeBack_52 rfl hl (by decide) rfl (fun ls hl => ?_)
      refine lv_aload_n hx hb dX4_takeBack_53 rfl (lv_at hl 1 rfl) ?_
      refine lv_aload_n hx hb dX4_takeBack_54 rfl (lv_at hl 1 rfl) ?_
      refine lv_aload_n hx hb dX4_takeBack_55 rfl (lv_at hl 1 rfl) ?_
      refine va_get (D := (dC, dI)) (ci := 4) (v := .int (s18.1 2)) (C := RX4) (T := TX4) (N := 19) hx hb hts in_X4 hown hK.1 hP 0 rfl rfl 15 (by decide) (hts _ q965) (fun _ h9 => h9) rfl dX4_takeBack_56 ?_
      refine lv_iload_n hx hb dX4_takeBack_59 rfl (lv_at hl 0 rfl) ?_
      have hPc := fw_get (fp0 _ _) hP
      refine cpVi (q0 := 0) (As := [.int (s18.1 2), .int (nI (σ.2.1.2.2.2.2.1 (σ.2.1.2.2.2.2.2 - 1)))]) (rest := [.ref (h 0)]) ⟨hx, hb, hr, hml, hown, hts, hlocks⟩ hK hPc rfl rfl (m_X4_behind l dC dI h cy s18 (s18.1 2) (nI (σ.2.1.2.2.2.2.1 (σ.2.1.2.2.2.2.2 - 1))) _ hF) k_X4_behind q1230 ⟨rfl, rfl⟩ ⟨Nat.le_of_ble_eq_true rfl, Nat.le_of_ble_eq_true rfl⟩ hl.1 rfl rfl (Nat.le_of_ble_eq_true rfl) dX4_takeBack_60 ⟨Nat.le_of_ble_eq_true rfl, Nat.le_of_ble_eq_true rfl⟩ (fun r60 hF => ?_)
      refine va_put (D := (dC, dI)) (ci := 4) (v := .int r60) (ty := .int) (C := RX4) (T := TX4) (N := 19) hx hb hts in_X4 tyX4 tyX4_ok nmX4 hown hK.1 hP hD hS 0 rfl rfl 15 (by decide) (hts _ q965) (fun _ h9 => h9) rfl (by decide +kernel) rfl rfl (Nat.le_of_ble_eq_true rfl) dX4_takeBack_63 (fun H locs hP hD hS => ?_)
      have hP : va_P (dC, dI) classes (wC h cy (sI s18 2 r60) ++ (wl ad cy (z 0) (h 20) w41 ++ (wl ad cy (z 0) (h 21) σ.2.2.1 ++ (wl ad cy (z 0) (h 22) σ.2.2.2.1 ++ wS h cy σ.2.2.2.2)))) H := hP
      have hD : va_D A (wC h cy (sI s18 2 r60) ++ (wl ad cy (z 0) (h 20) w41 ++ (wl ad cy (z 0) (h 21) σ.2.2.1 ++ (wl ad cy (z 0) (h 22) σ.2.2.2.1 ++ wS h cy σ.2.2.2.2)))) := hD
      refine lv_aload_n hx hb dX4_takeBack_66 rfl (lv_at hl 1 rfl) ?_
      refine lv_iload_n hx hb dX4_takeBack_67 rfl (lv_at hl 0 rfl) ?_
      have hPc := fw_get (fp0 _ _) hP
      refine cpVi (q0 := 0) (As := [.int (nI (σ.2.1.2.2.2.2.1 (σ.2.1.2.2.2.2.2 - 1)))]) (rest := []) ⟨hx, hb, hr, hml, hown, hts, hlocks⟩ hK hPc rfl rfl (m_X4_codeOf l dC dI h cy (sI s18 2 r60) (nI (σ.2.1.2.2.2.2.1 (σ.2.1.2.2.2.2.2 - 1))) _ hF) k_X4_codeOf q1332 ⟨rfl, rfl⟩ ⟨Nat.le_of_ble_eq_true rfl, Nat.le_of_ble_eq_true rfl⟩ hl.1 rfl rfl (Nat.le_of_ble_eq_true rfl) dX4_takeBack_68 ⟨Nat.le_of_ble_eq_true rfl, Nat.le_of_ble_eq_true rfl⟩ (fun r68 hF => ?_)
      exact W.iret (v := r68) hx hb hr (fun t ht hW => ⟨⟨r68, (sI s18 2 r60, w41, σ.2.2.1, σ.2.2.2.1, σ.2.2.2.2), rfl, hF, by rw [ht]; exact hP, hD⟩, hS.F ht⟩) hS.2.2 dX4_takeBack_71
    · have hF := hF.2 cz
      refine lv_iconst (v := 0) hx hb dX4_takeBack_24 (by decide) ?_
      exact W.iret (v := 0) hx hb hr (fun t ht hW => ⟨⟨0, (s18, σ.2.1, σ.2.2.1, σ.2.2.2.1, σ.2.2.2.2), rfl, hF, by rw [ht]; exact hP, hD⟩, hS.F ht⟩) hS.2.2 dX4_takeBack_25
  refine lv_if_eq (tgt := 17) hx hb dX4_takeBack_10 (by decide) (fun cz => ?_) (fun cz => ?_)
  · have hF := hF.1 cz
    refine lv_iconst (v := 0) hx hb dX4_takeBack_17 (by decide) ?_
    exact hJ18 0 hF _ _ hP hD hS _ (lv_sub hl [0] rfl)
  · have hF := hF.2 cz
    refine lv_iconst (v := 1) hx hb dX4_takeBack_13 (by decide) ?_
    refine lv_goto (tgt := 18) hx hb dX4_takeBack_14 (by decide) ?_
    exact hJ18 1 hF _ _ hP hD hS _ (lv_sub hl [0] rfl)
theorem dX4_sweeps_0 : decode cX4_sweeps 0 = .ok (.aload_n 0, 1) := by decide +kernel
theorem dX4_sweeps_1 : decode cX4_sweeps 1 = .ok (.iconst 0, 1) := by decide +kernel
theorem dX4_sweeps_2 : decode cX4_sweeps 2 = .ok (.putfield 60, 3) := by decide +kernel
theorem dX4_sweeps_5 : decode cX4_sweeps 5 = .ok (.iconst 0, 1) := by decide +kernel
theorem dX4_sweeps_6 : decode cX4_sweeps 6 = .ok (.istore_n 1, 1) := by decide +kernel
theorem dX4_sweeps_7 : decode cX4_sweeps 7 = .ok (.iconst 0, 1) := by decide +kernel
theorem dX4_sweeps_8 : decode cX4_sweeps 8 = .ok (.istore_n 2, 1) := by decide +kernel
theorem dX4_sweeps_9 : decode cX4_sweeps 9 = .ok (.iload_n 2, 1) := by decide +kernel
theorem dX4_sweeps_10 : decode cX4_sweeps 10 = .ok (.aload_n 0, 1) := by decide +kernel
theorem dX4_sweeps_11 : decode cX4_sweeps 11 = .ok (.getfield 31, 3) := by decide +kernel
theorem dX4_sweeps_14 : decode cX4_sweeps 14 = .ok (.invokeinterface 198 1, 5) := by decide +kernel
theorem dX4_sweeps_19 : decode cX4_sweeps 19 = .ok (.if_icmp .ge 68, 3) := by decide +kernel
theorem dX4_sweeps_22 : decode cX4_sweeps 22 = .ok (.iload_n 1, 1) := by decide +kernel
theorem dX4_sweeps_23 : decode cX4_sweeps 23 = .ok (.iload_n 2, 1) := by decide +kernel
theorem dX4_sweeps_24 : decode cX4_sweeps 24 = .ok (.ifCond .eq 50, 3) := by decide +kernel
theorem dX4_sweeps_27 : decode cX4_sweeps 27 = .ok (.aload_n 0, 1) := by decide +kernel
theorem dX4_sweeps_28 : decode cX4_sweeps 28 = .ok (.getfield 19, 3) := by decide +kernel
theorem dX4_sweeps_31 : decode cX4_sweeps 31 = .ok (.aload_n 0, 1) := by decide +kernel
theorem dX4_sweeps_32 : decode cX4_sweeps 32 = .ok (.getfield 31, 3) := by decide +kernel
theorem dX4_sweeps_35 : decode cX4_sweeps 35 = .ok (.iload_n 2, 1) := by decide +kernel
theorem dX4_sweeps_36 : decode cX4_sweeps 36 = .ok (.invokeinterface 209 2, 5) := by decide +kernel
theorem dX4_sweeps_41 : decode cX4_sweeps 41 = .ok (.checkcast 170, 3) := by decide +kernel
theorem dX4_sweeps_44 : decode cX4_sweeps 44 = .ok (.invokevirtual 206, 3) := by decide +kernel
theorem dX4_sweeps_47 : decode cX4_sweeps 47 = .ok (.iaload, 1) := by decide +kernel
theorem dX4_sweeps_48 : decode cX4_sweeps 48 = .ok (.aload_n 0, 1) := by decide +kernel
theorem dX4_sweeps_49 : decode cX4_sweeps 49 = .ok (.getfield 25, 3) := by decide +kernel
theorem dX4_sweeps_52 : decode cX4_sweeps 52 = .ok (.aload_n 0, 1) := by decide +kernel
theorem dX4_sweeps_53 : decode cX4_sweeps 53 = .ok (.getfield 31, 3) := by decide +kernel
theorem dX4_sweeps_56 : decode cX4_sweeps 56 = .ok (.iload_n 2, 1) := by decide +kernel
theorem dX4_sweeps_57 : decode cX4_sweeps 57 = .ok (.iconst 1, 1) := by decide +kernel
theorem dX4_sweeps_58 : decode cX4_sweeps 58 = .ok (.isub, 1) := by decide +kernel
theorem dX4_sweeps_59 : decode cX4_sweeps 59 = .ok (.invokeinterface 209 2, 5) := by decide +kernel
theorem dX4_sweeps_64 : decode cX4_sweeps 64 = .ok (.checkcast 170, 3) := by decide +kernel
theorem dX4_sweeps_67 : decode cX4_sweeps 67 = .ok (.invokevirtual 206, 3) := by decide +kernel
theorem dX4_sweeps_70 : decode cX4_sweeps 70 = .ok (.iaload, 1) := by decide +kernel
theorem dX4_sweeps_71 : decode cX4_sweeps 71 = .ok (.if_icmp .eq 7, 3) := by decide +kernel
theorem dX4_sweeps_74 : decode cX4_sweeps 74 = .ok (.iconst 1, 1) := by decide +kernel
theorem dX4_sweeps_75 : decode cX4_sweeps 75 = .ok (.goto 4, 3) := by decide +kernel
theorem dX4_sweeps_78 : decode cX4_sweeps 78 = .ok (.iconst 0, 1) := by decide +kernel
theorem dX4_sweeps_79 : decode cX4_sweeps 79 = .ok (.iadd, 1) := by decide +kernel
theorem dX4_sweeps_80 : decode cX4_sweeps 80 = .ok (.istore_n 1, 1) := by decide +kernel
theorem dX4_sweeps_81 : decode cX4_sweeps 81 = .ok (.iinc 2 1, 3) := by decide +kernel
theorem dX4_sweeps_84 : decode cX4_sweeps 84 = .ok (.goto (-75), 3) := by decide +kernel
theorem dX4_sweeps_87 : decode cX4_sweeps 87 = .ok (.iload_n 1, 1) := by decide +kernel
theorem dX4_sweeps_88 : decode cX4_sweeps 88 = .ok (.ireturn, 1) := by decide +kernel
def wp_X4_sweeps_J79 (rec9 : Int32 → Int32 → Prop) (v2_9 : Int32) (v1_9 : Int32) (t1_79 : Int32) : Prop := (rec9 (v2_9 + 1) (v1_9 + t1_79))
def wp_X4_sweeps_J74 (rec9 : Int32 → Int32 → Prop) (v2_9 : Int32) (v1_9 : Int32) : Prop := (wp_X4_sweeps_J79 rec9 v2_9 v1_9 1)
def wp_X4_sweeps_B9 (σ : FX) (K9 : Int32 → Prop) (rec9 : Int32 → Int32 → Prop) (v2_9 : Int32) (v1_9 : Int32) : Prop := (okL σ.2.1 ∧ (((nI σ.2.1.2.2.2.2.2) ≤ v2_9 → (K9 v1_9)) ∧ (¬ (nI σ.2.1.2.2.2.2.2) ≤ v2_9 → ((v2_9 = 0 → wp_X4_sweeps_J74 rec9 v2_9 v1_9) ∧ (¬ v2_9 = 0 → (okL σ.2.1 ∧ (vp_in v2_9 σ.2.1.2.2.2.2.2 ∧ (vp_in (nI (σ.2.1.2.2.2.2.1 v2_9.toNatClampNeg)) 104 ∧ (okL σ.2.1 ∧ (vp_in (v2_9 - 1) σ.2.1.2.2.2.2.2 ∧ (vp_in (nI (σ.2.1.2.2.2.2.1 (v2_9 - 1).toNatClampNeg)) 104 ∧ ((((σ.1.2.1 3) (nI (σ.2.1.2.2.2.2.1 v2_9.toNatClampNeg)).toNatClampNeg) = ((σ.1.2.1 5) (nI (σ.2.1.2.2.2.2.1 (v2_9 - 1).toNatClampNeg)).toNatClampNeg) → (wp_X4_sweeps_J79 rec9 v2_9 v1_9 0)) ∧ (¬ ((σ.1.2.1 3) (nI (σ.2.1.2.2.2.2.1 v2_9.toNatClampNeg)).toNatClampNeg) = ((σ.1.2.1 5) (nI (σ.2.1.2.2.2.2.1 (v2_9 - 1).toNatClampNeg)).toNatClampNeg) → wp_X4_sweeps_J74 rec9 v2_9 v1_9)))))))))))))
def wp_X4_sweeps_L9 (σ : FX) (K9 : Int32 → Prop) : Nat → Int32 → Int32 → Prop
  | 0, _, _ => False
  | nn + 1, v2_9, v1_9 => wp_X4_sweeps_B9 σ K9 (wp_X4_sweeps_L9 σ K9 nn) v2_9 v1_9
def wp_X4_sweeps (fu : Nat) (σ : FX) (P : Int32 → FX → Prop) : Prop := (wp_X4_sweeps_L9 σ (fun (v1_87 : Int32) => (P v1_87 (sI σ.1 5 0, σ.2.1, σ.2.2.1, σ.2.2.2.1, σ.2.2.2.2))) fu 0 0)
theorem k_X4_sweeps : KV RX4 yX4_sweeps cX4_sweeps 3 (some .int) 0 := ⟨q1386, q1387, q5, q1388, by decide +kernel⟩
set_option maxHeartbeats 4000000 in
set_option maxRecDepth 100000 in
theorem m_X4_sweeps (l : Launch) (dC : Nat → ClassId) (dI : Nat → Nat → Nat) (h : Nat → Nat) (cy : Nat → ClassId) (z ad : Nat → Nat) (sz : Nat) (fu : Nat) (σ : FX) (P : Int32 → FX → Prop) (hF : wp_X4_sweeps fu σ P) : Met l yX4_sweeps (ws_ yX4_sweeps cX4_sweeps 3 (some .int)) ({ frames := 3, cells := 0, slots := 0, locals := 64 } : Room) (va_Pc [.ref (h 0)] (PcF dC dI cy z ad (wC h cy σ.1 ++ (wl ad cy (z 0) (h 20) σ.2.1 ++ (wl ad cy (z 0) (h 21) σ.2.2.1 ++ (wl ad cy (z 0) (h 22) σ.2.2.2.1 ++ wS h cy σ.2.2.2.2)))) sz)) (va_Qi (fun r u => P r u) (fun (u : FX) t => va_P (dC, dI) classes (wC h cy u.1 ++ (wl ad cy (z 0) (h 20) u.2.1 ++ (wl ad cy (z 0) (h 21) u.2.2.1 ++ (wl ad cy (z 0) (h 22) u.2.2.2.1 ++ wS h cy u.2.2.2.2)))) t.heap ∧ va_D (va_A (wC h cy σ.1 ++ (wl ad cy (z 0) (h 20) σ.2.1 ++ (wl ad cy (z 0) (h 21) σ.2.2.1 ++ (wl ad cy (z 0) (h 22) σ.2.2.2.1 ++ wS h cy σ.2.2.2.2)))) sz) (wC h cy u.1 ++ (wl ad cy (z 0) (h 20) u.2.1 ++ (wl ad cy (z 0) (h 21) u.2.2.1 ++ (wl ad cy (z 0) (h 22) u.2.2.2.1 ++ wS h cy u.2.2.2.2))))) (va_A (wC h cy σ.1 ++ (wl ad cy (z 0) (h 20) σ.2.1 ++ (wl ad cy (z 0) (h 21) σ.2.2.1 ++ (wl ad cy (z 0) (h 22) σ.2.2.2.1 ++ wS h cy σ.2.2.2.2)))) sz)) 0 0 (va_A (wC h cy σ.1 ++ (wl ad cy (z 0) (h 20) σ.2.1 ++ (wl ad cy (z 0) (h 21) σ.2.2.1 ++ (wl ad cy (z 0) (h 22) σ.2.2.2.1 ++ wS h cy σ.2.2.2.2)))) sz) := by
  refine Met.ofCx (own := RX4) (by decide) rfl (Nat.le_of_ble_eq_true rfl) ?_
  intro p e s m below meth c hC hv ls hl
  obtain ⟨hx, hb, hr, hml, hown, hts, hlocks⟩ := hC
  have hl : lv_has ls 3 [(0, .ref (h 0))] := hl
  obtain ⟨hsz, hP, hK, hD0, hZ, hvk⟩ := hv
  subst hsz
  have hD := hD0.self (sz := s.heap.size)
  generalize hAe : va_A (wC h cy σ.1 ++ (wl ad cy (z 0) (h 20) σ.2.1 ++ (wl ad cy (z 0) (h 21) σ.2.2.1 ++ (wl ad cy (z 0) (h 22) σ.2.2.2.1 ++ wS h cy σ.2.2.2.2)))) s.heap.size = A at hD hZ ⊢
  have hA : ∀ q : Nat, s.heap.size ≤ q → A q := fun q h => by rw [← hAe]; exact Or.inr h
  have hS : va_S A s.heap s.heap [] := va_S.rf
  clear hAe
  unfold wp_X4_sweeps at hF
  refine lv_aload_n hx hb dX4_sweeps_0 rfl (lv_at hl 0 rfl) ?_
  refine lv_iconst (v := 0) hx hb dX4_sweeps_1 (by decide) ?_
  refine va_put (D := (dC, dI)) (ci := 4) (v := .int 0) (ty := .int) (C := RX4) (T := TX4) (N := 19) hx hb hts in_X4 tyX4 tyX4_ok nmX4 hown hK.1 hP hD hS 0 rfl rfl 18 (by decide) (hts _ q968) (fun _ h9 => h9) rfl (by decide +kernel) rfl rfl (Nat.le_of_ble_eq_true rfl) dX4_sweeps_2 (fun H locs hP hD hS => ?_)
  have hP : va_P (dC, dI) classes (wC h cy (sI σ.1 5 0) ++ (wl ad cy (z 0) (h 20) σ.2.1 ++ (wl ad cy (z 0) (h 21) σ.2.2.1 ++ (wl ad cy (z 0) (h 22) σ.2.2.2.1 ++ wS h cy σ.2.2.2.2)))) H := hP
  have hD : va_D A (wC h cy (sI σ.1 5 0) ++ (wl ad cy (z 0) (h 20) σ.2.1 ++ (wl ad cy (z 0) (h 21) σ.2.2.1 ++ (wl ad cy (z 0) (h 22) σ.2.2.2.1 ++ wS h cy σ.2.2.2.2)))) := hD
  refine lv_iconst (v := 0) hx hb dX4_sweeps_5 (by decide) ?_
  refine lv_istore_n (lv' := [(1, .int 0), (0, .ref (h 0))]) hx hb dX4_sweeps_6 rfl hl (by decide) rfl (fun ls hl => ?_)
  refine lv_iconst (v := 0) hx hb dX4_sweeps_7 (by decide) ?_
  refine lv_istore_n (lv' := [(2, .int 0), (1, .int 0), (0, .ref (h 0))]) hx hb dX4_sweeps_8 rfl hl (by decide) rfl (fun ls hl => ?_)
  have hX9 : ∀ (v1_87 : Int32), (fun (v1_87 : Int32) => (P v1_87 (sI σ.1 5 0, σ.2.1, σ.2.2.1, σ.2.2.2.1, σ.2.2.2.2))) v1_87 → ∀ (H : Heap) (locs : List Loc), va_P (dC, dI) classes (wC h cy (sI σ.1 5 0) ++ (wl ad cy (z 0) (h 20) σ.2.1 ++ (wl ad cy (z 0) (h 21) σ.2.2.1 ++ (wl ad cy (z 0) (h 22) σ.2.2.2.1 ++ wS h cy σ.2.2.2.2)))) H → va_D A (wC h cy (sI σ.1 5 0) ++ (wl ad cy (z 0) (h 20) σ.2.1 ++ (wl ad cy (z 0) (h 21) σ.2.2.1 ++ (wl ad cy (z 0) (h 22) σ.2.2.2.1 ++ wS h cy σ.2.2.2.2)))) → va_S A s.heap H locs → ∀ (ls : Array Slot), lv_has ls 3 [(1, .int v1_87)] → W p l e ({ frames := 3, cells := 0, slots := 0, locals := 64 } : Room) s m ([.ref (h 0)] : List Value).toArray below meth c H locs 0 0 (MQ below (va_Qi (fun r u => P r u) (fun (u : FX) t => va_P (dC, dI) classes (wC h cy u.1 ++ (wl ad cy (z 0) (h 20) u.2.1 ++ (wl ad cy (z 0) (h 21) u.2.2.1 ++ (wl ad cy (z 0) (h 22) u.2.2.2.1 ++ wS h cy u.2.2.2.2)))) t.heap ∧ va_D A (wC h cy u.1 ++ (wl ad cy (z 0) (h 20) u.2.1 ++ (wl ad cy (z 0) (h 21) u.2.2.1 ++ (wl ad cy (z 0) (h 22) u.2.2.2.1 ++ wS h cy u.2.2.2.2))))) A) ([.ref (h 0)] : List Value).toArray s 0 0 A) (F0 m 87 ls []) := by
    intro v1_87 hF H locs hP hD hS ls hl
    refine lv_iload_n hx hb dX4_sweeps_87 rfl (lv_at hl 0 rfl) ?_
    exact W.iret (v := v1_87) hx hb hr (fun t ht hW => ⟨⟨v1_87, (sI σ.1 5 0, σ.2.1, σ.2.2.1, σ.2.2.2.1, σ.2.2.2.2), rfl, hF, by rw [ht]; exact hP, hD⟩, hS.F ht⟩) hS.2.2 dX4_sweeps_88
  have hL9 : ∀ (K9 : Int32 → Prop), (∀ (v1_87 : Int32), K9 v1_87 → ∀ (H : Heap) (locs : List Loc), va_P (dC, dI) classes (wC h cy (sI σ.1 5 0) ++ (wl ad cy (z 0) (h 20) σ.2.1 ++ (wl ad cy (z 0) (h 21) σ.2.2.1 ++ (wl ad cy (z 0) (h 22) σ.2.2.2.1 ++ wS h cy σ.2.2.2.2)))) H → va_D A (wC h cy (sI σ.1 5 0) ++ (wl ad cy (z 0) (h 20) σ.2.1 ++ (wl ad cy (z 0) (h 21) σ.2.2.1 ++ (wl ad cy (z 0) (h 22) σ.2.2.2.1 ++ wS h cy σ.2.2.2.2)))) → va_S A s.heap H locs → ∀ (ls : Array Slot), lv_has ls 3 [(1, .int v1_87)] → W p l e ({ frames := 3, cells := 0, slots := 0, locals := 64 } : Room) s m ([.ref (h 0)] : List Value).toArray below meth c H locs 0 0 (MQ below (va_Qi (fun r u => P r u) (fun (u : FX) t => va_P (dC, dI) classes (wC h cy u.1 ++ (wl ad cy (z 0) (h 20) u.2.1 ++ (wl ad cy (z 0) (h 21) u.2.2.1 ++ (wl ad cy (z 0) (h 22) u.2.2.2.1 ++ wS h cy u.2.2.2.2)))) t.heap ∧ va_D A (wC h cy u.1 ++ (wl ad cy (z 0) (h 20) u.2.1 ++ (wl ad cy (z 0) (h 21) u.2.2.1 ++ (wl ad cy (z 0) (h 22) u.2.2.2.1 ++ wS h cy u.2.2.2.2))))) A) ([.ref (h 0)] : List Value).toArray s 0 0 A) (F0 m 87 ls [])) → ∀ (nn : Nat), ∀ (v2_9 : Int32), ∀ (v1_9 : Int32), wp_X4_sweeps_L9 σ K9 nn v2_9 v1_9 → ∀ (H : Heap) (locs : List Loc), va_P (dC, dI) classes (wC h cy (sI σ.1 5 0) ++ (wl ad cy (z 0) (h 20) σ.2.1 ++ (wl ad cy (z 0) (h 21) σ.2.2.1 ++ (wl ad cy (z 0) (h 22) σ.2.2.2.1 ++ wS h cy σ.2.2.2.2)))) H → va_D A (wC h cy (sI σ.1 5 0) ++ (wl ad cy (z 0) (h 20) σ.2.1 ++ (wl ad cy (z 0) (h 21) σ.2.2.1 ++ (wl ad cy (z 0) (h 22) σ.2.2.2.1 ++ wS h cy σ.2.2.2.2)))) → va_S A s.heap H locs → ∀ (ls : Array Slot), lv_has ls 3 [(2, .int v2_9), (1, .int v1_9), (0, .ref (h 0))] → W p l e ({ frames := 3, cells := 0, slots := 0, locals := 64 } : Room) s m ([.ref (h 0)] : List Value).toArray below meth c H locs 0 0 (MQ below (va_Qi (fun r u => P r u) (fun (u : FX) t => va_P (dC, dI) classes (wC h cy u.1 ++ (wl ad cy (z 0) (h 20) u.2.1 ++ (wl ad cy (z 0) (h 21) u.2.2.1 ++ (wl ad cy (z 0) (h 22) u.2.2.2.1 ++ wS h cy u.2.2.2.2)))) t.heap ∧ va_D A (wC h cy u.1 ++ (wl ad cy (z 0) (h 20) u.2.1 ++ (wl ad cy (z 0) (h 21) u.2.2.1 ++ (wl ad cy (z 0) (h 22) u.2.2.2.1 ++ wS h cy u.2.2.2.2))))) A) ([.ref (h 0)] : List Value).toArray s 0 0 A) (F0 m 9 ls []) := by
    intro K9 hX9 nn
    induction nn with
    | zero =>
      intro v2_9 v1_9 hF
      exact hF.elim
    | succ nn ih =>
      intro v2_9 v1_9 hF H locs hP hD hS ls hl
      obtain ⟨rec9, hrec⟩ : ∃ z : Int32 → Int32 → Prop, z = wp_X4_sweeps_L9 σ K9 nn := ⟨_, rfl⟩
      have hF : wp_X4_sweeps_B9 σ K9 rec9 v2_9 v1_9 := by rw [hrec]; exact hF
      rw [← hrec] at ih
      clear hrec
      unfold wp_X4_sweeps_B9 at hF
      refine lv_iload_n hx hb dX4_sweeps_9 rfl (lv_at hl 0 rfl) ?_
      refine lv_aload_n hx hb dX4_sweeps_10 rfl (lv_at hl 2 rfl) ?_
      refine va_get (D := (dC, dI)) (ci := 4) (v := .ref (h 20)) (C := RX4) (T := TX4) (N := 19) hx hb hts in_X4 hown hK.1 hP 0 rfl rfl 6 (by decide) (hts _ q956) (fun _ h9 => h9) rfl dX4_sweeps_11 ?_
      have hU := hF.1
      have hF := hF.2
      refine lsSize (fp1 _ _ _) ⟨hx, hb, hr, hml, hown, hts, hlocks⟩ hK hP hU q1350 ⟨Nat.le_of_ble_eq_true rfl, Nat.le_of_ble_eq_true rfl⟩ hl.1 (Nat.le_of_ble_eq_true rfl) dX4_sweeps_14 ⟨Nat.le_of_ble_eq_true rfl, Nat.le_of_ble_eq_true rfl⟩ ?_
      refine lv_icmp_ge (tgt := 87) hx hb dX4_sweeps_19 (by decide) (fun cz => ?_) (fun cz => ?_)
      · have hF := hF.1 cz
        exact hX9 v1_9 hF _ _ hP hD hS _ (lv_sub hl [1] rfl)
      · have hF := hF.2 cz
        refine lv_iload_n hx hb dX4_sweeps_22 rfl (lv_at hl 1 rfl) ?_
        refine lv_iload_n hx hb dX4_sweeps_23 rfl (lv_at hl 0 rfl) ?_
        have hJ79 : ∀ (t1_79 : Int32), wp_X4_sweeps_J79 rec9 v2_9 v1_9 t1_79 → ∀ (H : Heap) (locs : List Loc), va_P (dC, dI) classes (wC h cy (sI σ.1 5 0) ++ (wl ad cy (z 0) (h 20) σ.2.1 ++ (wl ad cy (z 0) (h 21) σ.2.2.1 ++ (wl ad cy (z 0) (h 22) σ.2.2.2.1 ++ wS h cy σ.2.2.2.2)))) H → va_D A (wC h cy (sI σ.1 5 0) ++ (wl ad cy (z 0) (h 20) σ.2.1 ++ (wl ad cy (z 0) (h 21) σ.2.2.1 ++ (wl ad cy (z 0) (h 22) σ.2.2.2.1 ++ wS h cy σ.2.2.2.2)))) → va_S A s.heap H locs → ∀ (ls : Array Slot), lv_has ls 3 [(2, .int v2_9), (0, .ref (h 0))] → W p l e ({ frames := 3, cells := 0, slots := 0, locals := 64 } : Room) s m ([.ref (h 0)] : List Value).toArray below meth c H locs 0 0 (MQ below (va_Qi (fun r u => P r u) (fun (u : FX) t => va_P (dC, dI) classes (wC h cy u.1 ++ (wl ad cy (z 0) (h 20) u.2.1 ++ (wl ad cy (z 0) (h 21) u.2.2.1 ++ (wl ad cy (z 0) (h 22) u.2.2.2.1 ++ wS h cy u.2.2.2.2)))) t.heap ∧ va_D A (wC h cy u.1 ++ (wl ad cy (z 0) (h 20) u.2.1 ++ (wl ad cy (z 0) (h 21) u.2.2.1 ++ (wl ad cy (z 0) (h 22) u.2.2.2.1 ++ wS h cy u.2.2.2.2))))) A) ([.ref (h 0)] : List Value).toArray s 0 0 A) (F0 m 79 ls [.int t1_79, .int v1_9]) := by
          intro t1_79 hF H locs hP hD hS ls hl
          unfold wp_X4_sweeps_J79 at hF
          refine lv_iadd hx hb dX4_sweeps_79 ?_
          refine lv_istore_n (lv' := [(1, .int (v1_9 + t1_79)), (2, .int v2_9), (0, .ref (h 0))]) hx hb dX4_sweeps_80 rfl hl (by decide) rfl (fun ls hl => ?_)
          refine lv_iinc (v := v2_9 + 1) (lv' := [(2, .int (v2_9 + 1)), (1, .int (v1_9 + t1_79)), (0, .ref (h 0))]) hx hb dX4_sweeps_81 hl (k := 1) rfl (by rfl) (by decide) rfl (fun ls hl => ?_)
          refine lv_goto (tgt := 9) hx hb dX4_sweeps_84 (by decide) ?_
          exact ih (v2_9 + 1) (v1_9 + t1_79) hF _ _ hP hD hS _ (lv_sub hl [0, 1, 2] rfl)
        have hJ74 : wp_X4_sweeps_J74 rec9 v2_9 v1_9 → ∀ (H : Heap) (locs : List Loc), va_P (dC, dI) classes (wC h cy (sI σ.1 5 0) ++ (wl ad cy (z 0) (h 20) σ.2.1 ++ (wl ad cy (z 0) (h 21) σ.2.2.1 ++ (wl ad cy (z 0) (h 22) σ.2.2.2.1 ++ wS h cy σ.2.2.2.2)))) H → va_D A (wC h cy (sI σ.1 5 0) ++ (wl ad cy (z 0) (h 20) σ.2.1 ++ (wl ad cy (z 0) (h 21) σ.2.2.1 ++ (wl ad cy (z 0) (h 22) σ.2.2.2.1 ++ wS h cy σ.2.2.2.2)))) → va_S A s.heap H locs → ∀ (ls : Array Slot), lv_has ls 3 [(2, .int v2_9), (0, .ref (h 0))] → W p l e ({ frames := 3, cells := 0, slots := 0, locals := 64 } : Room) s m ([.ref (h 0)] : List Value).toArray below meth c H locs 0 0 (MQ below (va_Qi (fun r u => P r u) (fun (u : FX) t => va_P (dC, dI) classes (wC h cy u.1 ++ (wl ad cy (z 0) (h 20) u.2.1 ++ (wl ad cy (z 0) (h 21) u.2.2.1 ++ (wl ad cy (z 0) (h 22) u.2.2.2.1 ++ wS h cy u.2.2.2.2)))) t.heap ∧ va_D A (wC h cy u.1 ++ (wl ad cy (z 0) (h 20) u.2.1 ++ (wl ad cy (z 0) (h 21) u.2.2.1 ++ (wl ad cy (z 0) (h 22) u.2.2.2.1 ++ wS h cy u.2.2.2.2))))) A) ([.ref (h 0)] : List Value).toArray s 0 0 A) (F0 m 74 ls [.int v1_9]) := by
          intro hF H locs hP hD hS ls hl
          unfold wp_X4_sweeps_J74 at hF
          refine lv_iconst (v := 1) hx hb dX4_sweeps_74 (by decide) ?_
          refine lv_goto (tgt := 79) hx hb dX4_sweeps_75 (by decide) ?_
          exact hJ79 1 hF _ _ hP hD hS _ (lv_sub hl [0, 1] rfl)
        refine lv_if_eq (tgt := 74) hx hb dX4_sweeps_24 (by decide) (fun cz => ?_) (fun cz => ?_)
        · have hF := hF.1 cz
          exact hJ74 hF _ _ hP hD hS _ (lv_sub hl [0, 2] rfl)
        · have hF := hF.2 cz
          refine lv_aload_n hx hb dX4_sweeps_27 rfl (lv_at hl 2 rfl) ?_
          refine va_get (D := (dC, dI)) (ci := 4) (v := .ref (h 4)) (C := RX4) (T := TX4) (N := 19) hx hb hts in_X4 hown hK.1 hP 0 rfl rfl 3 (by decide) (hts _ q953) (fun _ h9 => h9) rfl dX4_sweeps_28 ?_
          refine lv_aload_n hx hb dX4_sweeps_31 rfl (lv_at hl 2 rfl) ?_
          refine va_get (D := (dC, dI)) (ci := 4) (v := .ref (h 20)) (C := RX4) (T := TX4) (N := 19) hx hb hts in_X4 hown hK.1 hP 0 rfl rfl 6 (by decide) (hts _ q956) (fun _ h9 => h9) rfl dX4_sweeps_32 ?_
          refine lv_iload_n hx hb dX4_sweeps_35 rfl (lv_at hl 0 rfl) ?_
          have hU := hF.1
          have hF := hF.2
          have hI := hF.1
          have hF := hF.2
          have hB36 : σ.2.1.2.2.2.2.1 v2_9.toNatClampNeg < 128 := hU.2.1 _ (vp_in_lt hI)
          refine lsGet (fp1 _ _ _) ⟨hx, hb, hr, hml, hown, hts, hlocks⟩ hK hP hU hI q1390 ⟨Nat.le_of_ble_eq_true rfl, Nat.le_of_ble_eq_true rfl⟩ hl.1 (Nat.le_of_ble_eq_true rfl) dX4_sweeps_36 ⟨Nat.le_of_ble_eq_true rfl, Nat.le_of_ble_eq_true rfl⟩ ?_
          refine va_castE hx hb hown (hts _ q1376) (box_at hZ.1 hS (by have := hB36; omega)) dX4_sweeps_41 ?_
          refine czVi ⟨hx, hb, hr, hml, hown, hts, hlocks⟩ hZ.1 hS (by have := hB36; omega) (m_J6_intValue_8abf5 l (z 0) (z 1) ad (σ.2.1.2.2.2.2.1 v2_9.toNatClampNeg) hB36) k_J6_intValue_8abf5 q1377 ⟨rfl, rfl⟩ ⟨Nat.le_of_ble_eq_true rfl, Nat.le_of_ble_eq_true rfl⟩ hl.1 (Nat.le_of_ble_eq_true rfl) dX4_sweeps_44 ⟨Nat.le_of_ble_eq_true rfl, Nat.le_of_ble_eq_true rfl⟩ (fun r9 hr9 => ?_)
          rw [hr9]
          have hI := hF.1
          have hF := hF.2
          refine va_iald hx hb hK.1 hP 4 0 rfl rfl hI dX4_sweeps_47 ?_
          refine lv_aload_n hx hb dX4_sweeps_48 rfl (lv_at hl 2 rfl) ?_
          refine va_get (D := (dC, dI)) (ci := 4) (v := .ref (h 6)) (C := RX4) (T := TX4) (N := 19) hx hb hts in_X4 hown hK.1 hP 0 rfl rfl 5 (by decide) (hts _ q955) (fun _ h9 => h9) rfl dX4_sweeps_49 ?_
          refine lv_aload_n hx hb dX4_sweeps_52 rfl (lv_at hl 2 rfl) ?_
          refine va_get (D := (dC, dI)) (ci := 4) (v := .ref (h 20)) (C := RX4) (T := TX4) (N := 19) hx hb hts in_X4 hown hK.1 hP 0 rfl rfl 6 (by decide) (hts _ q956) (fun _ h9 => h9) rfl dX4_sweeps_53 ?_
          refine lv_iload_n hx hb dX4_sweeps_56 rfl (lv_at hl 0 rfl) ?_
          refine lv_iconst (v := 1) hx hb dX4_sweeps_57 (by decide) ?_
          refine lv_isub hx hb dX4_sweeps_58 ?_
          have hU := hF.1
          have hF := hF.2
          have hI := hF.1
          have hF := hF.2
          have hB59 : σ.2.1.2.2.2.2.1 (v2_9 - 1).toNatClampNeg < 128 := hU.2.1 _ (vp_in_lt hI)
          refine lsGet (fp1 _ _ _) ⟨hx, hb, hr, hml, hown, hts, hlocks⟩ hK hP hU hI q1390 ⟨Nat.le_of_ble_eq_true rfl, Nat.le_of_ble_eq_true rfl⟩ hl.1 (Nat.le_of_ble_eq_true rfl) dX4_sweeps_59 ⟨Nat.le_of_ble_eq_true rfl, Nat.le_of_ble_eq_true rfl⟩ ?_
          refine va_castE hx hb hown (hts _ q1376) (box_at hZ.1 hS (by have := hB59; omega)) dX4_sweeps_64 ?_
          refine czVi ⟨hx, hb, hr, hml, hown, hts, hlocks⟩ hZ.1 hS (by have := hB59; omega) (m_J6_intValue_8abf5 l (z 0) (z 1) ad (σ.2.1.2.2.2.2.1 (v2_9 - 1).toNatClampNeg) hB59) k_J6_intValue_8abf5 q1377 ⟨rfl, rfl⟩ ⟨Nat.le_of_ble_eq_true rfl, Nat.le_of_ble_eq_true rfl⟩ hl.1 (Nat.le_of_ble_eq_true rfl) dX4_sweeps_67 ⟨Nat.le_of_ble_eq_true rfl, Nat.le_of_ble_eq_true rfl⟩ (fun r9 hr9 => ?_)
          rw [hr9]
          have hI := hF.1
          have hF := hF.2
          refine va_iald hx hb hK.1 hP 6 0 rfl rfl hI dX4_sweeps_70 ?_
          refine lv_icmp_eq (tgt := 78) hx hb dX4_sweeps_71 (by decide) (fun cz => ?_) (fun cz => ?_)
          · have hF := hF.1 cz
            refine lv_iconst (v := 0) hx hb dX4_sweeps_78 (by decide) ?_
            exact hJ79 0 hF _ _ hP hD hS _ (lv_sub hl [0, 2] rfl)
          · have hF := hF.2 cz
            exact hJ74 hF _ _ hP hD hS _ (lv_sub hl [0, 2] rfl)
  exact hL9 _ hX9 fu 0 0 hF _ _ hP hD hS _ (lv_sub hl [0, 1, 2] rfl)
theorem dX4_sweep_0 : decode cX4_sweep 0 = .ok (.iconst 0, 1) := by decide +kernel
theorem dX4_sweep_1 : decode cX4_sweep 1 = .ok (.istore_n 1, 1) := by decide +kernel
theorem dX4_sweep_2 : decode cX4_sweep 2 = .ok (.iload_n 1, 1) := by decide +kernel
theorem dX4_sweep_3 : decode cX4_sweep 3 = .ok (.aload_n 0, 1) := by decide +kernel
theorem dX4_sweep_4 : decode cX4_sweep 4 = .ok (.getfield 64, 3) := by decide +kernel
theorem dX4_sweep_7 : decode cX4_sweep 7 = .ok (.if_icmp .gt 159, 3) := by decide +kernel
theorem dX4_sweep_10 : decode cX4_sweep 10 = .ok (.iconst 0, 1) := by decide +kernel
theorem dX4_sweep_11 : decode cX4_sweep 11 = .ok (.istore_n 2, 1) := by decide +kernel
theorem dX4_sweep_12 : decode cX4_sweep 12 = .ok (.iload_n 2, 1) := by decide +kernel
theorem dX4_sweep_13 : decode cX4_sweep 13 = .ok (.iconst 1, 1) := by decide +kernel
theorem dX4_sweep_14 : decode cX4_sweep 14 = .ok (.aload_n 0, 1) := by decide +kernel
theorem dX4_sweep_15 : decode cX4_sweep 15 = .ok (.getfield 64, 3) := by decide +kernel
theorem dX4_sweep_18 : decode cX4_sweep 18 = .ok (.ishl, 1) := by decide +kernel
theorem dX4_sweep_19 : decode cX4_sweep 19 = .ok (.if_icmp .ge 141, 3) := by decide +kernel
theorem dX4_sweep_22 : decode cX4_sweep 22 = .ok (.iconst 0, 1) := by decide +kernel
theorem dX4_sweep_23 : decode cX4_sweep 23 = .ok (.istore_n 3, 1) := by decide +kernel
theorem dX4_sweep_24 : decode cX4_sweep 24 = .ok (.iload_n 3, 1) := by decide +kernel
theorem dX4_sweep_25 : decode cX4_sweep 25 = .ok (.bipush 10, 2) := by decide +kernel
theorem dX4_sweep_27 : decode cX4_sweep 27 = .ok (.if_icmp .gt 127, 3) := by decide +kernel
theorem dX4_sweep_30 : decode cX4_sweep 30 = .ok (.iload_n 2, 1) := by decide +kernel
theorem dX4_sweep_31 : decode cX4_sweep 31 = .ok (.invokestatic 179, 3) := by decide +kernel
theorem dX4_sweep_34 : decode cX4_sweep 34 = .ok (.iload_n 1, 1) := by decide +kernel
theorem dX4_sweep_35 : decode cX4_sweep 35 = .ok (.if_icmp .eq 6, 3) := by decide +kernel
theorem dX4_sweep_38 : decode cX4_sweep 38 = .ok (.goto 110, 3) := by decide +kernel
theorem dX4_sweep_41 : decode cX4_sweep 41 = .ok (.aload_n 0, 1) := by decide +kernel
theorem dX4_sweep_42 : decode cX4_sweep 42 = .ok (.getfield 54, 3) := by decide +kernel
theorem dX4_sweep_45 : decode cX4_sweep 45 = .ok (.iload_n 2, 1) := by decide +kernel
theorem dX4_sweep_46 : decode cX4_sweep 46 = .ok (.aaload, 1) := by decide +kernel
theorem dX4_sweep_47 : decode cX4_sweep 47 = .ok (.iload_n 3, 1) := by decide +kernel
theorem dX4_sweep_48 : decode cX4_sweep 48 = .ok (.iload_n 2, 1) := by decide +kernel
theorem dX4_sweep_49 : decode cX4_sweep 49 = .ok (.aload_n 0, 1) := by decide +kernel
theorem dX4_sweep_50 : decode cX4_sweep 50 = .ok (.getfield 114, 3) := by decide +kernel
theorem dX4_sweep_53 : decode cX4_sweep 53 = .ok (.if_icmp .ne 7, 3) := by decide +kernel
theorem dX4_sweep_56 : decode cX4_sweep 56 = .ok (.iconst 0, 1) := by decide +kernel
theorem dX4_sweep_57 : decode cX4_sweep 57 = .ok (.goto 6, 3) := by decide +kernel
theorem dX4_sweep_60 : decode cX4_sweep 60 = .ok (.sipush 1000, 3) := by decide +kernel
theorem dX4_sweep_63 : decode cX4_sweep 63 = .ok (.iastore, 1) := by decide +kernel
theorem dX4_sweep_64 : decode cX4_sweep 64 = .ok (.iconst 0, 1) := by decide +kernel
theorem dX4_sweep_65 : decode cX4_sweep 65 = .ok (.istore 4, 2) := by decide +kernel
theorem dX4_sweep_67 : decode cX4_sweep 67 = .ok (.iload 4, 2) := by decide +kernel
theorem dX4_sweep_69 : decode cX4_sweep 69 = .ok (.aload_n 0, 1) := by decide +kernel
theorem dX4_sweep_70 : decode cX4_sweep 70 = .ok (.getfield 71, 3) := by decide +kernel
theorem dX4_sweep_73 : decode cX4_sweep 73 = .ok (.if_icmp .ge 75, 3) := by decide +kernel
theorem dX4_sweep_76 : decode cX4_sweep 76 = .ok (.aload_n 0, 1) := by decide +kernel
theorem dX4_sweep_77 : decode cX4_sweep 77 = .ok (.iload_n 2, 1) := by decide +kernel
theorem dX4_sweep_78 : decode cX4_sweep 78 = .ok (.iload 4, 2) := by decide +kernel
theorem dX4_sweep_80 : decode cX4_sweep 80 = .ok (.invokevirtual 159, 3) := by decide +kernel
theorem dX4_sweep_83 : decode cX4_sweep 83 = .ok (.ifCond .eq 59, 3) := by decide +kernel
theorem dX4_sweep_86 : decode cX4_sweep 86 = .ok (.aload_n 0, 1) := by decide +kernel
theorem dX4_sweep_87 : decode cX4_sweep 87 = .ok (.getfield 54, 3) := by decide +kernel
theorem dX4_sweep_90 : decode cX4_sweep 90 = .ok (.iload_n 2, 1) := by decide +kernel
theorem dX4_sweep_91 : decode cX4_sweep 91 = .ok (.aaload, 1) := by decide +kernel
theorem dX4_sweep_92 : decode cX4_sweep 92 = .ok (.iload_n 3, 1) := by decide +kernel
theorem dX4_sweep_93 : decode cX4_sweep 93 = .ok (.aload_n 0, 1) := by decide +kernel
theorem dX4_sweep_94 : decode cX4_sweep 94 = .ok (.getfield 54, 3) := by decide +kernel
theorem dX4_sweep_97 : decode cX4_sweep 97 = .ok (.iload_n 2, 1) := by decide +kernel
theorem dX4_sweep_98 : decode cX4_sweep 98 = .ok (.aaload, 1) := by decide +kernel
theorem dX4_sweep_99 : decode cX4_sweep 99 = .ok (.iload_n 3, 1) := by decide +kernel
theorem dX4_sweep_100 : decode cX4_sweep 100 = .ok (.iaload, 1) := by decide +kernel
theorem dX4_sweep_101 : decode cX4_sweep 101 = .ok (.aload_n 0, 1) := by decide +kernel
theorem dX4_sweep_102 : decode cX4_sweep 102 = .ok (.getfield 54, 3) := by decide +kernel
theorem dX4_sweep_105 : decode cX4_sweep 105 = .ok (.aload_n 0, 1) := by decide +kernel
theorem dX4_sweep_106 : decode cX4_sweep 106 = .ok (.iload_n 2, 1) := by decide +kernel
theorem dX4_sweep_107 : decode cX4_sweep 107 = .ok (.iload 4, 2) := by decide +kernel
theorem dX4_sweep_109 : decode cX4_sweep 109 = .ok (.invokevirtual 166, 3) := by decide +kernel
theorem dX4_sweep_112 : decode cX4_sweep 112 = .ok (.aaload, 1) := by decide +kernel
theorem dX4_sweep_113 : decode cX4_sweep 113 = .ok (.aload_n 0, 1) := by decide +kernel
theorem dX4_sweep_114 : decode cX4_sweep 114 = .ok (.getfield 25, 3) := by decide +kernel
theorem dX4_sweep_117 : decode cX4_sweep 117 = .ok (.iload 4, 2) := by decide +kernel
theorem dX4_sweep_119 : decode cX4_sweep 119 = .ok (.iaload, 1) := by decide +kernel
theorem dX4_sweep_120 : decode cX4_sweep 120 = .ok (.iaload, 1) := by decide +kernel
theorem dX4_sweep_121 : decode cX4_sweep 121 = .ok (.aload_n 0, 1) := by decide +kernel
theorem dX4_sweep_122 : decode cX4_sweep 122 = .ok (.getfield 19, 3) := by decide +kernel
theorem dX4_sweep_125 : decode cX4_sweep 125 = .ok (.iload 4, 2) := by decide +kernel
theorem dX4_sweep_127 : decode cX4_sweep 127 = .ok (.iaload, 1) := by decide +kernel
theorem dX4_sweep_128 : decode cX4_sweep 128 = .ok (.iload_n 3, 1) := by decide +kernel
theorem dX4_sweep_129 : decode cX4_sweep 129 = .ok (.if_icmp .ne 7, 3) := by decide +kernel
theorem dX4_sweep_132 : decode cX4_sweep 132 = .ok (.iconst 0, 1) := by decide +kernel
theorem dX4_sweep_133 : decode cX4_sweep 133 = .ok (.goto 4, 3) := by decide +kernel
theorem dX4_sweep_136 : decode cX4_sweep 136 = .ok (.iconst 1, 1) := by decide +kernel
theorem dX4_sweep_137 : decode cX4_sweep 137 = .ok (.iadd, 1) := by decide +kernel
theorem dX4_sweep_138 : decode cX4_sweep 138 = .ok (.invokestatic 154, 3) := by decide +kernel
theorem dX4_sweep_141 : decode cX4_sweep 141 = .ok (.iastore, 1) := by decide +kernel
theorem dX4_sweep_142 : decode cX4_sweep 142 = .ok (.iinc 4 1, 3) := by decide +kernel
theorem dX4_sweep_145 : decode cX4_sweep 145 = .ok (.goto (-78), 3) := by decide +kernel
theorem dX4_sweep_148 : decode cX4_sweep 148 = .ok (.iinc 3 1, 3) := by decide +kernel
theorem dX4_sweep_151 : decode cX4_sweep 151 = .ok (.goto (-127), 3) := by decide +kernel
theorem dX4_sweep_154 : decode cX4_sweep 154 = .ok (.iinc 2 1, 3) := by decide +kernel
theorem dX4_sweep_157 : decode cX4_sweep 157 = .ok (.goto (-145), 3) := by decide +kernel
theorem dX4_sweep_160 : decode cX4_sweep 160 = .ok (.iinc 1 1, 3) := by decide +kernel
theorem dX4_sweep_163 : decode cX4_sweep 163 = .ok (.goto (-161), 3) := by decide +kernel
theorem dX4_sweep_166 : decode cX4_sweep 166 = .ok (.return_, 1) := by decide +kernel
def wp_X4_sweep_J148 (rec24 : Int32 → FX → Prop) (v3_24 : Int32) (s_148 : FX) : Prop := (rec24 (v3_24 + 1) s_148)
def wp_X4_sweep_J142 (rec67 : Int32 → FX → Prop) (v4_67 : Int32) (s_142 : FX) : Prop := (rec67 (v4_67 + 1) s_142)
def wp_X4_sweep_J137 (v2_12 : Int32) (v3_24 : Int32) (rec67 : Int32 → FX → Prop) (v4_67 : Int32) (s_67 : FX) (r109 : Int32) (t4_137 : Int32) : Prop := ((vp_in v2_12 1024 ∧ vp_in v3_24 11) ∧ (wp_X4_sweep_J142 rec67 v4_67 (s_67.1, s_67.2.1, s_67.2.2.1, s_67.2.2.2.1, upS s_67.2.2.2.2 (v2_12.toNatClampNeg) (v3_24.toNatClampNeg) (jmin (s_67.2.2.2.2 (v2_12.toNatClampNeg) v3_24.toNatClampNeg) ((s_67.2.2.2.2 (r109.toNatClampNeg) ((s_67.1.2.1 5) v4_67.toNatClampNeg).toNatClampNeg) + t4_137)))))
def wp_X4_sweep_B67 (v2_12 : Int32) (v3_24 : Int32) (K67 : FX → Prop) (rec67 : Int32 → FX → Prop) (v4_67 : Int32) (s_67 : FX) : Prop := (((s_67.1.1 1) ≤ v4_67 → (K67 s_67)) ∧ (¬ (s_67.1.1 1) ≤ v4_67 → (wp_X4_can s_67.1 v2_12 v4_67 (fun r80 => ((r80 = 0 → (wp_X4_sweep_J142 rec67 v4_67 s_67)) ∧ (¬ r80 = 0 → (vp_in v2_12 1024 ∧ (vp_in v2_12 1024 ∧ ((vp_in v2_12 1024 ∧ vp_in v3_24 11) ∧ (wp_X4_behind s_67.1 v2_12 v4_67 (fun r109 => (vp_in r109 1024 ∧ (vp_in v4_67 104 ∧ ((vp_in r109 1024 ∧ vp_in ((s_67.1.2.1 5) v4_67.toNatClampNeg) 11) ∧ (vp_in v4_67 104 ∧ ((¬ ((s_67.1.2.1 3) v4_67.toNatClampNeg) = v3_24 → (wp_X4_sweep_J137 v2_12 v3_24 rec67 v4_67 s_67 r109 1)) ∧ (((s_67.1.2.1 3) v4_67.toNatClampNeg) = v3_24 → (wp_X4_sweep_J137 v2_12 v3_24 rec67 v4_67 s_67 r109 0))))))))))))))))))
def wp_X4_sweep_L67 (v2_12 : Int32) (v3_24 : Int32) (K67 : FX → Prop) : Nat → Int32 → FX → Prop
  | 0, _, _ => False
  | nn + 1, v4_67, s_67 => wp_X4_sweep_B67 v2_12 v3_24 K67 (wp_X4_sweep_L67 v2_12 v3_24 K67 nn) v4_67 s_67
def wp_X4_sweep_J63 (fu : Nat) (v2_12 : Int32) (rec24 : Int32 → FX → Prop) (v3_24 : Int32) (s_24 : FX) (t2_63 : Int32) : Prop := ((vp_in v2_12 1024 ∧ vp_in v3_24 11) ∧ (wp_X4_sweep_L67 v2_12 v3_24 (fun (s_148 : FX) => (wp_X4_sweep_J148 rec24 v3_24 s_148)) fu 0 (s_24.1, s_24.2.1, s_24.2.2.1, s_24.2.2.2.1, upS s_24.2.2.2.2 (v2_12.toNatClampNeg) (v3_24.toNatClampNeg) t2_63)))
def wp_X4_sweep_B24 (fu : Nat) (v1_2 : Int32) (v2_12 : Int32) (K24 : FX → Prop) (rec24 : Int32 → FX → Prop) (v3_24 : Int32) (s_24 : FX) : Prop := ((10 < v3_24 → (K24 s_24)) ∧ (¬ 10 < v3_24 → (wp_J6_bitCount_0f7a4 v2_12 (fun r31 => ((r31 = v1_2 → (vp_in v2_12 1024 ∧ ((¬ v2_12 = (s_24.1.1 3) → (wp_X4_sweep_J63 fu v2_12 rec24 v3_24 s_24 1000)) ∧ (v2_12 = (s_24.1.1 3) → (wp_X4_sweep_J63 fu v2_12 rec24 v3_24 s_24 0))))) ∧ (¬ r31 = v1_2 → (wp_X4_sweep_J148 rec24 v3_24 s_24)))))))
def wp_X4_sweep_L24 (fu : Nat) (v1_2 : Int32) (v2_12 : Int32) (K24 : FX → Prop) : Nat → Int32 → FX → Prop
  | 0, _, _ => False
  | nn + 1, v3_24, s_24 => wp_X4_sweep_B24 fu v1_2 v2_12 K24 (wp_X4_sweep_L24 fu v1_2 v2_12 K24 nn) v3_24 s_24
def wp_X4_sweep_B12 (fu : Nat) (v1_2 : Int32) (K12 : FX → Prop) (rec12 : Int32 → FX → Prop) (v2_12 : Int32) (s_12 : FX) : Prop := ((((1 : Int32) <<< ((s_12.1.1 0) &&& 31)) ≤ v2_12 → (K12 s_12)) ∧ (¬ ((1 : Int32) <<< ((s_12.1.1 0) &&& 31)) ≤ v2_12 → (wp_X4_sweep_L24 fu v1_2 v2_12 (fun (s_154 : FX) => (rec12 (v2_12 + 1) s_154)) fu 0 s_12)))
def wp_X4_sweep_L12 (fu : Nat) (v1_2 : Int32) (K12 : FX → Prop) : Nat → Int32 → FX → Prop
  | 0, _, _ => False
  | nn + 1, v2_12, s_12 => wp_X4_sweep_B12 fu v1_2 K12 (wp_X4_sweep_L12 fu v1_2 K12 nn) v2_12 s_12
def wp_X4_sweep_B2 (fu : Nat) (K2 : FX → Prop) (rec2 : Int32 → FX → Prop) (v1_2 : Int32) (s_2 : FX) : Prop := (((s_2.1.1 0) < v1_2 → (K2 s_2)) ∧ (¬ (s_2.1.1 0) < v1_2 → (wp_X4_sweep_L12 fu v1_2 (fun (s_160 : FX) => (rec2 (v1_2 + 1) s_160)) fu 0 s_2)))
def wp_X4_sweep_L2 (fu : Nat) (K2 : FX → Prop) : Nat → Int32 → FX → Prop
  | 0, _, _ => False
  | nn + 1, v1_2, s_2 => wp_X4_sweep_B2 fu K2 (wp_X4_sweep_L2 fu K2 nn) v1_2 s_2
def wp_X4_sweep (fu : Nat) (σ : FX) (P : FX → Prop) : Prop := (wp_X4_sweep_L2 fu (fun (s_166 : FX) => (P s_166)) fu 0 σ)
theorem k_X4_sweep : KV RX4 yX4_sweep cX4_sweep 5 none 0 := ⟨q1658, qs48, q5, q1659, by decide +kernel⟩
set_option maxHeartbeats 4000000 in
set_option maxRecDepth 100000 in
theorem m_X4_sweep (l : Launch) (dC : Nat → ClassId) (dI : Nat → Nat → Nat) (h : Nat → Nat) (cy : Nat → ClassId) (z ad : Nat → Nat) (sz : Nat) (fu : Nat) (σ : FX) (P : FX → Prop) (hF : wp_X4_sweep fu σ P) : Met l yX4_sweep (ws_ yX4_sweep cX4_sweep 5 none) ({ frames := 2, cells := 0, slots := 0, locals := 43 } : Room) (va_Pc [.ref (h 0)] (PcF dC dI cy z ad (wC h cy σ.1 ++ (wl ad cy (z 0) (h 20) σ.2.1 ++ (wl ad cy (z 0) (h 21) σ.2.2.1 ++ (wl ad cy (z 0) (h 22) σ.2.2.2.1 ++ wS h cy σ.2.2.2.2)))) sz)) (va_Qv (fun u => P u) (fun (u : FX) t => va_P (dC, dI) classes (wC h cy u.1 ++ (wl ad cy (z 0) (h 20) u.2.1 ++ (wl ad cy (z 0) (h 21) u.2.2.1 ++ (wl ad cy (z 0) (h 22) u.2.2.2.1 ++ wS h cy u.2.2.2.2)))) t.heap ∧ va_D (va_A (wC h cy σ.1 ++ (wl ad cy (z 0) (h 20) σ.2.1 ++ (wl ad cy (z 0) (h 21) σ.2.2.1 ++ (wl ad cy (z 0) (h 22) σ.2.2.2.1 ++ wS h cy σ.2.2.2.2)))) sz) (wC h cy u.1 ++ (wl ad cy (z 0) (h 20) u.2.1 ++ (wl ad cy (z 0) (h 21) u.2.2.1 ++ (wl ad cy (z 0) (h 22) u.2.2.2.1 ++ wS h cy u.2.2.2.2))))) (va_A (wC h cy σ.1 ++ (wl ad cy (z 0) (h 20) σ.2.1 ++ (wl ad cy (z 0) (h 21) σ.2.2.1 ++ (wl ad cy (z 0) (h 22) σ.2.2.2.1 ++ wS h cy σ.2.2.2.2)))) sz)) 0 0 (va_A (wC h cy σ.1 ++ (wl ad cy (z 0) (h 20) σ.2.1 ++ (wl ad cy (z 0) (h 21) σ.2.2.1 ++ (wl ad cy (z 0) (h 22) σ.2.2.2.1 ++ wS h cy σ.2.2.2.2)))) sz) := by
  refine Met.ofCx (own := RX4) (by decide) rfl (Nat.le_of_ble_eq_true rfl) ?_
  intro p e s m below meth c hC hv ls hl
  obtain ⟨hx, hb, hr, hml, hown, hts, hlocks⟩ := hC
  have hl : lv_has ls 5 [(0, .ref (h 0))] := hl
  obtain ⟨hsz, hP, hK, hD0, hZ, hvk⟩ := hv
  subst hsz
  have hD := hD0.self (sz := s.heap.size)
  generalize hAe : va_A (wC h cy σ.1 ++ (wl ad cy (z 0) (h 20) σ.2.1 ++ (wl ad cy (z 0) (h 21) σ.2.2.1 ++ (wl ad cy (z 0) (h 22) σ.2.2.2.1 ++ wS h cy σ.2.2.2.2)))) s.heap.size = A at hD hZ ⊢
  have hA : ∀ q : Nat, s.heap.size ≤ q → A q := fun q h => by rw [← hAe]; exact Or.inr h
  have hS : va_S A s.heap s.heap [] := va_S.rf
  clear hAe
  unfold wp_X4_sweep at hF
  refine lv_iconst (v := 0) hx hb dX4_sweep_0 (by decide) ?_
  refine lv_istore_n (lv' := [(1, .int 0), (0, .ref (h 0))]) hx hb dX4_sweep_1 rfl hl (by decide) rfl (fun ls hl => ?_)
  have hX2 : ∀ (s_166 : FX), (fun (s_166 : FX) => (P s_166)) s_166 → ∀ (H : Heap) (locs : List Loc), va_P (dC, dI) classes (wC h cy s_166.1 ++ (wl ad cy (z 0) (h 20) s_166.2.1 ++ (wl ad cy (z 0) (h 21) s_166.2.2.1 ++ (wl ad cy (z 0) (h 22) s_166.2.2.2.1 ++ wS h cy s_166.2.2.2.2)))) H → va_D A (wC h cy s_166.1 ++ (wl ad cy (z 0) (h 20) s_166.2.1 ++ (wl ad cy (z 0) (h 21) s_166.2.2.1 ++ (wl ad cy (z 0) (h 22) s_166.2.2.2.1 ++ wS h cy s_166.2.2.2.2)))) → va_S A s.heap H locs → ∀ (ls : Array Slot), lv_has ls 5 [] → W p l e ({ frames := 2, cells := 0, slots := 0, locals := 43 } : Room) s m ([.ref (h 0)] : List Value).toArray below meth c H locs 0 0 (MQ below (va_Qv (fun u => P u) (fun (u : FX) t => va_P (dC, dI) classes (wC h cy u.1 ++ (wl ad cy (z 0) (h 20) u.2.1 ++ (wl ad cy (z 0) (h 21) u.2.2.1 ++ (wl ad cy (z 0) (h 22) u.2.2.2.1 ++ wS h cy u.2.2.2.2)))) t.heap ∧ va_D A (wC h cy u.1 ++ (wl ad cy (z 0) (h 20) u.2.1 ++ (wl ad cy (z 0) (h 21) u.2.2.1 ++ (wl ad cy (z 0) (h 22) u.2.2.2.1 ++ wS h cy u.2.2.2.2))))) A) ([.ref (h 0)] : List Value).toArray s 0 0 A) (F0 m 166 ls []) := by
    intro s_166 hF H locs hP hD hS ls hl
    exact W.vret hx hb hr (fun t ht hW => ⟨⟨s_166, rfl, hF, by rw [ht]; exact hP, hD⟩, hS.F ht⟩) hS.2.2 dX4_sweep_166
  have hL2 : ∀ (K2 : FX → Prop), (∀ (s_166 : FX), K2 s_166 → ∀ (H : Heap) (locs : List Loc), va_P (dC, dI) classes (wC h cy s_166.1 ++ (wl ad cy (z 0) (h 20) s_166.2.1 ++ (wl ad cy (z 0) (h 21) s_166.2.2.1 ++ (wl ad cy (z 0) (h 22) s_166.2.2.2.1 ++ wS h cy s_166.2.2.2.2)))) H → va_D A (wC h cy s_166.1 ++ (wl ad cy (z 0) (h 20) s_166.2.1 ++ (wl ad cy (z 0) (h 21) s_166.2.2.1 ++ (wl ad cy (z 0) (h 22) s_166.2.2.2.1 ++ wS h cy s_166.2.2.2.2)))) → va_S A s.heap H locs → ∀ (ls : Array Slot), lv_has ls 5 [] → W p l e ({ frames := 2, cells := 0, slots := 0, locals := 43 } : Room) s m ([.ref (h 0)] : List Value).toArray below meth c H locs 0 0 (MQ below (va_Qv (fun u => P u) (fun (u : FX) t => va_P (dC, dI) classes (wC h cy u.1 ++ (wl ad cy (z 0) (h 20) u.2.1 ++ (wl ad cy (z 0) (h 21) u.2.2.1 ++ (wl ad cy (z 0) (h 22) u.2.2.2.1 ++ wS h cy u.2.2.2.2)))) t.heap ∧ va_D A (wC h cy u.1 ++ (wl ad cy (z 0) (h 20) u.2.1 ++ (wl ad cy (z 0) (h 21) u.2.2.1 ++ (wl ad cy (z 0) (h 22) u.2.2.2.1 ++ wS h cy u.2.2.2.2))))) A) ([.ref (h 0)] : List Value).toArray s 0 0 A) (F0 m 166 ls [])) → ∀ (nn : Nat), ∀ (v1_2 : Int32), ∀ (s_2 : FX), wp_X4_sweep_L2 fu K2 nn v1_2 s_2 → ∀ (H : Heap) (locs : List Loc), va_P (dC, dI) classes (wC h cy s_2.1 ++ (wl ad cy (z 0) (h 20) s_2.2.1 ++ (wl ad cy (z 0) (h 21) s_2.2.2.1 ++ (wl ad cy (z 0) (h 22) s_2.2.2.2.1 ++ wS h cy s_2.2.2.2.2)))) H → va_D A (wC h cy s_2.1 ++ (wl ad cy (z 0) (h 20) s_2.2.1 ++ (wl ad cy (z 0) (h 21) s_2.2.2.1 ++ (wl ad cy (z 0) (h 22) s_2.2.2.2.1 ++ wS h cy s_2.2.2.2.2)))) → va_S A s.heap H locs → ∀ (ls : Array Slot), lv_has ls 5 [(1, .int v1_2), (0, .ref (h 0))] → W p l e ({ frames := 2, cells := 0, slots := 0, locals := 43 } : Room) s m ([.ref (h 0)] : List Value).toArray below meth c H locs 0 0 (MQ below (va_Qv (fun u => P u) (fun (u : FX) t => va_P (dC, dI) classes (wC h cy u.1 ++ (wl ad cy (z 0) (h 20) u.2.1 ++ (wl ad cy (z 0) (h 21) u.2.2.1 ++ (wl ad cy (z 0) (h 22) u.2.2.2.1 ++ wS h cy u.2.2.2.2)))) t.heap ∧ va_D A (wC h cy u.1 ++ (wl ad cy (z 0) (h 20) u.2.1 ++ (wl ad cy (z 0) (h 21) u.2.2.1 ++ (wl ad cy (z 0) (h 22) u.2.2.2.1 ++ wS h cy u.2.2.2.2))))) A) ([.ref (h 0)] : List Value).toArray s 0 0 A) (F0 m 2 ls []) := by
    intro K2 hX2 nn
    induction nn with
    | zero =>
      intro v1_2 s_2 hF
      exact hF.elim
    | succ nn ih =>
      intro v1_2 s_2 hF H locs hP hD hS ls hl
      obtain ⟨rec2, hrec⟩ : ∃ z : Int32 → FX → Prop, z = wp_X4_sweep_L2 fu K2 nn := ⟨_, rfl⟩
      have hF : wp_X4_sweep_B2 fu K2 rec2 v1_2 s_2 := by rw [hrec]; exact hF
      rw [← hrec] at ih
      clear hrec
      unfold wp_X4_sweep_B2 at hF
      refine lv_iload_n hx hb dX4_sweep_2 rfl (lv_at hl 0 rfl) ?_
      refine lv_aload_n hx hb dX4_sweep_3 rfl (lv_at hl 1 rfl) ?_
      refine va_get (D := (dC, dI)) (ci := 4) (v := .int (s_2.1.1 0)) (C := RX4) (T := TX4) (N := 19) hx hb hts in_X4 hown hK.1 hP 0 rfl rfl 13 (by decide) (hts _ q963) (fun _ h9 => h9) rfl dX4_sweep_4 ?_
      refine lv_icmp_gt (tgt := 166) hx hb dX4_sweep_7 (by decide) (fun cz => ?_) (fun cz => ?_)
      · have hF := hF.1 cz
        exact hX2 s_2 hF _ _ hP hD hS _ (lv_sub hl [] rfl)
      · have hF := hF.2 cz
        refine lv_iconst (v := 0) hx hb dX4_sweep_10 (by decide) ?_
        refine lv_istore_n (lv' := [(2, .int 0), (1, .int v1_2), (0, .ref (h 0))]) hx hb dX4_sweep_11 rfl hl (by decide) rfl (fun ls hl => ?_)
        have hX12 : ∀ (s_160 : FX), (fun (s_160 : FX) => (rec2 (v1_2 + 1) s_160)) s_160 → ∀ (H : Heap) (locs : List Loc), va_P (dC, dI) classes (wC h cy s_160.1 ++ (wl ad cy (z 0) (h 20) s_160.2.1 ++ (wl ad cy (z 0) (h 21) s_160.2.2.1 ++ (wl ad cy (z 0) (h 22) s_160.2.2.2.1 ++ wS h cy s_160.2.2.2.2)))) H → va_D A (wC h cy s_160.1 ++ (wl ad cy (z 0) (h 20) s_160.2.1 ++ (wl ad cy (z 0) (h 21) s_160.2.2.1 ++ (wl ad cy (z 0) (h 22) s_160.2.2.2.1 ++ wS h cy s_160.2.2.2.2)))) → va_S A s.heap H locs → ∀ (ls : Array Slot), lv_has ls 5 [(1, .int v1_2), (0, .ref (h 0))] → W p l e ({ frames := 2, cells := 0, slots := 0, locals := 43 } : Room) s m ([.ref (h 0)] : List Value).toArray below meth c H locs 0 0 (MQ below (va_Qv (fun u => P u) (fun (u : FX) t => va_P (dC, dI) classes (wC h cy u.1 ++ (wl ad cy (z 0) (h 20) u.2.1 ++ (wl ad cy (z 0) (h 21) u.2.2.1 ++ (wl ad cy (z 0) (h 22) u.2.2.2.1 ++ wS h cy u.2.2.2.2)))) t.heap ∧ va_D A (wC h cy u.1 ++ (wl ad cy (z 0) (h 20) u.2.1 ++ (wl ad cy (z 0) (h 21) u.2.2.1 ++ (wl ad cy (z 0) (h 22) u.2.2.2.1 ++ wS h cy u.2.2.2.2))))) A) ([.ref (h 0)] : List Value).toArray s 0 0 A) (F0 m 160 ls []) := by
          intro s_160 hF H locs hP hD hS ls hl
          refine lv_iinc (v := v1_2 + 1) (lv' := [(1, .int (v1_2 + 1)), (0, .ref (h 0))]) hx hb dX4_sweep_160 hl (k := 0) rfl (by rfl) (by decide) rfl (fun ls hl => ?_)
          refine lv_goto (tgt := 2) hx hb dX4_sweep_163 (by decide) ?_
          exact ih (v1_2 + 1) s_160 hF _ _ hP hD hS _ (lv_sub hl [0, 1] rfl)
        have hL12 : ∀ (K12 : FX → Prop), (∀ (s_160 : FX), K12 s_160 → ∀ (H : Heap) (locs : List Loc), va_P (dC, dI) classes (wC h cy s_160.1 ++ (wl ad cy (z 0) (h 20) s_160.2.1 ++ (wl ad cy (z 0) (h 21) s_160.2.2.1 ++ (wl ad cy (z 0) (h 22) s_160.2.2.2.1 ++ wS h cy s_160.2.2.2.2)))) H → va_D A (wC h cy s_160.1 ++ (wl ad cy (z 0) (h 20) s_160.2.1 ++ (wl ad cy (z 0) (h 21) s_160.2.2.1 ++ (wl ad cy (z 0) (h 22) s_160.2.2.2.1 ++ wS h cy s_160.2.2.2.2)))) → va_S A s.heap H locs → ∀ (ls : Array Slot), lv_has ls 5 [(1, .int v1_2), (0, .ref (h 0))] → W p l e ({ frames := 2, cells := 0, slots := 0, locals := 43 } : Room) s m ([.ref (h 0)] : List Value).toArray below meth c H locs 0 0 (MQ below (va_Qv (fun u => P u) (fun (u : FX) t => va_P (dC, dI) classes (wC h cy u.1 ++ (wl ad cy (z 0) (h 20) u.2.1 ++ (wl ad cy (z 0) (h 21) u.2.2.1 ++ (wl ad cy (z 0) (h 22) u.2.2.2.1 ++ wS h cy u.2.2.2.2)))) t.heap ∧ va_D A (wC h cy u.1 ++ (wl ad cy (z 0) (h 20) u.2.1 ++ (wl ad cy (z 0) (h 21) u.2.2.1 ++ (wl ad cy (z 0) (h 22) u.2.2.2.1 ++ wS h cy u.2.2.2.2))))) A) ([.ref (h 0)] : List Value).toArray s 0 0 A) (F0 m 160 ls [])) → ∀ (nn : Nat), ∀ (v2_12 : Int32), ∀ (s_12 : FX), wp_X4_sweep_L12 fu v1_2 K12 nn v2_12 s_12 → ∀ (H : Heap) (locs : List Loc), va_P (dC, dI) classes (wC h cy s_12.1 ++ (wl ad cy (z 0) (h 20) s_12.2.1 ++ (wl ad cy (z 0) (h 21) s_12.2.2.1 ++ (wl ad cy (z 0) (h 22) s_12.2.2.2.1 ++ wS h cy s_12.2.2.2.2)))) H → va_D A (wC h cy s_12.1 ++ (wl ad cy (z 0) (h 20) s_12.2.1 ++ (wl ad cy (z 0) (h 21) s_12.2.2.1 ++ (wl ad cy (z 0) (h 22) s_12.2.2.2.1 ++ wS h cy s_12.2.2.2.2)))) → va_S A s.heap H locs → ∀ (ls : Array Slot), lv_has ls 5 [(2, .int v2_12), (1, .int v1_2), (0, .ref (h 0))] → W p l e ({ frames := 2, cells := 0, slots := 0, locals := 43 } : Room) s m ([.ref (h 0)] : List Value).toArray below meth c H locs 0 0 (MQ below (va_Qv (fun u => P u) (fun (u : FX) t => va_P (dC, dI) classes (wC h cy u.1 ++ (wl ad cy (z 0) (h 20) u.2.1 ++ (wl ad cy (z 0) (h 21) u.2.2.1 ++ (wl ad cy (z 0) (h 22) u.2.2.2.1 ++ wS h cy u.2.2.2.2)))) t.heap ∧ va_D A (wC h cy u.1 ++ (wl ad cy (z 0) (h 20) u.2.1 ++ (wl ad cy (z 0) (h 21) u.2.2.1 ++ (wl ad cy (z 0) (h 22) u.2.2.2.1 ++ wS h cy u.2.2.2.2))))) A) ([.ref (h 0)] : List Value).toArray s 0 0 A) (F0 m 12 ls []) := by
          intro K12 hX12 nn
          induction nn with
          | zero =>
            intro v2_12 s_12 hF
            exact hF.elim
          | succ nn ih =>
            intro v2_12 s_12 hF H locs hP hD hS ls hl
            obtain ⟨rec12, hrec⟩ : ∃ z : Int32 → FX → Prop, z = wp_X4_sweep_L12 fu v1_2 K12 nn := ⟨_, rfl⟩
            have hF : wp_X4_sweep_B12 fu v1_2 K12 rec12 v2_12 s_12 := by rw [hrec]; exact hF
            rw [← hrec] at ih
            clear hrec
            unfold wp_X4_sweep_B12 at hF
            refine lv_iload_n hx hb dX4_sweep_12 rfl (lv_at hl 0 rfl) ?_
            refine lv_iconst (v := 1) hx hb dX4_sweep_13 (by decide) ?_
            refine lv_aload_n hx hb dX4_sweep_14 rfl (lv_at hl 2 rfl) ?_
            refine va_get (D := (dC, dI)) (ci := 4) (v := .int (s_12.1.1 0)) (C := RX4) (T := TX4) (N := 19) hx hb hts in_X4 hown hK.1 hP 0 rfl rfl 13 (by decide) (hts _ q963) (fun _ h9 => h9) rfl dX4_sweep_15 ?_
            refine lv_ishl hx hb dX4_sweep_18 ?_
            refine lv_icmp_ge (tgt := 160) hx hb dX4_sweep_19 (by decide) (fun cz => ?_) (fun cz => ?_)
            · have hF := hF.1 cz
              exact hX12 s_12 hF _ _ hP hD hS _ (lv_sub hl [1, 2] rfl)
            · have hF := hF.2 cz
              refine lv_iconst (v := 0) hx hb dX4_sweep_22 (by decide) ?_
              refine lv_istore_n (lv' := [(3, .int 0), (2, .int v2_12), (1, .int v1_2), (0, .ref (h 0))]) hx hb dX4_sweep_23 rfl hl (by decide) rfl (fun ls hl => ?_)
              have hX24 : ∀ (s_154 : FX), (fun (s_154 : FX) => (rec12 (v2_12 + 1) s_154)) s_154 → ∀ (H : Heap) (locs : List Loc), va_P (dC, dI) classes (wC h cy s_154.1 ++ (wl ad cy (z 0) (h 20) s_154.2.1 ++ (wl ad cy (z 0) (h 21) s_154.2.2.1 ++ (wl ad cy (z 0) (h 22) s_154.2.2.2.1 ++ wS h cy s_154.2.2.2.2)))) H → va_D A (wC h cy s_154.1 ++ (wl ad cy (z 0) (h 20) s_154.2.1 ++ (wl ad cy (z 0) (h 21) s_154.2.2.1 ++ (wl ad cy (z 0) (h 22) s_154.2.2.2.1 ++ wS h cy s_154.2.2.2.2)))) → va_S A s.heap H locs → ∀ (ls : Array Slot), lv_has ls 5 [(2, .int v2_12), (1, .int v1_2), (0, .ref (h 0))] → W p l e ({ frames := 2, cells := 0, slots := 0, locals := 43 } : Room) s m ([.ref (h 0)] : List Value).toArray below meth c H locs 0 0 (MQ below (va_Qv (fun u => P u) (fun (u : FX) t => va_P (dC, dI) classes (wC h cy u.1 ++ (wl ad cy (z 0) (h 20) u.2.1 ++ (wl ad cy (z 0) (h 21) u.2.2.1 ++ (wl ad cy (z 0) (h 22) u.2.2.2.1 ++ wS h cy u.2.2.2.2)))) t.heap ∧ va_D A (wC h cy u.1 ++ (wl ad cy (z 0) (h 20) u.2.1 ++ (wl ad cy (z 0) (h 21) u.2.2.1 ++ (wl ad cy (z 0) (h 22) u.2.2.2.1 ++ wS h cy u.2.2.2.2))))) A) ([.ref (h 0)] : List Value).toArray s 0 0 A) (F0 m 154 ls []) := by
                intro s_154 hF H locs hP hD hS ls hl
                refine lv_iinc (v := v2_12 + 1) (lv' := [(2, .int (v2_12 + 1)), (1, .int v1_2), (0, .ref (h 0))]) hx hb dX4_sweep_154 hl (k := 0) rfl (by rfl) (by decide) rfl (fun ls hl => ?_)
                refine lv_goto (tgt := 12) hx hb dX4_sweep_157 (by decide) ?_
                exact ih (v2_12 + 1) s_154 hF _ _ hP hD hS _ (lv_sub hl [0, 1, 2] rfl)
              have hL24 : ∀ (K24 : FX → Prop), (∀ (s_154 : FX), K24 s_154 → ∀ (H : Heap) (locs : List Loc), va_P (dC, dI) classes (wC h cy s_154.1 ++ (wl ad cy (z 0) (h 20) s_154.2.1 ++ (wl ad cy (z 0) (h 21) s_154.2.2.1 ++ (wl ad cy (z 0) (h 22) s_154.2.2.2.1 ++ wS h cy s_154.2.2.2.2)))) H → va_D A (wC h cy s_154.1 ++ (wl ad cy (z 0) (h 20) s_154.2.1 ++ (wl ad cy (z 0) (h 21) s_154.2.2.1 ++ (wl ad cy (z 0) (h 22) s_154.2.2.2.1 ++ wS h cy s_154.2.2.2.2)))) → va_S A s.heap H locs → ∀ (ls : Array Slot), lv_has ls 5 [(2, .int v2_12), (1, .int v1_2), (0, .ref (h 0))] → W p l e ({ frames := 2, cells := 0, slots := 0, locals := 43 } : Room) s m ([.ref (h 0)] : List Value).toArray below meth c H locs 0 0 (MQ below (va_Qv (fun u => P u) (fun (u : FX) t => va_P (dC, dI) classes (wC h cy u.1 ++ (wl ad cy (z 0) (h 20) u.2.1 ++ (wl ad cy (z 0) (h 21) u.2.2.1 ++ (wl ad cy (z 0) (h 22) u.2.2.2.1 ++ wS h cy u.2.2.2.2)))) t.heap ∧ va_D A (wC h cy u.1 ++ (wl ad cy (z 0) (h 20) u.2.1 ++ (wl ad cy (z 0) (h 21) u.2.2.1 ++ (wl ad cy (z 0) (h 22) u.2.2.2.1 ++ wS h cy u.2.2.2.2))))) A) ([.ref (h 0)] : List Value).toArray s 0 0 A) (F0 m 154 ls [])) → ∀ (nn : Nat), ∀ (v3_24 : Int32), ∀ (s_24 : FX), wp_X4_sweep_L24 fu v1_2 v2_12 K24 nn v3_24 s_24 → ∀ (H : Heap) (locs : List Loc), va_P (dC, dI) classes (wC h cy s_24.1 ++ (wl ad cy (z 0) (h 20) s_24.2.1 ++ (wl ad cy (z 0) (h 21) s_24.2.2.1 ++ (wl ad cy (z 0) (h 22) s_24.2.2.2.1 ++ wS h cy s_24.2.2.2.2)))) H → va_D A (wC h cy s_24.1 ++ (wl ad cy (z 0) (h 20) s_24.2.1 ++ (wl ad cy (z 0) (h 21) s_24.2.2.1 ++ (wl ad cy (z 0) (h 22) s_24.2.2.2.1 ++ wS h cy s_24.2.2.2.2)))) → va_S A s.heap H locs → ∀ (ls : Array Slot), lv_has ls 5 [(3, .int v3_24), (2, .int v2_12), (1, .int v1_2), (0, .ref (h 0))] → W p l e ({ frames := 2, cells := 0, slots := 0, locals := 43 } : Room) s m ([.ref (h 0)] : List Value).toArray below meth c H locs 0 0 (MQ below (va_Qv (fun u => P u) (fun (u : FX) t => va_P (dC, dI) classes (wC h cy u.1 ++ (wl ad cy (z 0) (h 20) u.2.1 ++ (wl ad cy (z 0) (h 21) u.2.2.1 ++ (wl ad cy (z 0) (h 22) u.2.2.2.1 ++ wS h cy u.2.2.2.2)))) t.heap ∧ va_D A (wC h cy u.1 ++ (wl ad cy (z 0) (h 20) u.2.1 ++ (wl ad cy (z 0) (h 21) u.2.2.1 ++ (wl ad cy (z 0) (h 22) u.2.2.2.1 ++ wS h cy u.2.2.2.2))))) A) ([.ref (h 0)] : List Value).toArray s 0 0 A) (F0 m 24 ls []) := by
                intro K24 hX24 nn
                induction nn with
                | zero =>
                  intro v3_24 s_24 hF
                  exact hF.elim
                | succ nn ih =>
                  intro v3_24 s_24 hF H locs hP hD hS ls hl
                  obtain ⟨rec24, hrec⟩ : ∃ z : Int32 → FX → Prop, z = wp_X4_sweep_L24 fu v1_2 v2_12 K24 nn := ⟨_, rfl⟩
                  have hF : wp_X4_sweep_B24 fu v1_2 v2_12 K24 rec24 v3_24 s_24 := by rw [hrec]; exact hF
                  rw [← hrec] at ih
                  clear hrec
                  unfold wp_X4_sweep_B24 at hF
                  refine lv_iload_n hx hb dX4_sweep_24 rfl (lv_at hl 0 rfl) ?_
                  refine lv_bipush (v := 10) hx hb dX4_sweep_25 (by decide) ?_
                  refine lv_icmp_gt (tgt := 154) hx hb dX4_sweep_27 (by decide) (fun cz => ?_) (fun cz => ?_)
                  · have hF := hF.1 cz
                    exact hX24 s_24 hF _ _ hP hD hS _ (lv_sub hl [1, 2, 3] rfl)
                  · have hF := hF.2 cz
                    refine lv_iload_n hx hb dX4_sweep_30 rfl (lv_at hl 1 rfl) ?_
                    refine cpSi (As := [.int v2_12]) (rest := []) ⟨hx, hb, hr, hml, hown, hts, hlocks⟩ (m_J6_bitCount_0f7a4 l v2_12 _ hF) k_J6_bitCount_0f7a4 q1319 ⟨rfl, rfl⟩ ⟨Nat.le_of_ble_eq_true rfl, Nat.le_of_ble_eq_true rfl⟩ hl.1 rfl rfl (Nat.le_of_ble_eq_true rfl) dX4_sweep_31 ⟨Nat.le_of_ble_eq_true rfl, Nat.le_of_ble_eq_true rfl⟩ (fun r31 hF => ?_)
                    refine lv_iload_n hx hb dX4_sweep_34 rfl (lv_at hl 2 rfl) ?_
                    have hJ148 : ∀ (s_148 : FX), wp_X4_sweep_J148 rec24 v3_24 s_148 → ∀ (H : Heap) (locs : List Loc), va_P (dC, dI) classes (wC h cy s_148.1 ++ (wl ad cy (z 0) (h 20) s_148.2.1 ++ (wl ad cy (z 0) (h 21) s_148.2.2.1 ++ (wl ad cy (z 0) (h 22) s_148.2.2.2.1 ++ wS h cy s_148.2.2.2.2)))) H → va_D A (wC h cy s_148.1 ++ (wl ad cy (z 0) (h 20) s_148.2.1 ++ (wl ad cy (z 0) (h 21) s_148.2.2.1 ++ (wl ad cy (z 0) (h 22) s_148.2.2.2.1 ++ wS h cy s_148.2.2.2.2)))) → va_S A s.heap H locs → ∀ (ls : Array Slot), lv_has ls 5 [(3, .int v3_24), (2, .int v2_12), (1, .int v1_2), (0, .ref (h 0))] → W p l e ({ frames := 2, cells := 0, slots := 0, locals := 43 } : Room) s m ([.ref (h 0)] : List Value).toArray below meth c H locs 0 0 (MQ below (va_Qv (fun u => P u) (fun (u : FX) t => va_P (dC, dI) classes (wC h cy u.1 ++ (wl ad cy (z 0) (h 20) u.2.1 ++ (wl ad cy (z 0) (h 21) u.2.2.1 ++ (wl ad cy (z 0) (h 22) u.2.2.2.1 ++ wS h cy u.2.2.2.2)))) t.heap ∧ va_D A (wC h cy u.1 ++ (wl ad cy (z 0) (h 20) u.2.1 ++ (wl ad cy (z 0) (h 21) u.2.2.1 ++ (wl ad cy (z 0) (h 22) u.2.2.2.1 ++ wS h cy u.2.2.2.2))))) A) ([.ref (h 0)] : List Value).toArray s 0 0 A) (F0 m 148 ls []) := by
                      intro s_148 hF H locs hP hD hS ls hl
                      unfold wp_X4_sweep_J148 at hF
                      refine lv_iinc (v := v3_24 + 1) (lv' := [(3, .int (v3_24 + 1)), (2, .int v2_12), (1, .int v1_2), (0, .ref (h 0))]) hx hb dX4_sweep_148 hl (k := 0) rfl (by rfl) (by decide) rfl (fun ls hl => ?_)
                      refine lv_goto (tgt := 24) hx hb dX4_sweep_151 (by decide) ?_
                      exact ih (v3_24 + 1) s_148 hF _ _ hP hD hS _ (lv_sub hl [0, 1, 2, 3] rfl)
                    refine lv_icmp_eq (tgt := 41) hx hb dX4_sweep_35 (by decide) (fun cz => ?_) (fun cz => ?_)
                    · have hF := hF.1 cz
                      refine lv_aload_n hx hb dX4_sweep_41 rfl (lv_at hl 3 rfl) ?_
                      refine va_get (D := (dC, dI)) (ci := 4) (v := .ref (h 23)) (C := RX4) (T := TX4) (N := 19) hx hb hts in_X4 hown hK.1 hP 0 rfl rfl 12 (by decide) (hts _ q962) (fun _ h9 => h9) rfl dX4_sweep_42 ?_
                      refine lv_iload_n hx hb dX4_sweep_45 rfl (lv_at hl 1 rfl) ?_
                      have hI := hF.1
                      have hF := hF.2
                      refine swRow (fp4 _ _ _ _ _) ⟨hx, hb, hr, hml, hown, hts, hlocks⟩ hK hP hI dX4_sweep_46 ?_
                      refine lv_iload_n hx hb dX4_sweep_47 rfl (lv_at hl 0 rfl) ?_
                      refine lv_iload_n hx hb dX4_sweep_48 rfl (lv_at hl 1 rfl) ?_
                      refine lv_aload_n hx hb dX4_sweep_49 rfl (lv_at hl 3 rfl) ?_
                      refine va_get (D := (dC, dI)) (ci := 4) (v := .int (s_24.1.1 3)) (C := RX4) (T := TX4) (N := 19) hx hb hts in_X4 hown hK.1 hP 0 rfl rfl 16 (by decide) (hts _ q966) (fun _ h9 => h9) rfl dX4_sweep_50 ?_
                      have hJ63 : ∀ (t2_63 : Int32), wp_X4_sweep_J63 fu v2_12 rec24 v3_24 s_24 t2_63 → ∀ (H : Heap) (locs : List Loc), va_P (dC, dI) classes (wC h cy s_24.1 ++ (wl ad cy (z 0) (h 20) s_24.2.1 ++ (wl ad cy (z 0) (h 21) s_24.2.2.1 ++ (wl ad cy (z 0) (h 22) s_24.2.2.2.1 ++ wS h cy s_24.2.2.2.2)))) H → va_D A (wC h cy s_24.1 ++ (wl ad cy (z 0) (h 20) s_24.2.1 ++ (wl ad cy (z 0) (h 21) s_24.2.2.1 ++ (wl ad cy (z 0) (h 22) s_24.2.2.2.1 ++ wS h cy s_24.2.2.2.2)))) → va_S A s.heap H locs → ∀ (ls : Array Slot), lv_has ls 5 [(3, .int v3_24), (2, .int v2_12), (1, .int v1_2), (0, .ref (h 0))] → W p l e ({ frames := 2, cells := 0, slots := 0, locals := 43 } : Room) s m ([.ref (h 0)] : List Value).toArray below meth c H locs 0 0 (MQ below (va_Qv (fun u => P u) (fun (u : FX) t => va_P (dC, dI) classes (wC h cy u.1 ++ (wl ad cy (z 0) (h 20) u.2.1 ++ (wl ad cy (z 0) (h 21) u.2.2.1 ++ (wl ad cy (z 0) (h 22) u.2.2.2.1 ++ wS h cy u.2.2.2.2)))) t.heap ∧ va_D A (wC h cy u.1 ++ (wl ad cy (z 0) (h 20) u.2.1 ++ (wl ad cy (z 0) (h 21) u.2.2.1 ++ (wl ad cy (z 0) (h 22) u.2.2.2.1 ++ wS h cy u.2.2.2.2))))) A) ([.ref (h 0)] : List Value).toArray s 0 0 A) (F0 m 63 ls [.int t2_63, .int v3_24, .ref (h (100 + v2_12.toNatClampNeg))]) := by
                        intro t2_63 hF H locs hP hD hS ls hl
                        unfold wp_X4_sweep_J63 at hF
                        have hI := hF.1
                        have hF := hF.2
                        refine swStore (fp4 _ _ _ _ _) ⟨hx, hb, hr, hml, hown, hts, hlocks⟩ hK hP hD hS hI.1 hI.2 dX4_sweep_63 (fun H1 locs hP1 hD1 hS => ?_)
                        have hP := va_P.perm (fp4 _ _ _ _ _).symm hP1
                        have hD := va_D.perm (fp4 _ _ _ _ _).symm hD1
                        generalize H1 = H at hP hS ⊢
                        have hP : va_P (dC, dI) classes (wC h cy s_24.1 ++ (wl ad cy (z 0) (h 20) s_24.2.1 ++ (wl ad cy (z 0) (h 21) s_24.2.2.1 ++ (wl ad cy (z 0) (h 22) s_24.2.2.2.1 ++ wS h cy (upS s_24.2.2.2.2 (v2_12.toNatClampNeg) (v3_24.toNatClampNeg) t2_63))))) H := hP
                        have hD : va_D A (wC h cy s_24.1 ++ (wl ad cy (z 0) (h 20) s_24.2.1 ++ (wl ad cy (z 0) (h 21) s_24.2.2.1 ++ (wl ad cy (z 0) (h 22) s_24.2.2.2.1 ++ wS h cy (upS s_24.2.2.2.2 (v2_12.toNatClampNeg) (v3_24.toNatClampNeg) t2_63))))) := hD
                        refine lv_iconst (v := 0) hx hb dX4_sweep_64 (by decide) ?_
                        refine lv_istore (lv' := [(4, .int 0), (3, .int v3_24), (2, .int v2_12), (1, .int v1_2), (0, .ref (h 0))]) hx hb dX4_sweep_65 hl (by decide) rfl (fun ls hl => ?_)
                        have hX67 : ∀ (s_148 : FX), (fun (s_148 : FX) => (wp_X4_sweep_J148 rec24 v3_24 s_148)) s_148 → ∀ (H : Heap) (locs : List Loc), va_P (dC, dI) classes (wC h cy s_148.1 ++ (wl ad cy (z 0) (h 20) s_148.2.1 ++ (wl ad cy (z 0) (h 21) s_148.2.2.1 ++ (wl ad cy (z 0) (h 22) s_148.2.2.2.1 ++ wS h cy s_148.2.2.2.2)))) H → va_D A (wC h cy s_148.1 ++ (wl ad cy (z 0) (h 20) s_148.2.1 ++ (wl ad cy (z 0) (h 21) s_148.2.2.1 ++ (wl ad cy (z 0) (h 22) s_148.2.2.2.1 ++ wS h cy s_148.2.2.2.2)))) → va_S A s.heap H locs → ∀ (ls : Array Slot), lv_has ls 5 [(3, .int v3_24), (2, .int v2_12), (1, .int v1_2), (0, .ref (h 0))] → W p l e ({ frames := 2, cells := 0, slots := 0, locals := 43 } : Room) s m ([.ref (h 0)] : List Value).toArray below meth c H locs 0 0 (MQ below (va_Qv (fun u => P u) (fun (u : FX) t => va_P (dC, dI) classes (wC h cy u.1 ++ (wl ad cy (z 0) (h 20) u.2.1 ++ (wl ad cy (z 0) (h 21) u.2.2.1 ++ (wl ad cy (z 0) (h 22) u.2.2.2.1 ++ wS h cy u.2.2.2.2)))) t.heap ∧ va_D A (wC h cy u.1 ++ (wl ad cy (z 0) (h 20) u.2.1 ++ (wl ad cy (z 0) (h 21) u.2.2.1 ++ (wl ad cy (z 0) (h 22) u.2.2.2.1 ++ wS h cy u.2.2.2.2))))) A) ([.ref (h 0)] : List Value).toArray s 0 0 A) (F0 m 148 ls []) := by
                          intro s_148 hF H locs hP hD hS ls hl
                          exact hJ148 s_148 hF _ _ hP hD hS _ (lv_sub hl [0, 1, 2, 3] rfl)
                        have hL67 : ∀ (K67 : FX → Prop), (∀ (s_148 : FX), K67 s_148 → ∀ (H : Heap) (locs : List Loc), va_P (dC, dI) classes (wC h cy s_148.1 ++ (wl ad cy (z 0) (h 20) s_148.2.1 ++ (wl ad cy (z 0) (h 21) s_148.2.2.1 ++ (wl ad cy (z 0) (h 22) s_148.2.2.2.1 ++ wS h cy s_148.2.2.2.2)))) H → va_D A (wC h cy s_148.1 ++ (wl ad cy (z 0) (h 20) s_148.2.1 ++ (wl ad cy (z 0) (h 21) s_148.2.2.1 ++ (wl ad cy (z 0) (h 22) s_148.2.2.2.1 ++ wS h cy s_148.2.2.2.2)))) → va_S A s.heap H locs → ∀ (ls : Array Slot), lv_has ls 5 [(3, .int v3_24), (2, .int v2_12), (1, .int v1_2), (0, .ref (h 0))] → W p l e ({ frames := 2, cells := 0, slots := 0, locals := 43 } : Room) s m ([.ref (h 0)] : List Value).toArray below meth c H locs 0 0 (MQ below (va_Qv (fun u => P u) (fun (u : FX) t => va_P (dC, dI) classes (wC h cy u.1 ++ (wl ad cy (z 0) (h 20) u.2.1 ++ (wl ad cy (z 0) (h 21) u.2.2.1 ++ (wl ad cy (z 0) (h 22) u.2.2.2.1 ++ wS h cy u.2.2.2.2)))) t.heap ∧ va_D A (wC h cy u.1 ++ (wl ad cy (z 0) (h 20) u.2.1 ++ (wl ad cy (z 0) (h 21) u.2.2.1 ++ (wl ad cy (z 0) (h 22) u.2.2.2.1 ++ wS h cy u.2.2.2.2))))) A) ([.ref (h 0)] : List Value).toArray s 0 0 A) (F0 m 148 ls [])) → ∀ (nn : Nat), ∀ (v4_67 : Int32), ∀ (s_67 : FX), wp_X4_sweep_L67 v2_12 v3_24 K67 nn v4_67 s_67 → ∀ (H : Heap) (locs : List Loc), va_P (dC, dI) classes (wC h cy s_67.1 ++ (wl ad cy (z 0) (h 20) s_67.2.1 ++ (wl ad cy (z 0) (h 21) s_67.2.2.1 ++ (wl ad cy (z 0) (h 22) s_67.2.2.2.1 ++ wS h cy s_67.2.2.2.2)))) H → va_D A (wC h cy s_67.1 ++ (wl ad cy (z 0) (h 20) s_67.2.1 ++ (wl ad cy (z 0) (h 21) s_67.2.2.1 ++ (wl ad cy (z 0) (h 22) s_67.2.2.2.1 ++ wS h cy s_67.2.2.2.2)))) → va_S A s.heap H locs → ∀ (ls : Array Slot), lv_has ls 5 [(4, .int v4_67), (3, .int v3_24), (2, .int v2_12), (1, .int v1_2), (0, .ref (h 0))] → W p l e ({ frames := 2, cells := 0, slots := 0, locals := 43 } : Room) s m ([.ref (h 0)] : List Value).toArray below meth c H locs 0 0 (MQ below (va_Qv (fun u => P u) (fun (u : FX) t => va_P (dC, dI) classes (wC h cy u.1 ++ (wl ad cy (z 0) (h 20) u.2.1 ++ (wl ad cy (z 0) (h 21) u.2.2.1 ++ (wl ad cy (z 0) (h 22) u.2.2.2.1 ++ wS h cy u.2.2.2.2)))) t.heap ∧ va_D A (wC h cy u.1 ++ (wl ad cy (z 0) (h 20) u.2.1 ++ (wl ad cy (z 0) (h 21) u.2.2.1 ++ (wl ad cy (z 0) (h 22) u.2.2.2.1 ++ wS h cy u.2.2.2.2))))) A) ([.ref (h 0)] : List Value).toArray s 0 0 A) (F0 m 67 ls []) := by
                          intro K67 hX67 nn
                          induction nn with
                          | zero =>
                            intro v4_67 s_67 hF
                            exact hF.elim
                          | succ nn ih =>
                            intro v4_67 s_67 hF H locs hP hD hS ls hl
                            obtain ⟨rec67, hrec⟩ : ∃ z : Int32 → FX → Prop, z = wp_X4_sweep_L67 v2_12 v3_24 K67 nn := ⟨_, rfl⟩
                            have hF : wp_X4_sweep_B67 v2_12 v3_24 K67 rec67 v4_67 s_67 := by rw [hrec]; exact hF
                            rw [← hrec] at ih
                            clear hrec
                            unfold wp_X4_sweep_B67 at hF
                            refine lv_iload hx hb dX4_sweep_67 (lv_at hl 0 rfl) ?_
                            refine lv_aload_n hx hb dX4_sweep_69 rfl (lv_at hl 4 rfl) ?_
                            refine va_get (D := (dC, dI)) (ci := 4) (v := .int (s_67.1.1 1)) (C := RX4) (T := TX4) (N := 19) hx hb hts in_X4 hown hK.1 hP 0 rfl rfl 14 (by decide) (hts _ q964) (fun _ h9 => h9) rfl dX4_sweep_70 ?_
                            refine lv_icmp_ge (tgt := 148) hx hb dX4_sweep_73 (by decide) (fun cz => ?_) (fun cz => ?_)
                            · have hF := hF.1 cz
                              exact hX67 s_67 hF _ _ hP hD hS _ (lv_sub hl [1, 2, 3, 4] rfl)
                            · have hF := hF.2 cz
                              refine lv_aload_n hx hb dX4_sweep_76 rfl (lv_at hl 4 rfl) ?_
                              refine lv_iload_n hx hb dX4_sweep_77 rfl (lv_at hl 2 rfl) ?_
                              refine lv_iload hx hb dX4_sweep_78 (lv_at hl 0 rfl) ?_
                              have hPc := fw_get (fp0 _ _) hP
                              refine cpVi (q0 := 0) (As := [.int v2_12, .int v4_67]) (rest := []) ⟨hx, hb, hr, hml, hown, hts, hlocks⟩ hK hPc rfl rfl (m_X4_can l dC dI h cy s_67.1 v2_12 v4_67 _ hF) k_X4_can q1214 ⟨rfl, rfl⟩ ⟨Nat.le_of_ble_eq_true rfl, Nat.le_of_ble_eq_true rfl⟩ hl.1 rfl rfl (Nat.le_of_ble_eq_true rfl) dX4_sweep_80 ⟨Nat.le_of_ble_eq_true rfl, Nat.le_of_ble_eq_true rfl⟩ (fun r80 hF => ?_)
                              have hJ142 : ∀ (s_142 : FX), wp_X4_sweep_J142 rec67 v4_67 s_142 → ∀ (H : Heap) (locs : List Loc), va_P (dC, dI) classes (wC h cy s_142.1 ++ (wl ad cy (z 0) (h 20) s_142.2.1 ++ (wl ad cy (z 0) (h 21) s_142.2.2.1 ++ (wl ad cy (z 0) (h 22) s_142.2.2.2.1 ++ wS h cy s_142.2.2.2.2)))) H → va_D A (wC h cy s_142.1 ++ (wl ad cy (z 0) (h 20) s_142.2.1 ++ (wl ad cy (z 0) (h 21) s_142.2.2.1 ++ (wl ad cy (z 0) (h 22) s_142.2.2.2.1 ++ wS h cy s_142.2.2.2.2)))) → va_S A s.heap H locs → ∀ (ls : Array Slot), lv_has ls 5 [(4, .int v4_67), (3, .int v3_24), (2, .int v2_12), (1, .int v1_2), (0, .ref (h 0))] → W p l e ({ frames := 2, cells := 0, slots := 0, locals := 43 } : Room) s m ([.ref (h 0)] : List Value).toArray below meth c H locs 0 0 (MQ below (va_Qv (fun u => P u) (fun (u : FX) t => va_P (dC, dI) classes (wC h cy u.1 ++ (wl ad cy (z 0) (h 20) u.2.1 ++ (wl ad cy (z 0) (h 21) u.2.2.1 ++ (wl ad cy (z 0) (h 22) u.2.2.2.1 ++ wS h cy u.2.2.2.2)))) t.heap ∧ va_D A (wC h cy u.1 ++ (wl ad cy (z 0) (h 20) u.2.1 ++ (wl ad cy (z 0) (h 21) u.2.2.1 ++ (wl ad cy (z 0) (h 22) u.2.2.2.1 ++ wS h cy u.2.2.2.2))))) A) ([.ref (h 0)] : List Value).toArray s 0 0 A) (F0 m 142 ls []) := by
                                intro s_142 hF H locs hP hD hS ls hl
                                unfold wp_X4_sweep_J142 at hF
                                refine lv_iinc (v := v4_67 + 1) (lv' := [(4, .int (v4_67 + 1)), (3, .int v3_24), (2, .int v2_12), (1, .int v1_2), (0, .ref (h 0))]) hx hb dX4_sweep_142 hl (k := 0) rfl (by rfl) (by decide) rfl (fun ls hl => ?_)
                                refine lv_goto (tgt := 67) hx hb dX4_sweep_145 (by decide) ?_
                                exact ih (v4_67 + 1) s_142 hF _ _ hP hD hS _ (lv_sub hl [0, 1, 2, 3, 4] rfl)
                              refine lv_if_eq (tgt := 142) hx hb dX4_sweep_83 (by decide) (fun cz => ?_) (fun cz => ?_)
                              · have hF := hF.1 cz
                                exact hJ142 s_67 hF _ _ hP hD hS _ (lv_sub hl [0, 1, 2, 3, 4] rfl)
                              · have hF := hF.2 cz
                                refine lv_aload_n hx hb dX4_sweep_86 rfl (lv_at hl 4 rfl) ?_
                                refine va_get (D := (dC, dI)) (ci := 4) (v := .ref (h 23)) (C := RX4) (T := TX4) (N := 19) hx hb hts in_X4 hown hK.1 hP 0 rfl rfl 12 (by decide) (hts _ q962) (fun _ h9 => h9) rfl dX4_sweep_87 ?_
                                refine lv_iload_n hx hb dX4_sweep_90 rfl (lv_at hl 2 rfl) ?_
                                have hI := hF.1
                                have hF := hF.2
                                refine swRow (fp4 _ _ _ _ _) ⟨hx, hb, hr, hml, hown, hts, hlocks⟩ hK hP hI dX4_sweep_91 ?_
                                refine lv_iload_n hx hb dX4_sweep_92 rfl (lv_at hl 1 rfl) ?_
                                refine lv_aload_n hx hb dX4_sweep_93 rfl (lv_at hl 4 rfl) ?_
                                refine va_get (D := (dC, dI)) (ci := 4) (v := .ref (h 23)) (C := RX4) (T := TX4) (N := 19) hx hb hts in_X4 hown hK.1 hP 0 rfl rfl 12 (by decide) (hts _ q962) (fun _ h9 => h9) rfl dX4_sweep_94 ?_
                                refine lv_iload_n hx hb dX4_sweep_97 rfl (lv_at hl 2 rfl) ?_
                                have hI := hF.1
                                have hF := hF.2
                                refine swRow (fp4 _ _ _ _ _) ⟨hx, hb, hr, hml, hown, hts, hlocks⟩ hK hP hI dX4_sweep_98 ?_
                                refine lv_iload_n hx hb dX4_sweep_99 rfl (lv_at hl 1 rfl) ?_
                                have hI := hF.1
                                have hF := hF.2
                                refine swLoad (fp4 _ _ _ _ _) ⟨hx, hb, hr, hml, hown, hts, hlocks⟩ hK hP hI.1 hI.2 dX4_sweep_100 ?_
                                refine lv_aload_n hx hb dX4_sweep_101 rfl (lv_at hl 4 rfl) ?_
                                refine va_get (D := (dC, dI)) (ci := 4) (v := .ref (h 23)) (C := RX4) (T := TX4) (N := 19) hx hb hts in_X4 hown hK.1 hP 0 rfl rfl 12 (by decide) (hts _ q962) (fun _ h9 => h9) rfl dX4_sweep_102 ?_
                                refine lv_aload_n hx hb dX4_sweep_105 rfl (lv_at hl 4 rfl) ?_
                                refine lv_iload_n hx hb dX4_sweep_106 rfl (lv_at hl 2 rfl) ?_
                                refine lv_iload hx hb dX4_sweep_107 (lv_at hl 0 rfl) ?_
                                have hPc := fw_get (fp0 _ _) hP
                                refine cpVi (q0 := 0) (As := [.int v2_12, .int v4_67]) (rest := [.ref (h 23), .int (s_67.2.2.2.2 (v2_12.toNatClampNeg) v3_24.toNatClampNeg), .int v3_24, .ref (h (100 + v2_12.toNatClampNeg))]) ⟨hx, hb, hr, hml, hown, hts, hlocks⟩ hK hPc rfl rfl (m_X4_behind l dC dI h cy s_67.1 v2_12 v4_67 _ hF) k_X4_behind q1230 ⟨rfl, rfl⟩ ⟨Nat.le_of_ble_eq_true rfl, Nat.le_of_ble_eq_true rfl⟩ hl.1 rfl rfl (Nat.le_of_ble_eq_true rfl) dX4_sweep_109 ⟨Nat.le_of_ble_eq_true rfl, Nat.le_of_ble_eq_true rfl⟩ (fun r109 hF => ?_)
                                have hI := hF.1
                                have hF := hF.2
                                refine swRow (fp4 _ _ _ _ _) ⟨hx, hb, hr, hml, hown, hts, hlocks⟩ hK hP hI dX4_sweep_112 ?_
                                refine lv_aload_n hx hb dX4_sweep_113 rfl (lv_at hl 4 rfl) ?_
                                refine va_get (D := (dC, dI)) (ci := 4) (v := .ref (h 6)) (C := RX4) (T := TX4) (N := 19) hx hb hts in_X4 hown hK.1 hP 0 rfl rfl 5 (by decide) (hts _ q955) (fun _ h9 => h9) rfl dX4_sweep_114 ?_
                                refine lv_iload hx hb dX4_sweep_117 (lv_at hl 0 rfl) ?_
                                have hI := hF.1
                                have hF := hF.2
                                refine va_iald hx hb hK.1 hP 6 0 rfl rfl hI dX4_sweep_119 ?_
                                have hI := hF.1
                                have hF := hF.2
                                refine swLoad (fp4 _ _ _ _ _) ⟨hx, hb, hr, hml, hown, hts, hlocks⟩ hK hP hI.1 hI.2 dX4_sweep_120 ?_
                                refine lv_aload_n hx hb dX4_sweep_121 rfl (lv_at hl 4 rfl) ?_
                                refine va_get (D := (dC, dI)) (ci := 4) (v := .ref (h 4)) (C := RX4) (T := TX4) (N := 19) hx hb hts in_X4 hown hK.1 hP 0 rfl rfl 3 (by decide) (hts _ q953) (fun _ h9 => h9) rfl dX4_sweep_122 ?_
                                refine lv_iload hx hb dX4_sweep_125 (lv_at hl 0 rfl) ?_
                                have hI := hF.1
                                have hF := hF.2
                                refine va_iald hx hb hK.1 hP 4 0 rfl rfl hI dX4_sweep_127 ?_
                                refine lv_iload_n hx hb dX4_sweep_128 rfl (lv_at hl 1 rfl) ?_
                                have hJ137 : ∀ (t4_137 : Int32), wp_X4_sweep_J137 v2_12 v3_24 rec67 v4_67 s_67 r109 t4_137 → ∀ (H : Heap) (locs : List Loc), va_P (dC, dI) classes (wC h cy s_67.1 ++ (wl ad cy (z 0) (h 20) s_67.2.1 ++ (wl ad cy (z 0) (h 21) s_67.2.2.1 ++ (wl ad cy (z 0) (h 22) s_67.2.2.2.1 ++ wS h cy s_67.2.2.2.2)))) H → va_D A (wC h cy s_67.1 ++ (wl ad cy (z 0) (h 20) s_67.2.1 ++ (wl ad cy (z 0) (h 21) s_67.2.2.1 ++ (wl ad cy (z 0) (h 22) s_67.2.2.2.1 ++ wS h cy s_67.2.2.2.2)))) → va_S A s.heap H locs → ∀ (ls : Array Slot), lv_has ls 5 [(4, .int v4_67), (3, .int v3_24), (2, .int v2_12), (1, .int v1_2), (0, .ref (h 0))] → W p l e ({ frames := 2, cells := 0, slots := 0, locals := 43 } : Room) s m ([.ref (h 0)] : List Value).toArray below meth c H locs 0 0 (MQ below (va_Qv (fun u => P u) (fun (u : FX) t => va_P (dC, dI) classes (wC h cy u.1 ++ (wl ad cy (z 0) (h 20) u.2.1 ++ (wl ad cy (z 0) (h 21) u.2.2.1 ++ (wl ad cy (z 0) (h 22) u.2.2.2.1 ++ wS h cy u.2.2.2.2)))) t.heap ∧ va_D A (wC h cy u.1 ++ (wl ad cy (z 0) (h 20) u.2.1 ++ (wl ad cy (z 0) (h 21) u.2.2.1 ++ (wl ad cy (z 0) (h 22) u.2.2.2.1 ++ wS h cy u.2.2.2.2))))) A) ([.ref (h 0)] : List Value).toArray s 0 0 A) (F0 m 137 ls [.int t4_137, .int (s_67.2.2.2.2 (r109.toNatClampNeg) ((s_67.1.2.1 5) v4_67.toNatClampNeg).toNatClampNeg), .int (s_67.2.2.2.2 (v2_12.toNatClampNeg) v3_24.toNatClampNeg), .int v3_24, .ref (h (100 + v2_12.toNatClampNeg))]) := by
                                  intro t4_137 hF H locs hP hD hS ls hl
                                  unfold wp_X4_sweep_J137 at hF
                                  refine lv_iadd hx hb dX4_sweep_137 ?_
                                  refine va_mmin hx hb (by rw [hml]; exact hl.1.symm) hown (hts _ q1197) (hts _ q261) (hts _ q13) (hts _ q262) (Nat.le_of_ble_eq_true rfl) (Nat.le_of_ble_eq_true rfl) (Nat.le_of_ble_eq_true rfl) (Nat.le_of_ble_eq_true rfl) dX4_sweep_138 ?_
                                  have hI := hF.1
                                  have hF := hF.2
                                  refine swStore (fp4 _ _ _ _ _) ⟨hx, hb, hr, hml, hown, hts, hlocks⟩ hK hP hD hS hI.1 hI.2 dX4_sweep_141 (fun H1 locs hP1 hD1 hS => ?_)
                                  have hP := va_P.perm (fp4 _ _ _ _ _).symm hP1
                                  have hD := va_D.perm (fp4 _ _ _ _ _).symm hD1
                                  generalize H1 = H at hP hS ⊢
                                  have hP : va_P (dC, dI) classes (wC h cy s_67.1 ++ (wl ad cy (z 0) (h 20) s_67.2.1 ++ (wl ad cy (z 0) (h 21) s_67.2.2.1 ++ (wl ad cy (z 0) (h 22) s_67.2.2.2.1 ++ wS h cy (upS s_67.2.2.2.2 (v2_12.toNatClampNeg) (v3_24.toNatClampNeg) (jmin (s_67.2.2.2.2 (v2_12.toNatClampNeg) v3_24.toNatClampNeg) ((s_67.2.2.2.2 (r109.toNatClampNeg) ((s_67.1.2.1 5) v4_67.toNatClampNeg).toNatClampNeg) + t4_137))))))) H := hP
                                  have hD : va_D A (wC h cy s_67.1 ++ (wl ad cy (z 0) (h 20) s_67.2.1 ++ (wl ad cy (z 0) (h 21) s_67.2.2.1 ++ (wl ad cy (z 0) (h 22) s_67.2.2.2.1 ++ wS h cy (upS s_67.2.2.2.2 (v2_12.toNatClampNeg) (v3_24.toNatClampNeg) (jmin (s_67.2.2.2.2 (v2_12.toNatClampNeg) v3_24.toNatClampNeg) ((s_67.2.2.2.2 (r109.toNatClampNeg) ((s_67.1.2.1 5) v4_67.toNatClampNeg).toNatClampNeg) + t4_137))))))) := hD
                                  exact hJ142 (s_67.1, s_67.2.1, s_67.2.2.1, s_67.2.2.2.1, upS s_67.2.2.2.2 (v2_12.toNatClampNeg) (v3_24.toNatClampNeg) (jmin (s_67.2.2.2.2 (v2_12.toNatClampNeg) v3_24.toNatClampNeg) ((s_67.2.2.2.2 (r109.toNatClampNeg) ((s_67.1.2.1 5) v4_67.toNatClampNeg).toNatClampNeg) + t4_137))) hF _ _ hP hD hS _ (lv_sub hl [0, 1, 2, 3, 4] rfl)
                                refine lv_icmp_ne (tgt := 136) hx hb dX4_sweep_129 (by decide) (fun cz => ?_) (fun cz => ?_)
                                · have hF := hF.1 cz
                                  refine lv_iconst (v := 1) hx hb dX4_sweep_136 (by decide) ?_
                                  exact hJ137 1 hF _ _ hP hD hS _ (lv_sub hl [0, 1, 2, 3, 4] rfl)
                                · have hF := hF.2 cz
                                  refine lv_iconst (v := 0) hx hb dX4_sweep_132 (by decide) ?_
                                  refine lv_goto (tgt := 137) hx hb dX4_sweep_133 (by decide) ?_
                                  exact hJ137 0 hF _ _ hP hD hS _ (lv_sub hl [0, 1, 2, 3, 4] rfl)
                        exact hL67 _ hX67 fu 0 (s_24.1, s_24.2.1, s_24.2.2.1, s_24.2.2.2.1, upS s_24.2.2.2.2 (v2_12.toNatClampNeg) (v3_24.toNatClampNeg) t2_63) hF _ _ hP hD hS _ (lv_sub hl [0, 1, 2, 3, 4] rfl)
                      refine lv_icmp_ne (tgt := 60) hx hb dX4_sweep_53 (by decide) (fun cz => ?_) (fun cz => ?_)
                      · have hF := hF.1 cz
                        refine lv_sipush (v := 1000) hx hb dX4_sweep_60 (by decide) ?_
                        exact hJ63 1000 hF _ _ hP hD hS _ (lv_sub hl [0, 1, 2, 3] rfl)
                      · have hF := hF.2 cz
                        refine lv_iconst (v := 0) hx hb dX4_sweep_56 (by decide) ?_
                        refine lv_goto (tgt := 63) hx hb dX4_sweep_57 (by decide) ?_
                        exact hJ63 0 hF _ _ hP hD hS _ (lv_sub hl [0, 1, 2, 3] rfl)
                    · have hF := hF.2 cz
                      refine lv_goto (tgt := 148) hx hb dX4_sweep_38 (by decide) ?_
                      exact hJ148 s_24 hF _ _ hP hD hS _ (lv_sub hl [0, 1, 2, 3] rfl)
              exact hL24 _ hX24 fu 0 s_12 hF _ _ hP hD hS _ (lv_sub hl [0, 1, 2, 3] rfl)
        exact hL12 _ hX12 fu 0 s_2 hF _ _ hP hD hS _ (lv_sub hl [0, 1, 2] rfl)
  exact hL2 _ hX2 fu 0 σ hF _ _ hP hD hS _ (lv_sub hl [0, 1] rfl)
theorem dX4_leastSweeps_0 : decode cX4_leastSweeps 0 = .ok (.aload_n 0, 1) := by decide +kernel
theorem dX4_leastSweeps_1 : decode cX4_leastSweeps 1 = .ok (.aload_n 0, 1) := by decide +kernel
theorem dX4_leastSweeps_2 : decode cX4_leastSweeps 2 = .ok (.getfield 64, 3) := by decide +kernel
theorem dX4_leastSweeps_5 : decode cX4_leastSweeps 5 = .ok (.bipush 10, 2) := by decide +kernel
theorem dX4_leastSweeps_7 : decode cX4_leastSweeps 7 = .ok (.if_icmp .le 7, 3) := by decide +kernel
theorem dX4_leastSweeps_10 : decode cX4_leastSweeps 10 = .ok (.iconst 1, 1) := by decide +kernel
theorem dX4_leastSweeps_11 : decode cX4_leastSweeps 11 = .ok (.goto 4, 3) := by decide +kernel
theorem dX4_leastSweeps_14 : decode cX4_leastSweeps 14 = .ok (.iconst 0, 1) := by decide +kernel
theorem dX4_leastSweeps_15 : decode cX4_leastSweeps 15 = .ok (.invokevirtual 100, 3) := by decide +kernel
theorem dX4_leastSweeps_18 : decode cX4_leastSweeps 18 = .ok (.ifCond .eq 5, 3) := by decide +kernel
theorem dX4_leastSweeps_21 : decode cX4_leastSweeps 21 = .ok (.iconst 0, 1) := by decide +kernel
theorem dX4_leastSweeps_22 : decode cX4_leastSweeps 22 = .ok (.ireturn, 1) := by decide +kernel
theorem dX4_leastSweeps_23 : decode cX4_leastSweeps 23 = .ok (.aload_n 0, 1) := by decide +kernel
theorem dX4_leastSweeps_24 : decode cX4_leastSweeps 24 = .ok (.invokevirtual 225, 3) := by decide +kernel
theorem dX4_leastSweeps_27 : decode cX4_leastSweeps 27 = .ok (.aload_n 0, 1) := by decide +kernel
theorem dX4_leastSweeps_28 : decode cX4_leastSweeps 28 = .ok (.aload_n 0, 1) := by decide +kernel
theorem dX4_leastSweeps_29 : decode cX4_leastSweeps 29 = .ok (.getfield 54, 3) := by decide +kernel
theorem dX4_leastSweeps_32 : decode cX4_leastSweeps 32 = .ok (.aload_n 0, 1) := by decide +kernel
theorem dX4_leastSweeps_33 : decode cX4_leastSweeps 33 = .ok (.getfield 120, 3) := by decide +kernel
theorem dX4_leastSweeps_36 : decode cX4_leastSweeps 36 = .ok (.aaload, 1) := by decide +kernel
theorem dX4_leastSweeps_37 : decode cX4_leastSweeps 37 = .ok (.bipush 10, 2) := by decide +kernel
theorem dX4_leastSweeps_39 : decode cX4_leastSweeps 39 = .ok (.iaload, 1) := by decide +kernel
theorem dX4_leastSweeps_40 : decode cX4_leastSweeps 40 = .ok (.sipush 1000, 3) := by decide +kernel
theorem dX4_leastSweeps_43 : decode cX4_leastSweeps 43 = .ok (.if_icmp .lt 7, 3) := by decide +kernel
theorem dX4_leastSweeps_46 : decode cX4_leastSweeps 46 = .ok (.iconst 2, 1) := by decide +kernel
theorem dX4_leastSweeps_47 : decode cX4_leastSweeps 47 = .ok (.goto 4, 3) := by decide +kernel
theorem dX4_leastSweeps_50 : decode cX4_leastSweeps 50 = .ok (.iconst 0, 1) := by decide +kernel
theorem dX4_leastSweeps_51 : decode cX4_leastSweeps 51 = .ok (.invokevirtual 100, 3) := by decide +kernel
theorem dX4_leastSweeps_54 : decode cX4_leastSweeps 54 = .ok (.ifCond .eq 7, 3) := by decide +kernel
theorem dX4_leastSweeps_57 : decode cX4_leastSweeps 57 = .ok (.iconst 0, 1) := by decide +kernel
theorem dX4_leastSweeps_58 : decode cX4_leastSweeps 58 = .ok (.goto 15, 3) := by decide +kernel
theorem dX4_leastSweeps_61 : decode cX4_leastSweeps 61 = .ok (.aload_n 0, 1) := by decide +kernel
theorem dX4_leastSweeps_62 : decode cX4_leastSweeps 62 = .ok (.getfield 54, 3) := by decide +kernel
theorem dX4_leastSweeps_65 : decode cX4_leastSweeps 65 = .ok (.aload_n 0, 1) := by decide +kernel
theorem dX4_leastSweeps_66 : decode cX4_leastSweeps 66 = .ok (.getfield 120, 3) := by decide +kernel
theorem dX4_leastSweeps_69 : decode cX4_leastSweeps 69 = .ok (.aaload, 1) := by decide +kernel
theorem dX4_leastSweeps_70 : decode cX4_leastSweeps 70 = .ok (.bipush 10, 2) := by decide +kernel
theorem dX4_leastSweeps_72 : decode cX4_leastSweeps 72 = .ok (.iaload, 1) := by decide +kernel
theorem dX4_leastSweeps_73 : decode cX4_leastSweeps 73 = .ok (.ireturn, 1) := by decide +kernel
def wp_X4_leastSweeps_J51 (P : Int32 → FX → Prop) (s24 : FX) (t1_51 : Int32) : Prop := (wp_X4_fails s24.1 t1_51 (fun r51 s51 => ((r51 = 0 → (vp_in (s51.1 2) 1024 ∧ ((vp_in (s51.1 2) 1024 ∧ vp_in 10 11) ∧ (P (s24.2.2.2.2 ((s51.1 2).toNatClampNeg) (10 : Int32).toNatClampNeg) (s51, s24.2.1, s24.2.2.1, s24.2.2.2.1, s24.2.2.2.2))))) ∧ (¬ r51 = 0 → (P 0 (s51, s24.2.1, s24.2.2.1, s24.2.2.2.1, s24.2.2.2.2))))))
def wp_X4_leastSweeps_J15 (fu : Nat) (σ : FX) (P : Int32 → FX → Prop) (t1_15 : Int32) : Prop := (wp_X4_fails σ.1 t1_15 (fun r15 s15 => ((r15 = 0 → (wp_X4_sweep fu (s15, σ.2.1, σ.2.2.1, σ.2.2.2.1, σ.2.2.2.2) (fun s24 => (vp_in (s24.1.1 2) 1024 ∧ ((vp_in (s24.1.1 2) 1024 ∧ vp_in 10 11) ∧ (((s24.2.2.2.2 ((s24.1.1 2).toNatClampNeg) (10 : Int32).toNatClampNeg) < 1000 → (wp_X4_leastSweeps_J51 P s24 0)) ∧ (¬ (s24.2.2.2.2 ((s24.1.1 2).toNatClampNeg) (10 : Int32).toNatClampNeg) < 1000 → (wp_X4_leastSweeps_J51 P s24 2)))))))) ∧ (¬ r15 = 0 → (P 0 (s15, σ.2.1, σ.2.2.1, σ.2.2.2.1, σ.2.2.2.2))))))
def wp_X4_leastSweeps (fu : Nat) (σ : FX) (P : Int32 → FX → Prop) : Prop := (((σ.1.1 0) ≤ 10 → (wp_X4_leastSweeps_J15 fu σ P 0)) ∧ (¬ (σ.1.1 0) ≤ 10 → (wp_X4_leastSweeps_J15 fu σ P 1)))
theorem k_X4_leastSweeps : KV RX4 yX4_leastSweeps cX4_leastSweeps 1 (some .int) 0 := ⟨q1653, q1654, q5, q1655, by decide +kernel⟩
set_option maxHeartbeats 4000000 in
set_option maxRecDepth 100000 in
theorem m_X4_leastSweeps (l : Launch) (dC : Nat → ClassId) (dI : Nat → Nat → Nat) (h : Nat → Nat) (cy : Nat → ClassId) (z ad : Nat → Nat) (sz : Nat) (fu : Nat) (σ : FX) (P : Int32 → FX → Prop) (hF : wp_X4_leastSweeps fu σ P) : Met l yX4_leastSweeps (ws_ yX4_leastSweeps cX4_leastSweeps 1 (some .int)) ({ frames := 3, cells := 0, slots := 0, locals := 67 } : Room) (va_Pc [.ref (h 0)] (PcF dC dI cy z ad (wC h cy σ.1 ++ (wl ad cy (z 0) (h 20) σ.2.1 ++ (wl ad cy (z 0) (h 21) σ.2.2.1 ++ (wl ad cy (z 0) (h 22) σ.2.2.2.1 ++ wS h cy σ.2.2.2.2)))) sz)) (va_Qi (fun r u => P r u) (fun (u : FX) t => va_P (dC, dI) classes (wC h cy u.1 ++ (wl ad cy (z 0) (h 20) u.2.1 ++ (wl ad cy (z 0) (h 21) u.2.2.1 ++ (wl ad cy (z 0) (h 22) u.2.2.2.1 ++ wS h cy u.2.2.2.2)))) t.heap ∧ va_D (va_A (wC h cy σ.1 ++ (wl ad cy (z 0) (h 20) σ.2.1 ++ (wl ad cy (z 0) (h 21) σ.2.2.1 ++ (wl ad cy (z 0) (h 22) σ.2.2.2.1 ++ wS h cy σ.2.2.2.2)))) sz) (wC h cy u.1 ++ (wl ad cy (z 0) (h 20) u.2.1 ++ (wl ad cy (z 0) (h 21) u.2.2.1 ++ (wl ad cy (z 0) (h 22) u.2.2.2.1 ++ wS h cy u.2.2.2.2))))) (va_A (wC h cy σ.1 ++ (wl ad cy (z 0) (h 20) σ.2.1 ++ (wl ad cy (z 0) (h 21) σ.2.2.1 ++ (wl ad cy (z 0) (h 22) σ.2.2.2.1 ++ wS h cy σ.2.2.2.2)))) sz)) 0 0 (va_A (wC h cy σ.1 ++ (wl ad cy (z 0) (h 20) σ.2.1 ++ (wl ad cy (z 0) (h 21) σ.2.2.1 ++ (wl ad cy (z 0) (h 22) σ.2.2.2.1 ++ wS h cy σ.2.2.2.2)))) sz) := by
  refine Met.ofCx (own := RX4) (by decide) rfl (Nat.le_of_ble_eq_true rfl) ?_
  intro p e s m below meth c hC hv ls hl
  obtain ⟨hx, hb, hr, hml, hown, hts, hlocks⟩ := hC
  have hl : lv_has ls 1 [(0, .ref (h 0))] := hl
  obtain ⟨hsz, hP, hK, hD0, hZ, hvk⟩ := hv
  subst hsz
  have hD := hD0.self (sz := s.heap.size)
  generalize hAe : va_A (wC h cy σ.1 ++ (wl ad cy (z 0) (h 20) σ.2.1 ++ (wl ad cy (z 0) (h 21) σ.2.2.1 ++ (wl ad cy (z 0) (h 22) σ.2.2.2.1 ++ wS h cy σ.2.2.2.2)))) s.heap.size = A at hD hZ ⊢
  have hA : ∀ q : Nat, s.heap.size ≤ q → A q := fun q h => by rw [← hAe]; exact Or.inr h
  have hS : va_S A s.heap s.heap [] := va_S.rf
  clear hAe
  unfold wp_X4_leastSweeps at hF
  refine lv_aload_n hx hb dX4_leastSweeps_0 rfl (lv_at hl 0 rfl) ?_
  refine lv_aload_n hx hb dX4_leastSweeps_1 rfl (lv_at hl 0 rfl) ?_
  refine va_get (D := (dC, dI)) (ci := 4) (v := .int (σ.1.1 0)) (C := RX4) (T := TX4) (N := 19) hx hb hts in_X4 hown hK.1 hP 0 rfl rfl 13 (by decide) (hts _ q963) (fun _ h9 => h9) rfl dX4_leastSweeps_2 ?_
  refine lv_bipush (v := 10) hx hb dX4_leastSweeps_5 (by decide) ?_
  have hJ15 : ∀ (t1_15 : Int32), wp_X4_leastSweeps_J15 fu σ P t1_15 → ∀ (H : Heap) (locs : List Loc), va_P (dC, dI) classes (wC h cy σ.1 ++ (wl ad cy (z 0) (h 20) σ.2.1 ++ (wl ad cy (z 0) (h 21) σ.2.2.1 ++ (wl ad cy (z 0) (h 22) σ.2.2.2.1 ++ wS h cy σ.2.2.2.2)))) H → va_D A (wC h cy σ.1 ++ (wl ad cy (z 0) (h 20) σ.2.1 ++ (wl ad cy (z 0) (h 21) σ.2.2.1 ++ (wl ad cy (z 0) (h 22) σ.2.2.2.1 ++ wS h cy σ.2.2.2.2)))) → va_S A s.heap H locs → ∀ (ls : Array Slot), lv_has ls 1 [(0, .ref (h 0))] → W p l e ({ frames := 3, cells := 0, slots := 0, locals := 67 } : Room) s m ([.ref (h 0)] : List Value).toArray below meth c H locs 0 0 (MQ below (va_Qi (fun r u => P r u) (fun (u : FX) t => va_P (dC, dI) classes (wC h cy u.1 ++ (wl ad cy (z 0) (h 20) u.2.1 ++ (wl ad cy (z 0) (h 21) u.2.2.1 ++ (wl ad cy (z 0) (h 22) u.2.2.2.1 ++ wS h cy u.2.2.2.2)))) t.heap ∧ va_D A (wC h cy u.1 ++ (wl ad cy (z 0) (h 20) u.2.1 ++ (wl ad cy (z 0) (h 21) u.2.2.1 ++ (wl ad cy (z 0) (h 22) u.2.2.2.1 ++ wS h cy u.2.2.2.2))))) A) ([.ref (h 0)] : List Value).toArray s 0 0 A) (F0 m 15 ls [.int t1_15, .ref (h 0)]) := by
    intro t1_15 hF H locs hP hD hS ls hl
    unfold wp_X4_leastSweeps_J15 at hF
    have hPc := fw_get (fp0 _ _) hP
    have hDc := fw_getD (fp0 _ _) hD
    have hFc := fw_free (fp0 _ _) hD hS hA
    refine cwVi (q0 := 0) (As := [.int t1_15]) (rest := []) ⟨hx, hb, hr, hml, hown, hts, hlocks⟩ hK hPc hDc rfl rfl hS hFc (m_X4_fails l dC dI h cy _ σ.1 t1_15 _ hF) k_X4_fails q1102 ⟨rfl, rfl⟩ ⟨Nat.le_of_ble_eq_true rfl, Nat.le_of_ble_eq_true rfl⟩ hl.1 rfl rfl (Nat.le_of_ble_eq_true rfl) dX4_leastSweeps_15 ⟨Nat.le_of_ble_eq_true rfl, Nat.le_of_ble_eq_true rfl⟩ (fun r15 u H1 locs hF hP1 hD1 hk1 hS => ?_)
    obtain ⟨s15, rfl⟩ : ∃ z, z = u := ⟨_, rfl⟩
    obtain ⟨hP, hD⟩ := fw_join (fp0 _ _) hP hD hk1 hFc hP1 hD1
    generalize H1 = H at hP hS ⊢
    have hP : va_P (dC, dI) classes (wC h cy s15 ++ (wl ad cy (z 0) (h 20) σ.2.1 ++ (wl ad cy (z 0) (h 21) σ.2.2.1 ++ (wl ad cy (z 0) (h 22) σ.2.2.2.1 ++ wS h cy σ.2.2.2.2)))) H := hP
    have hD : va_D A (wC h cy s15 ++ (wl ad cy (z 0) (h 20) σ.2.1 ++ (wl ad cy (z 0) (h 21) σ.2.2.1 ++ (wl ad cy (z 0) (h 22) σ.2.2.2.1 ++ wS h cy σ.2.2.2.2)))) := hD
    refine lv_if_eq (tgt := 23) hx hb dX4_leastSweeps_18 (by decide) (fun cz => ?_) (fun cz => ?_)
    · have hF := hF.1 cz
      refine lv_aload_n hx hb dX4_leastSweeps_23 rfl (lv_at hl 0 rfl) ?_
      refine cfVv (x := wC h cy s15 ++ (wl ad cy (z 0) (h 20) σ.2.1 ++ (wl ad cy (z 0) (h 21) σ.2.2.1 ++ (wl ad cy (z 0) (h 22) σ.2.2.2.1 ++ wS h cy σ.2.2.2.2)))) (fpN _) ⟨hx, hb, hr, hml, hown, hts, hlocks⟩ hK hP hD hZ hvk hS hA rfl (m_X4_sweep l dC dI h cy z ad _ fu (s15, σ.2.1, σ.2.2.1, σ.2.2.2.1, σ.2.2.2.2)  _ hF) (As := []) (rest := []) k_X4_sweep q1656 ⟨rfl, rfl⟩ ⟨Nat.le_of_ble_eq_true rfl, Nat.le_of_ble_eq_true rfl⟩ hl.1 rfl rfl (Nat.le_of_ble_eq_true rfl) dX4_leastSweeps_24 ⟨Nat.le_of_ble_eq_true rfl, Nat.le_of_ble_eq_true rfl⟩ (fun s24 H1 locs hF hP1 hD1 hS => ?_)
      have hP := va_P.perm (fpN _).symm hP1
      have hD := va_D.perm (fpN _).symm hD1
      generalize H1 = H at hP hS ⊢
      have hP : va_P (dC, dI) classes (wC h cy s24.1 ++ (wl ad cy (z 0) (h 20) s24.2.1 ++ (wl ad cy (z 0) (h 21) s24.2.2.1 ++ (wl ad cy (z 0) (h 22) s24.2.2.2.1 ++ wS h cy s24.2.2.2.2)))) H := hP
      have hD : va_D A (wC h cy s24.1 ++ (wl ad cy (z 0) (h 20) s24.2.1 ++ (wl ad cy (z 0) (h 21) s24.2.2.1 ++ (wl ad cy (z 0) (h 22) s24.2.2.2.1 ++ wS h cy s24.2.2.2.2)))) := hD
      refine lv_aload_n hx hb dX4_leastSweeps_27 rfl (lv_at hl 0 rfl) ?_
      refine lv_aload_n hx hb dX4_leastSweeps_28 rfl (lv_at hl 0 rfl) ?_
      refine va_get (D := (dC, dI)) (ci := 4) (v := .ref (h 23)) (C := RX4) (T := TX4) (N := 19) hx hb hts in_X4 hown hK.1 hP 0 rfl rfl 12 (by decide) (hts _ q962) (fun _ h9 => h9) rfl dX4_leastSweeps_29 ?_
      refine lv_aload_n hx hb dX4_leastSweeps_32 rfl (lv_at hl 0 rfl) ?_
      refine va_get (D := (dC, dI)) (ci := 4) (v := .int (s24.1.1 2)) (C := RX4) (T := TX4) (N := 19) hx hb hts in_X4 hown hK.1 hP 0 rfl rfl 15 (by decide) (hts _ q965) (fun _ h9 => h9) rfl dX4_leastSweeps_33 ?_
      have hI := hF.1
      have hF := hF.2
      refine swRow (fp4 _ _ _ _ _) ⟨hx, hb, hr, hml, hown, hts, hlocks⟩ hK hP hI dX4_leastSweeps_36 ?_
      refine lv_bipush (v := 10) hx hb dX4_leastSweeps_37 (by decide) ?_
      have hI := hF.1
      have hF := hF.2
      refine swLoad (fp4 _ _ _ _ _) ⟨hx, hb, hr, hml, hown, hts, hlocks⟩ hK hP hI.1 hI.2 dX4_leastSweeps_39 ?_
      refine lv_sipush (v := 1000) hx hb dX4_leastSweeps_40 (by decide) ?_
      have hJ51 : ∀ (t1_51 : Int32), wp_X4_leastSweeps_J51 P s24 t1_51 → ∀ (H : Heap) (locs : List Loc), va_P (dC, dI) classes (wC h cy s24.1 ++ (wl ad cy (z 0) (h 20) s24.2.1 ++ (wl ad cy (z 0) (h 21) s24.2.2.1 ++ (wl ad cy (z 0) (h 22) s24.2.2.2.1 ++ wS h cy s24.2.2.2.2)))) H → va_D A (wC h cy s24.1 ++ (wl ad cy (z 0) (h 20) s24.2.1 ++ (wl ad cy (z 0) (h 21) s24.2.2.1 ++ (wl ad cy (z 0) (h 22) s24.2.2.2.1 ++ wS h cy s24.2.2.2.2)))) → va_S A s.heap H locs → ∀ (ls : Array Slot), lv_has ls 1 [(0, .ref (h 0))] → W p l e ({ frames := 3, cells := 0, slots := 0, locals := 67 } : Room) s m ([.ref (h 0)] : List Value).toArray below meth c H locs 0 0 (MQ below (va_Qi (fun r u => P r u) (fun (u : FX) t => va_P (dC, dI) classes (wC h cy u.1 ++ (wl ad cy (z 0) (h 20) u.2.1 ++ (wl ad cy (z 0) (h 21) u.2.2.1 ++ (wl ad cy (z 0) (h 22) u.2.2.2.1 ++ wS h cy u.2.2.2.2)))) t.heap ∧ va_D A (wC h cy u.1 ++ (wl ad cy (z 0) (h 20) u.2.1 ++ (wl ad cy (z 0) (h 21) u.2.2.1 ++ (wl ad cy (z 0) (h 22) u.2.2.2.1 ++ wS h cy u.2.2.2.2))))) A) ([.ref (h 0)] : List Value).toArray s 0 0 A) (F0 m 51 ls [.int t1_51, .ref (h 0)]) := by
        intro t1_51 hF H locs hP hD hS ls hl
        unfold wp_X4_leastSweeps_J51 at hF
        have hPc := fw_get (fp0 _ _) hP
        have hDc := fw_getD (fp0 _ _) hD
        have hFc := fw_free (fp0 _ _) hD hS hA
        refine cwVi (q0 := 0) (As := [.int t1_51]) (rest := []) ⟨hx, hb, hr, hml, hown, hts, hlocks⟩ hK hPc hDc rfl rfl hS hFc (m_X4_fails l dC dI h cy _ s24.1 t1_51 _ hF) k_X4_fails q1102 ⟨rfl, rfl⟩ ⟨Nat.le_of_ble_eq_true rfl, Nat.le_of_ble_eq_true rfl⟩ hl.1 rfl rfl (Nat.le_of_ble_eq_true rfl) dX4_leastSweeps_51 ⟨Nat.le_of_ble_eq_true rfl, Nat.le_of_ble_eq_true rfl⟩ (fun r51 u H1 locs hF hP1 hD1 hk1 hS => ?_)
        obtain ⟨s51, rfl⟩ : ∃ z, z = u := ⟨_, rfl⟩
        obtain ⟨hP, hD⟩ := fw_join (fp0 _ _) hP hD hk1 hFc hP1 hD1
        generalize H1 = H at hP hS ⊢
        have hP : va_P (dC, dI) classes (wC h cy s51 ++ (wl ad cy (z 0) (h 20) s24.2.1 ++ (wl ad cy (z 0) (h 21) s24.2.2.1 ++ (wl ad cy (z 0) (h 22) s24.2.2.2.1 ++ wS h cy s24.2.2.2.2)))) H := hP
        have hD : va_D A (wC h cy s51 ++ (wl ad cy (z 0) (h 20) s24.2.1 ++ (wl ad cy (z 0) (h 21) s24.2.2.1 ++ (wl ad cy (z 0) (h 22) s24.2.2.2.1 ++ wS h cy s24.2.2.2.2)))) := hD
        refine lv_if_eq (tgt := 61) hx hb dX4_leastSweeps_54 (by decide) (fun cz => ?_) (fun cz => ?_)
        · have hF := hF.1 cz
          refine lv_aload_n hx hb dX4_leastSweeps_61 rfl (lv_at hl 0 rfl) ?_
          refine va_get (D := (dC, dI)) (ci := 4) (v := .ref (h 23)) (C := RX4) (T := TX4) (N := 19) hx hb hts in_X4 hown hK.1 hP 0 rfl rfl 12 (by decide) (hts _ q962) (fun _ h9 => h9) rfl dX4_leastSweeps_62 ?_
          refine lv_aload_n hx hb dX4_leastSweeps_65 rfl (lv_at hl 0 rfl) ?_
          refine va_get (D := (dC, dI)) (ci := 4) (v := .int (s51.1 2)) (C := RX4) (T := TX4) (N := 19) hx hb hts in_X4 hown hK.1 hP 0 rfl rfl 15 (by decide) (hts _ q965) (fun _ h9 => h9) rfl dX4_leastSweeps_66 ?_
          have hI := hF.1
          have hF := hF.2
          refine swRow (fp4 _ _ _ _ _) ⟨hx, hb, hr, hml, hown, hts, hlocks⟩ hK hP hI dX4_leastSweeps_69 ?_
          refine lv_bipush (v := 10) hx hb dX4_leastSweeps_70 (by decide) ?_
          have hI := hF.1
          have hF := hF.2
          refine swLoad (fp4 _ _ _ _ _) ⟨hx, hb, hr, hml, hown, hts, hlocks⟩ hK hP hI.1 hI.2 dX4_leastSweeps_72 ?_
          exact W.iret (v := s24.2.2.2.2 ((s51.1 2).toNatClampNeg) (10 : Int32).toNatClampNeg) hx hb hr (fun t ht hW => ⟨⟨s24.2.2.2.2 ((s51.1 2).toNatClampNeg) (10 : Int32).toNatClampNeg, (s51, s24.2.1, s24.2.2.1, s24.2.2.2.1, s24.2.2.2.2), rfl, hF, by rw [ht]; exact hP, hD⟩, hS.F ht⟩) hS.2.2 dX4_leastSweeps_73
        · have hF := hF.2 cz
          refine lv_iconst (v := 0) hx hb dX4_leastSweeps_57 (by decide) ?_
          refine lv_goto (tgt := 73) hx hb dX4_leastSweeps_58 (by decide) ?_
          exact W.iret (v := 0) hx hb hr (fun t ht hW => ⟨⟨0, (s51, s24.2.1, s24.2.2.1, s24.2.2.2.1, s24.2.2.2.2), rfl, hF, by rw [ht]; exact hP, hD⟩, hS.F ht⟩) hS.2.2 dX4_leastSweeps_73
      refine lv_icmp_lt (tgt := 50) hx hb dX4_leastSweeps_43 (by decide) (fun cz => ?_) (fun cz => ?_)
      · have hF := hF.1 cz
        refine lv_iconst (v := 0) hx hb dX4_leastSweeps_50 (by decide) ?_
        exact hJ51 0 hF _ _ hP hD hS _ (lv_sub hl [0] rfl)
      · have hF := hF.2 cz
        refine lv_iconst (v := 2) hx hb dX4_leastSweeps_46 (by decide) ?_
        refine lv_goto (tgt := 51) hx hb dX4_leastSweeps_47 (by decide) ?_
        exact hJ51 2 hF _ _ hP hD hS _ (lv_sub hl [0] rfl)
    · have hF := hF.2 cz
      refine lv_iconst (v := 0) hx hb dX4_leastSweeps_21 (by decide) ?_
      exact W.iret (v := 0) hx hb hr (fun t ht hW => ⟨⟨0, (s15, σ.2.1, σ.2.2.1, σ.2.2.2.1, σ.2.2.2.2), rfl, hF, by rw [ht]; exact hP, hD⟩, hS.F ht⟩) hS.2.2 dX4_leastSweeps_22
  refine lv_icmp_le (tgt := 14) hx hb dX4_leastSweeps_7 (by decide) (fun cz => ?_) (fun cz => ?_)
  · have hF := hF.1 cz
    refine lv_iconst (v := 0) hx hb dX4_leastSweeps_14 (by decide) ?_
    exact hJ15 0 hF _ _ hP hD hS _ (lv_sub hl [0] rfl)
  · have hF := hF.2 cz
    refine lv_iconst (v := 1) hx hb dX4_leastSweeps_10 (by decide) ?_
    refine lv_goto (tgt := 15) hx hb dX4_leastSweeps_11 (by decide) ?_
    exact hJ15 1 hF _ _ hP hD hS _ (lv_sub hl [0] rfl)
theorem dX4_tell_0 : decode cX4_tell 0 = .ok (.aload_n 0, 1) := by decide +kernel
theorem dX4_tell_1 : decode cX4_tell 1 = .ok (.aload_n 0, 1) := by decide +kernel
theorem dX4_tell_2 : decode cX4_tell 2 = .ok (.iload_n 1, 1) := by decide +kernel
theorem dX4_tell_3 : decode cX4_tell 3 = .ok (.invokevirtual 132, 3) := by decide +kernel
theorem dX4_tell_6 : decode cX4_tell 6 = .ok (.ifCond .ne 7, 3) := by decide +kernel
theorem dX4_tell_9 : decode cX4_tell 9 = .ok (.iconst 1, 1) := by decide +kernel
theorem dX4_tell_10 : decode cX4_tell 10 = .ok (.goto 22, 3) := by decide +kernel
theorem dX4_tell_13 : decode cX4_tell 13 = .ok (.aload_n 0, 1) := by decide +kernel
theorem dX4_tell_14 : decode cX4_tell 14 = .ok (.getfield 35, 3) := by decide +kernel
theorem dX4_tell_17 : decode cX4_tell 17 = .ok (.invokeinterface 198 1, 5) := by decide +kernel
theorem dX4_tell_22 : decode cX4_tell 22 = .ok (.bipush 12, 2) := by decide +kernel
theorem dX4_tell_24 : decode cX4_tell 24 = .ok (.if_icmp .ne 7, 3) := by decide +kernel
theorem dX4_tell_27 : decode cX4_tell 27 = .ok (.iconst 2, 1) := by decide +kernel
theorem dX4_tell_28 : decode cX4_tell 28 = .ok (.goto 4, 3) := by decide +kernel
theorem dX4_tell_31 : decode cX4_tell 31 = .ok (.iconst 0, 1) := by decide +kernel
theorem dX4_tell_32 : decode cX4_tell 32 = .ok (.invokevirtual 100, 3) := by decide +kernel
theorem dX4_tell_35 : decode cX4_tell 35 = .ok (.ifCond .eq 5, 3) := by decide +kernel
theorem dX4_tell_38 : decode cX4_tell 38 = .ok (.iconst 0, 1) := by decide +kernel
theorem dX4_tell_39 : decode cX4_tell 39 = .ok (.ireturn, 1) := by decide +kernel
theorem dX4_tell_40 : decode cX4_tell 40 = .ok (.aload_n 0, 1) := by decide +kernel
theorem dX4_tell_41 : decode cX4_tell 41 = .ok (.getfield 35, 3) := by decide +kernel
theorem dX4_tell_44 : decode cX4_tell 44 = .ok (.iload_n 1, 1) := by decide +kernel
theorem dX4_tell_45 : decode cX4_tell 45 = .ok (.invokestatic 169, 3) := by decide +kernel
theorem dX4_tell_48 : decode cX4_tell 48 = .ok (.invokeinterface 175 2, 5) := by decide +kernel
theorem dX4_tell_53 : decode cX4_tell 53 = .ok (.pop, 1) := by decide +kernel
theorem dX4_tell_54 : decode cX4_tell 54 = .ok (.aload_n 0, 1) := by decide +kernel
theorem dX4_tell_55 : decode cX4_tell 55 = .ok (.getfield 35, 3) := by decide +kernel
theorem dX4_tell_58 : decode cX4_tell 58 = .ok (.invokeinterface 198 1, 5) := by decide +kernel
theorem dX4_tell_63 : decode cX4_tell 63 = .ok (.ireturn, 1) := by decide +kernel
def wp_X4_tell_J32 (σ : FX) (x1 : Int32) (P : Int32 → FX → Prop) (t1_32 : Int32) : Prop := (wp_X4_fails σ.1 t1_32 (fun r32 s32 => ((r32 = 0 → (vp_in x1 128 ∧ (okL σ.2.2.1 ∧ (σ.2.2.1.2.2.2.2.2 < 12 ∧ ∀ w48 : LST, okL w48 → w48.2.2.2.2.2 = σ.2.2.1.2.2.2.2.2 + 1 → w48.2.2.2.2.1 = upN (σ.2.2.1.2.2.2.2.1) σ.2.2.1.2.2.2.2.2 x1.toNatClampNeg → (okL w48 ∧ (P (nI w48.2.2.2.2.2) (s32, σ.2.1, w48, σ.2.2.2.1, σ.2.2.2.2))))))) ∧ (¬ r32 = 0 → (P 0 (s32, σ.2.1, σ.2.2.1, σ.2.2.2.1, σ.2.2.2.2))))))
def wp_X4_tell (σ : FX) (x1 : Int32) (P : Int32 → FX → Prop) : Prop := (wp_X4_isHole σ.1 x1 (fun r3 => ((¬ r3 = 0 → (okL σ.2.2.1 ∧ ((¬ (nI σ.2.2.1.2.2.2.2.2) = 12 → (wp_X4_tell_J32 σ x1 P 0)) ∧ ((nI σ.2.2.1.2.2.2.2.2) = 12 → (wp_X4_tell_J32 σ x1 P 2))))) ∧ (r3 = 0 → (wp_X4_tell_J32 σ x1 P 1)))))
theorem k_X4_tell : KV RX4 yX4_tell cX4_tell 2 (some .int) 1 := ⟨q1737, q1738, q5, q1739, by decide +kernel⟩
set_option maxHeartbeats 4000000 in
set_option maxRecDepth 100000 in
theorem m_X4_tell (l : Launch) (dC : Nat → ClassId) (dI : Nat → Nat → Nat) (h : Nat → Nat) (cy : Nat → ClassId) (z ad : Nat → Nat) (sz : Nat) (σ : FX) (x1 : Int32) (P : Int32 → FX → Prop) (hF : wp_X4_tell σ x1 P) : Met l yX4_tell (ws_ yX4_tell cX4_tell 2 (some .int)) ({ frames := 7, cells := 1, slots := 15, locals := 226 } : Room) (va_Pc [.ref (h 0), .int x1] (PcF dC dI cy z ad (wC h cy σ.1 ++ (wl ad cy (z 0) (h 20) σ.2.1 ++ (wl ad cy (z 0) (h 21) σ.2.2.1 ++ (wl ad cy (z 0) (h 22) σ.2.2.2.1 ++ wS h cy σ.2.2.2.2)))) sz)) (va_Qi (fun r u => P r u) (fun (u : FX) t => va_P (dC, dI) classes (wC h cy u.1 ++ (wl ad cy (z 0) (h 20) u.2.1 ++ (wl ad cy (z 0) (h 21) u.2.2.1 ++ (wl ad cy (z 0) (h 22) u.2.2.2.1 ++ wS h cy u.2.2.2.2)))) t.heap ∧ va_D (va_A (wC h cy σ.1 ++ (wl ad cy (z 0) (h 20) σ.2.1 ++ (wl ad cy (z 0) (h 21) σ.2.2.1 ++ (wl ad cy (z 0) (h 22) σ.2.2.2.1 ++ wS h cy σ.2.2.2.2)))) sz) (wC h cy u.1 ++ (wl ad cy (z 0) (h 20) u.2.1 ++ (wl ad cy (z 0) (h 21) u.2.2.1 ++ (wl ad cy (z 0) (h 22) u.2.2.2.1 ++ wS h cy u.2.2.2.2))))) (va_A (wC h cy σ.1 ++ (wl ad cy (z 0) (h 20) σ.2.1 ++ (wl ad cy (z 0) (h 21) σ.2.2.1 ++ (wl ad cy (z 0) (h 22) σ.2.2.2.1 ++ wS h cy σ.2.2.2.2)))) sz)) 1 15 (va_A (wC h cy σ.1 ++ (wl ad cy (z 0) (h 20) σ.2.1 ++ (wl ad cy (z 0) (h 21) σ.2.2.1 ++ (wl ad cy (z 0) (h 22) σ.2.2.2.1 ++ wS h cy σ.2.2.2.2)))) sz) := by
  refine Met.ofCx (own := RX4) (by decide) rfl (Nat.le_of_ble_eq_true rfl) ?_
  intro p e s m below meth c hC hv ls hl
  obtain ⟨hx, hb, hr, hml, hown, hts, hlocks⟩ := hC
  have hl : lv_has ls 2 [(0, .ref (h 0)), (1, .int x1)] := hl
  obtain ⟨hsz, hP, hK, hD0, hZ, hvk⟩ := hv
  subst hsz
  have hD := hD0.self (sz := s.heap.size)
  generalize hAe : va_A (wC h cy σ.1 ++ (wl ad cy (z 0) (h 20) σ.2.1 ++ (wl ad cy (z 0) (h 21) σ.2.2.1 ++ (wl ad cy (z 0) (h 22) σ.2.2.2.1 ++ wS h cy σ.2.2.2.2)))) s.heap.size = A at hD hZ ⊢
  have hA : ∀ q : Nat, s.heap.size ≤ q → A q := fun q h => by rw [← hAe]; exact Or.inr h
  have hS : va_S A s.heap s.heap [] := va_S.rf
  clear hAe
  unfold wp_X4_tell at hF
  refine lv_aload_n hx hb dX4_tell_0 rfl (lv_at hl 0 rfl) ?_
  refine lv_aload_n hx hb dX4_tell_1 rfl (lv_at hl 0 rfl) ?_
  refine lv_iload_n hx hb dX4_tell_2 rfl (lv_at hl 1 rfl) ?_
  have hPc := fw_get (fp0 _ _) hP
  refine cpVi (q0 := 0) (As := [.int x1]) (rest := [.ref (h 0)]) ⟨hx, hb, hr, hml, hown, hts, hlocks⟩ hK hPc rfl rfl (m_X4_isHole l dC dI h cy σ.1 x1 _ hF) k_X4_isHole q1159 ⟨rfl, rfl⟩ ⟨Nat.le_of_ble_eq_true rfl, Nat.le_of_ble_eq_true rfl⟩ hl.1 rfl rfl (Nat.le_of_ble_eq_true rfl) dX4_tell_3 ⟨Nat.le_of_ble_eq_true rfl, Nat.le_of_ble_eq_true rfl⟩ (fun r3 hF => ?_)
  have hJ32 : ∀ (t1_32 : Int32), wp_X4_tell_J32 σ x1 P t1_32 → ∀ (H : Heap) (locs : List Loc), va_P (dC, dI) classes (wC h cy σ.1 ++ (wl ad cy (z 0) (h 20) σ.2.1 ++ (wl ad cy (z 0) (h 21) σ.2.2.1 ++ (wl ad cy (z 0) (h 22) σ.2.2.2.1 ++ wS h cy σ.2.2.2.2)))) H → va_D A (wC h cy σ.1 ++ (wl ad cy (z 0) (h 20) σ.2.1 ++ (wl ad cy (z 0) (h 21) σ.2.2.1 ++ (wl ad cy (z 0) (h 22) σ.2.2.2.1 ++ wS h cy σ.2.2.2.2)))) → va_S A s.heap H locs → ∀ (ls : Array Slot), lv_has ls 2 [(0, .ref (h 0)), (1, .int x1)] → W p l e ({ frames := 7, cells := 1, slots := 15, locals := 226 } : Room) s m ([.ref (h 0), .int x1] : List Value).toArray below meth c H locs 0 0 (MQ below (va_Qi (fun r u => P r u) (fun (u : FX) t => va_P (dC, dI) classes (wC h cy u.1 ++ (wl ad cy (z 0) (h 20) u.2.1 ++ (wl ad cy (z 0) (h 21) u.2.2.1 ++ (wl ad cy (z 0) (h 22) u.2.2.2.1 ++ wS h cy u.2.2.2.2)))) t.heap ∧ va_D A (wC h cy u.1 ++ (wl ad cy (z 0) (h 20) u.2.1 ++ (wl ad cy (z 0) (h 21) u.2.2.1 ++ (wl ad cy (z 0) (h 22) u.2.2.2.1 ++ wS h cy u.2.2.2.2))))) A) ([.ref (h 0), .int x1] : List Value).toArray s 1 15 A) (F0 m 32 ls [.int t1_32, .ref (h 0)]) := by
    intro t1_32 hF H locs hP hD hS ls hl
    unfold wp_X4_tell_J32 at hF
    have hPc := fw_get (fp0 _ _) hP
    have hDc := fw_getD (fp0 _ _) hD
    have hFc := fw_free (fp0 _ _) hD hS hA
    refine cwVi (q0 := 0) (As := [.int t1_32]) (rest := []) ⟨hx, hb, hr, hml, hown, hts, hlocks⟩ hK hPc hDc rfl rfl hS hFc (m_X4_fails l dC dI h cy _ σ.1 t1_32 _ hF) k_X4_fails q1102 ⟨rfl, rfl⟩ ⟨Nat.le_of_ble_eq_true rfl, Nat.le_of_ble_eq_true rfl⟩ hl.1 rfl rfl (Nat.le_of_ble_eq_true rfl) dX4_tell_32 ⟨Nat.le_of_ble_eq_true rfl, Nat.le_of_ble_eq_true rfl⟩ (fun r32 u H1 locs hF hP1 hD1 hk1 hS => ?_)
    obtain ⟨s32, rfl⟩ : ∃ z, z = u := ⟨_, rfl⟩
    obtain ⟨hP, hD⟩ := fw_join (fp0 _ _) hP hD hk1 hFc hP1 hD1
    generalize H1 = H at hP hS ⊢
    have hP : va_P (dC, dI) classes (wC h cy s32 ++ (wl ad cy (z 0) (h 20) σ.2.1 ++ (wl ad cy (z 0) (h 21) σ.2.2.1 ++ (wl ad cy (z 0) (h 22) σ.2.2.2.1 ++ wS h cy σ.2.2.2.2)))) H := hP
    have hD : va_D A (wC h cy s32 ++ (wl ad cy (z 0) (h 20) σ.2.1 ++ (wl ad cy (z 0) (h 21) σ.2.2.1 ++ (wl ad cy (z 0) (h 22) σ.2.2.2.1 ++ wS h cy σ.2.2.2.2)))) := hD
    refine lv_if_eq (tgt := 40) hx hb dX4_tell_35 (by decide) (fun cz => ?_) (fun cz => ?_)
    · have hF := hF.1 cz
      refine lv_aload_n hx hb dX4_tell_40 rfl (lv_at hl 0 rfl) ?_
      refine va_get (D := (dC, dI)) (ci := 4) (v := .ref (h 21)) (C := RX4) (T := TX4) (N := 19) hx hb hts in_X4 hown hK.1 hP 0 rfl rfl 7 (by decide) (hts _ q957) (fun _ h9 => h9) rfl dX4_tell_41 ?_
      refine lv_iload_n hx hb dX4_tell_44 rfl (lv_at hl 1 rfl) ?_
      have hI := hF.1
      have hF := hF.2
      have hB45 : x1.toNatClampNeg < 128 := vp_in_lt hI
      refine W.eq (g2 := F0 m 45 ls [.int (nI x1.toNatClampNeg), .ref (h 21)]) (by rw [nI_of_in hI (by decide)]) ?_
      refine czSq (As := [.int (nI x1.toNatClampNeg)]) (rest := [.ref (h 21)]) ⟨hx, hb, hr, hml, hown, hts, hlocks⟩ hZ.1 hS (m_J6_valueOf_2dffe l (z 0) (z 1) ad _ hB45) k_J6_valueOf_2dffe q1234 ⟨rfl, rfl⟩ ⟨Nat.le_of_ble_eq_true rfl, Nat.le_of_ble_eq_true rfl⟩ hl.1 rfl rfl (Nat.le_of_ble_eq_true rfl) dX4_tell_45 ⟨Nat.le_of_ble_eq_true rfl, Nat.le_of_ble_eq_true rfl⟩ ?_
      have hU := hF.1
      have hF := hF.2
      have hN := hF.1
      have hF := hF.2
      refine lsAdd (k := x1.toNatClampNeg) (fp2 _ _ _ _) ⟨hx, hb, hr, hml, hown, hts, hlocks⟩ hK hP hD hZ.1 hS hA hU hN hB45 q1255 ⟨Nat.le_of_ble_eq_true rfl, Nat.le_of_ble_eq_true rfl⟩ hl.1 (Nat.le_of_ble_eq_true rfl) dX4_tell_48 ⟨Nat.le_of_ble_eq_true rfl, Nat.le_of_ble_eq_true rfl⟩ (fun w48 hw1 hw2 hw3 H1 locs hP1 hD1 hS => ?_)
      have hF := hF w48 hw1 hw2 hw3
      have hP := va_P.perm (fp2 _ _ _ _).symm hP1
      have hD := va_D.perm (fp2 _ _ _ _).symm hD1
      generalize H1 = H at hP hS ⊢
      have hP : va_P (dC, dI) classes (wC h cy s32 ++ (wl ad cy (z 0) (h 20) σ.2.1 ++ (wl ad cy (z 0) (h 21) w48 ++ (wl ad cy (z 0) (h 22) σ.2.2.2.1 ++ wS h cy σ.2.2.2.2)))) H := hP
      have hD : va_D A (wC h cy s32 ++ (wl ad cy (z 0) (h 20) σ.2.1 ++ (wl ad cy (z 0) (h 21) w48 ++ (wl ad cy (z 0) (h 22) σ.2.2.2.1 ++ wS h cy σ.2.2.2.2)))) := hD
      refine lv_pop hx hb dX4_tell_53 rfl ?_
      refine lv_aload_n hx hb dX4_tell_54 rfl (lv_at hl 0 rfl) ?_
      refine va_get (D := (dC, dI)) (ci := 4) (v := .ref (h 21)) (C := RX4) (T := TX4) (N := 19) hx hb hts in_X4 hown hK.1 hP 0 rfl rfl 7 (by decide) (hts _ q957) (fun _ h9 => h9) rfl dX4_tell_55 ?_
      have hU := hF.1
      have hF := hF.2
      refine lsSize (fp2 _ _ _ _) ⟨hx, hb, hr, hml, hown, hts, hlocks⟩ hK hP hU q1350 ⟨Nat.le_of_ble_eq_true rfl, Nat.le_of_ble_eq_true rfl⟩ hl.1 (Nat.le_of_ble_eq_true rfl) dX4_tell_58 ⟨Nat.le_of_ble_eq_true rfl, Nat.le_of_ble_eq_true rfl⟩ ?_
      exact W.iret (v := nI w48.2.2.2.2.2) hx hb hr (fun t ht hW => ⟨⟨nI w48.2.2.2.2.2, (s32, σ.2.1, w48, σ.2.2.2.1, σ.2.2.2.2), rfl, hF, by rw [ht]; exact hP, hD⟩, hS.F ht⟩) hS.2.2 dX4_tell_63
    · have hF := hF.2 cz
      refine lv_iconst (v := 0) hx hb dX4_tell_38 (by decide) ?_
      refine W.widen (k := 1) (n := 15) (Nat.le_of_ble_eq_true rfl) (Nat.le_of_ble_eq_true rfl) ?_
      exact W.iret (v := 0) hx hb hr (fun t ht hW => ⟨⟨0, (s32, σ.2.1, σ.2.2.1, σ.2.2.2.1, σ.2.2.2.2), rfl, hF, by rw [ht]; exact hP, hD⟩, hS.F ht⟩) hS.2.2 dX4_tell_39
  refine lv_if_ne (tgt := 13) hx hb dX4_tell_6 (by decide) (fun cz => ?_) (fun cz => ?_)
  · have hF := hF.1 cz
    refine lv_aload_n hx hb dX4_tell_13 rfl (lv_at hl 0 rfl) ?_
    refine va_get (D := (dC, dI)) (ci := 4) (v := .ref (h 21)) (C := RX4) (T := TX4) (N := 19) hx hb hts in_X4 hown hK.1 hP 0 rfl rfl 7 (by decide) (hts _ q957) (fun _ h9 => h9) rfl dX4_tell_14 ?_
    have hU := hF.1
    have hF := hF.2
    refine lsSize (fp2 _ _ _ _) ⟨hx, hb, hr, hml, hown, hts, hlocks⟩ hK hP hU q1350 ⟨Nat.le_of_ble_eq_true rfl, Nat.le_of_ble_eq_true rfl⟩ hl.1 (Nat.le_of_ble_eq_true rfl) dX4_tell_17 ⟨Nat.le_of_ble_eq_true rfl, Nat.le_of_ble_eq_true rfl⟩ ?_
    refine lv_bipush (v := 12) hx hb dX4_tell_22 (by decide) ?_
    refine lv_icmp_ne (tgt := 31) hx hb dX4_tell_24 (by decide) (fun cz => ?_) (fun cz => ?_)
    · have hF := hF.1 cz
      refine lv_iconst (v := 0) hx hb dX4_tell_31 (by decide) ?_
      exact hJ32 0 hF _ _ hP hD hS _ (lv_sub hl [0, 1] rfl)
    · have hF := hF.2 cz
      refine lv_iconst (v := 2) hx hb dX4_tell_27 (by decide) ?_
      refine lv_goto (tgt := 32) hx hb dX4_tell_28 (by decide) ?_
      exact hJ32 2 hF _ _ hP hD hS _ (lv_sub hl [0, 1] rfl)
  · have hF := hF.2 cz
    refine lv_iconst (v := 1) hx hb dX4_tell_9 (by decide) ?_
    refine lv_goto (tgt := 32) hx hb dX4_tell_10 (by decide) ?_
    exact hJ32 1 hF _ _ hP hD hS _ (lv_sub hl [0, 1] rfl)
