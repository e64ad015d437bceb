theorem dX4_setKind_0 : decode cX4_setKind 0 = .ok (.aload_n 0, 1) := by decide +kernel
theorem dX4_setKind_1 : decode cX4_setKind 1 = .ok (.ldc 92, 2) := by decide +kernel
theorem dX4_setKind_3 : decode cX4_setKind 3 = .ok (.iload_n 1, 1) := by decide +kernel
theorem dX4_setKind_4 : decode cX4_setKind 4 = .ok (.invokevirtual 94, 3) := by decide +kernel
theorem dX4_setKind_7 : decode cX4_setKind 7 = .ok (.ifCond .ge 7, 3) := by decide +kernel
theorem dX4_setKind_10 : decode cX4_setKind 10 = .ok (.iconst 1, 1) := by decide +kernel
theorem dX4_setKind_11 : decode cX4_setKind 11 = .ok (.goto 4, 3) := by decide +kernel
theorem dX4_setKind_14 : decode cX4_setKind 14 = .ok (.iconst 0, 1) := by decide +kernel
theorem dX4_setKind_15 : decode cX4_setKind 15 = .ok (.invokevirtual 100, 3) := by decide +kernel
theorem dX4_setKind_18 : decode cX4_setKind 18 = .ok (.ifCond .eq 6, 3) := by decide +kernel
theorem dX4_setKind_21 : decode cX4_setKind 21 = .ok (.bipush 32, 2) := by decide +kernel
theorem dX4_setKind_23 : decode cX4_setKind 23 = .ok (.ireturn, 1) := by decide +kernel
theorem dX4_setKind_24 : decode cX4_setKind 24 = .ok (.ldc 92, 2) := by decide +kernel
theorem dX4_setKind_26 : decode cX4_setKind 26 = .ok (.aload_n 0, 1) := by decide +kernel
theorem dX4_setKind_27 : decode cX4_setKind 27 = .ok (.getfield 74, 3) := by decide +kernel
theorem dX4_setKind_30 : decode cX4_setKind 30 = .ok (.invokevirtual 104, 3) := by decide +kernel
theorem dX4_setKind_33 : decode cX4_setKind 33 = .ok (.istore_n 2, 1) := by decide +kernel
theorem dX4_setKind_34 : decode cX4_setKind 34 = .ok (.aload_n 0, 1) := by decide +kernel
theorem dX4_setKind_35 : decode cX4_setKind 35 = .ok (.ldc 92, 2) := by decide +kernel
theorem dX4_setKind_37 : decode cX4_setKind 37 = .ok (.iload_n 1, 1) := by decide +kernel
theorem dX4_setKind_38 : decode cX4_setKind 38 = .ok (.invokevirtual 94, 3) := by decide +kernel
theorem dX4_setKind_41 : decode cX4_setKind 41 = .ok (.putfield 74, 3) := by decide +kernel
theorem dX4_setKind_44 : decode cX4_setKind 44 = .ok (.aload_n 0, 1) := by decide +kernel
theorem dX4_setKind_45 : decode cX4_setKind 45 = .ok (.invokevirtual 57, 3) := by decide +kernel
theorem dX4_setKind_48 : decode cX4_setKind 48 = .ok (.iload_n 2, 1) := by decide +kernel
theorem dX4_setKind_49 : decode cX4_setKind 49 = .ok (.ireturn, 1) := by decide +kernel
def wp_X4_setKind_J15 (fu : Nat) (σ : FX) (x1 : Int32) (P : Int32 → FX → Prop) (t1_15 : Int32) : Prop := (wp_X4_fails σ.1 t1_15 (fun r15 s15 => ((r15 = 0 → (wp_J0_charAt_5068e (s15.1 4) (fun r30 => (wp_J0_indexOf_0f7a4 fu x1 (fun r38 => (wp_X4_lists fu (sI s15 4 r38, σ.2.1, σ.2.2.1, σ.2.2.2.1, σ.2.2.2.2) (fun s45 => (narrow .char (.int r30) = .int r30 ∧ (P r30 s45))))))))) ∧ (¬ r15 = 0 → (narrow .char (.int 32) = .int 32 ∧ (P 32 (s15, σ.2.1, σ.2.2.1, σ.2.2.2.1, σ.2.2.2.2)))))))
def wp_X4_setKind (fu : Nat) (σ : FX) (x1 : Int32) (P : Int32 → FX → Prop) : Prop := (wp_J0_indexOf_0f7a4 fu x1 (fun r4 => ((0 ≤ r4 → (wp_X4_setKind_J15 fu σ x1 P 0)) ∧ (¬ 0 ≤ r4 → (wp_X4_setKind_J15 fu σ x1 P 1)))))
theorem k_X4_setKind : KV RX4 yX4_setKind cX4_setKind 3 (some .char) 1 := ⟨q1014, q1015, q5, q1016, by decide +kernel⟩
set_option maxHeartbeats 4000000 in
set_option maxRecDepth 100000 in
theorem m_X4_setKind (l : Launch) (dC : Nat → ClassId) (dI : Nat → Nat → Nat) (h : Nat → Nat) (cy : Nat → ClassId) (z ad : Nat → Nat) (sz : Nat) (fu : Nat) (σ : FX) (x1 : Int32) (P : Int32 → FX → Prop) (hF : wp_X4_setKind fu σ x1 P) : Met l yX4_setKind (ws_ yX4_setKind cX4_setKind 3 (some .char)) ({ frames := 9, cells := 0, slots := 0, locals := 200 } : Room) (va_Pc [.ref (h 0), .int x1] (PcF dC dI cy z ad (wC h cy σ.1 ++ (wl ad cy (z 0) (h 20) σ.2.1 ++ (wl ad cy (z 0) (h 21) σ.2.2.1 ++ (wl ad cy (z 0) (h 22) σ.2.2.2.1 ++ wS h cy σ.2.2.2.2)))) sz)) (va_Qi (fun r u => P r u) (fun (u : FX) t => va_P (dC, dI) classes (wC h cy u.1 ++ (wl ad cy (z 0) (h 20) u.2.1 ++ (wl ad cy (z 0) (h 21) u.2.2.1 ++ (wl ad cy (z 0) (h 22) u.2.2.2.1 ++ wS h cy u.2.2.2.2)))) t.heap ∧ va_D (va_A (wC h cy σ.1 ++ (wl ad cy (z 0) (h 20) σ.2.1 ++ (wl ad cy (z 0) (h 21) σ.2.2.1 ++ (wl ad cy (z 0) (h 22) σ.2.2.2.1 ++ wS h cy σ.2.2.2.2)))) sz) (wC h cy u.1 ++ (wl ad cy (z 0) (h 20) u.2.1 ++ (wl ad cy (z 0) (h 21) u.2.2.1 ++ (wl ad cy (z 0) (h 22) u.2.2.2.1 ++ wS h cy u.2.2.2.2))))) (va_A (wC h cy σ.1 ++ (wl ad cy (z 0) (h 20) σ.2.1 ++ (wl ad cy (z 0) (h 21) σ.2.2.1 ++ (wl ad cy (z 0) (h 22) σ.2.2.2.1 ++ wS h cy σ.2.2.2.2)))) sz)) 0 0 (va_A (wC h cy σ.1 ++ (wl ad cy (z 0) (h 20) σ.2.1 ++ (wl ad cy (z 0) (h 21) σ.2.2.1 ++ (wl ad cy (z 0) (h 22) σ.2.2.2.1 ++ wS h cy σ.2.2.2.2)))) sz) := by
  refine Met.ofCx (own := RX4) (by decide) rfl (Nat.le_of_ble_eq_true rfl) ?_
  intro p e s m below meth c hC hv ls hl
  obtain ⟨hx, hb, hr, hml, hown, hts, hlocks⟩ := hC
  have hl : lv_has ls 3 [(0, .ref (h 0)), (1, .int x1)] := hl
  obtain ⟨hsz, hP, hK, hD0, hZ, hvk⟩ := hv
  subst hsz
  have hD := hD0.self (sz := s.heap.size)
  generalize hAe : va_A (wC h cy σ.1 ++ (wl ad cy (z 0) (h 20) σ.2.1 ++ (wl ad cy (z 0) (h 21) σ.2.2.1 ++ (wl ad cy (z 0) (h 22) σ.2.2.2.1 ++ wS h cy σ.2.2.2.2)))) s.heap.size = A at hD hZ ⊢
  have hA : ∀ q : Nat, s.heap.size ≤ q → A q := fun q h => by rw [← hAe]; exact Or.inr h
  have hS : va_S A s.heap s.heap [] := va_S.rf
  clear hAe
  unfold wp_X4_setKind at hF
  refine lv_aload_n hx hb dX4_setKind_0 rfl (lv_at hl 0 rfl) ?_
  refine va_ldcS hx hb hown hvk dX4_setKind_1 ?_
  refine lv_iload_n hx hb dX4_setKind_3 rfl (lv_at hl 1 rfl) ?_
  refine czKV (As := [.int x1]) (rest := [.ref (h 0)]) ⟨hx, hb, hr, hml, hown, hts, hlocks⟩ hZ.2.2 hS (m_J0_indexOf_0f7a4 l (z 4) (z 5) (z 6) fu x1 _ hF) k_J0_indexOf_0f7a4 q1018 ⟨rfl, rfl⟩ ⟨Nat.le_of_ble_eq_true rfl, Nat.le_of_ble_eq_true rfl⟩ hl.1 rfl rfl (Nat.le_of_ble_eq_true rfl) dX4_setKind_4 ⟨Nat.le_of_ble_eq_true rfl, Nat.le_of_ble_eq_true rfl⟩ (fun r4 hF => ?_)
  have hJ15 : ∀ (t1_15 : Int32), wp_X4_setKind_J15 fu σ x1 P t1_15 → ∀ (H : Heap) (locs : List Loc), va_P (dC, dI) classes (wC h cy σ.1 ++ (wl ad cy (z 0) (h 20) σ.2.1 ++ (wl ad cy (z 0) (h 21) σ.2.2.1 ++ (wl ad cy (z 0) (h 22) σ.2.2.2.1 ++ wS h cy σ.2.2.2.2)))) H → va_D A (wC h cy σ.1 ++ (wl ad cy (z 0) (h 20) σ.2.1 ++ (wl ad cy (z 0) (h 21) σ.2.2.1 ++ (wl ad cy (z 0) (h 22) σ.2.2.2.1 ++ wS h cy σ.2.2.2.2)))) → va_S A s.heap H locs → ∀ (ls : Array Slot), lv_has ls 3 [(0, .ref (h 0)), (1, .int x1)] → W p l e ({ frames := 9, cells := 0, slots := 0, locals := 200 } : Room) s m ([.ref (h 0), .int x1] : List Value).toArray below meth c H locs 0 0 (MQ below (va_Qi (fun r u => P r u) (fun (u : FX) t => va_P (dC, dI) classes (wC h cy u.1 ++ (wl ad cy (z 0) (h 20) u.2.1 ++ (wl ad cy (z 0) (h 21) u.2.2.1 ++ (wl ad cy (z 0) (h 22) u.2.2.2.1 ++ wS h cy u.2.2.2.2)))) t.heap ∧ va_D A (wC h cy u.1 ++ (wl ad cy (z 0) (h 20) u.2.1 ++ (wl ad cy (z 0) (h 21) u.2.2.1 ++ (wl ad cy (z 0) (h 22) u.2.2.2.1 ++ wS h cy u.2.2.2.2))))) A) ([.ref (h 0), .int x1] : List Value).toArray s 0 0 A) (F0 m 15 ls [.int t1_15, .ref (h 0)]) := by
    intro t1_15 hF H locs hP hD hS ls hl
    unfold wp_X4_setKind_J15 at hF
    have hPc := fw_get (fp0 _ _) hP
    have hDc := fw_getD (fp0 _ _) hD
    have hFc := fw_free (fp0 _ _) hD hS hA
    refine cwVi (q0 := 0) (As := [.int t1_15]) (rest := []) ⟨hx, hb, hr, hml, hown, hts, hlocks⟩ hK hPc hDc rfl rfl hS hFc (m_X4_fails l dC dI h cy _ σ.1 t1_15 _ hF) k_X4_fails q1102 ⟨rfl, rfl⟩ ⟨Nat.le_of_ble_eq_true rfl, Nat.le_of_ble_eq_true rfl⟩ hl.1 rfl rfl (Nat.le_of_ble_eq_true rfl) dX4_setKind_15 ⟨Nat.le_of_ble_eq_true rfl, Nat.le_of_ble_eq_true rfl⟩ (fun r15 u H1 locs hF hP1 hD1 hk1 hS => ?_)
    obtain ⟨s15, rfl⟩ : ∃ z, z = u := ⟨_, rfl⟩
    obtain ⟨hP, hD⟩ := fw_join (fp0 _ _) hP hD hk1 hFc hP1 hD1
    generalize H1 = H at hP hS ⊢
    have hP : va_P (dC, dI) classes (wC h cy s15 ++ (wl ad cy (z 0) (h 20) σ.2.1 ++ (wl ad cy (z 0) (h 21) σ.2.2.1 ++ (wl ad cy (z 0) (h 22) σ.2.2.2.1 ++ wS h cy σ.2.2.2.2)))) H := hP
    have hD : va_D A (wC h cy s15 ++ (wl ad cy (z 0) (h 20) σ.2.1 ++ (wl ad cy (z 0) (h 21) σ.2.2.1 ++ (wl ad cy (z 0) (h 22) σ.2.2.2.1 ++ wS h cy σ.2.2.2.2)))) := hD
    refine lv_if_eq (tgt := 24) hx hb dX4_setKind_18 (by decide) (fun cz => ?_) (fun cz => ?_)
    · have hF := hF.1 cz
      refine va_ldcS hx hb hown hvk dX4_setKind_24 ?_
      refine lv_aload_n hx hb dX4_setKind_26 rfl (lv_at hl 0 rfl) ?_
      refine va_get (D := (dC, dI)) (ci := 4) (v := .int (s15.1 4)) (C := RX4) (T := TX4) (N := 19) hx hb hts in_X4 hown hK.1 hP 0 rfl rfl 17 (by decide) (hts _ q967) (fun _ h9 => h9) rfl dX4_setKind_27 ?_
      refine czKV (As := [.int (s15.1 4)]) (rest := []) ⟨hx, hb, hr, hml, hown, hts, hlocks⟩ hZ.2.2 hS (m_J0_charAt_5068e l (z 4) (z 5) (z 6) (s15.1 4) _ hF) k_J0_charAt_5068e q1106 ⟨rfl, rfl⟩ ⟨Nat.le_of_ble_eq_true rfl, Nat.le_of_ble_eq_true rfl⟩ hl.1 rfl rfl (Nat.le_of_ble_eq_true rfl) dX4_setKind_30 ⟨Nat.le_of_ble_eq_true rfl, Nat.le_of_ble_eq_true rfl⟩ (fun r30 hF => ?_)
      refine lv_istore_n (lv' := [(2, .int r30), (0, .ref (h 0)), (1, .int x1)]) hx hb dX4_setKind_33 rfl hl (by decide) rfl (fun ls hl => ?_)
      refine lv_aload_n hx hb dX4_setKind_34 rfl (lv_at hl 1 rfl) ?_
      refine va_ldcS hx hb hown hvk dX4_setKind_35 ?_
      refine lv_iload_n hx hb dX4_setKind_37 rfl (lv_at hl 2 rfl) ?_
      refine czKV (As := [.int x1]) (rest := [.ref (h 0)]) ⟨hx, hb, hr, hml, hown, hts, hlocks⟩ hZ.2.2 hS (m_J0_indexOf_0f7a4 l (z 4) (z 5) (z 6) fu x1 _ hF) k_J0_indexOf_0f7a4 q1018 ⟨rfl, rfl⟩ ⟨Nat.le_of_ble_eq_true rfl, Nat.le_of_ble_eq_true rfl⟩ hl.1 rfl rfl (Nat.le_of_ble_eq_true rfl) dX4_setKind_38 ⟨Nat.le_of_ble_eq_true rfl, Nat.le_of_ble_eq_true rfl⟩ (fun r38 hF => ?_)
      refine va_put (D := (dC, dI)) (ci := 4) (v := .int r38) (ty := .int) (C := RX4) (T := TX4) (N := 19) hx hb hts in_X4 tyX4 tyX4_ok nmX4 hown hK.1 hP hD hS 0 rfl rfl 17 (by decide) (hts _ q967) (fun _ h9 => h9) rfl (by decide +kernel) rfl rfl (Nat.le_of_ble_eq_true rfl) dX4_setKind_41 (fun H locs hP hD hS => ?_)
      have hP : va_P (dC, dI) classes (wC h cy (sI s15 4 r38) ++ (wl ad cy (z 0) (h 20) σ.2.1 ++ (wl ad cy (z 0) (h 21) σ.2.2.1 ++ (wl ad cy (z 0) (h 22) σ.2.2.2.1 ++ wS h cy σ.2.2.2.2)))) H := hP
      have hD : va_D A (wC h cy (sI s15 4 r38) ++ (wl ad cy (z 0) (h 20) σ.2.1 ++ (wl ad cy (z 0) (h 21) σ.2.2.1 ++ (wl ad cy (z 0) (h 22) σ.2.2.2.1 ++ wS h cy σ.2.2.2.2)))) := hD
      refine lv_aload_n hx hb dX4_setKind_44 rfl (lv_at hl 1 rfl) ?_
      refine cfVv (x := wC h cy (sI s15 4 r38) ++ (wl ad cy (z 0) (h 20) σ.2.1 ++ (wl ad cy (z 0) (h 21) σ.2.2.1 ++ (wl ad cy (z 0) (h 22) σ.2.2.2.1 ++ wS h cy σ.2.2.2.2)))) (fpN _) ⟨hx, hb, hr, hml, hown, hts, hlocks⟩ hK hP hD hZ hvk hS hA rfl (m_X4_lists l dC dI h cy z ad _ fu (sI s15 4 r38, σ.2.1, σ.2.2.1, σ.2.2.2.1, σ.2.2.2.2)  _ hF) (As := []) (rest := []) k_X4_lists q926 ⟨rfl, rfl⟩ ⟨Nat.le_of_ble_eq_true rfl, Nat.le_of_ble_eq_true rfl⟩ hl.1 rfl rfl (Nat.le_of_ble_eq_true rfl) dX4_setKind_45 ⟨Nat.le_of_ble_eq_true rfl, Nat.le_of_ble_eq_true rfl⟩ (fun s45 H1 locs hF hP1 hD1 hS => ?_)
      have hP := va_P.perm (fpN _).symm hP1
      have hD := va_D.perm (fpN _).symm hD1
      generalize H1 = H at hP hS ⊢
      have hP : va_P (dC, dI) classes (wC h cy s45.1 ++ (wl ad cy (z 0) (h 20) s45.2.1 ++ (wl ad cy (z 0) (h 21) s45.2.2.1 ++ (wl ad cy (z 0) (h 22) s45.2.2.2.1 ++ wS h cy s45.2.2.2.2)))) H := hP
      have hD : va_D A (wC h cy s45.1 ++ (wl ad cy (z 0) (h 20) s45.2.1 ++ (wl ad cy (z 0) (h 21) s45.2.2.1 ++ (wl ad cy (z 0) (h 22) s45.2.2.2.1 ++ wS h cy s45.2.2.2.2)))) := hD
      refine lv_iload_n hx hb dX4_setKind_48 rfl (lv_at hl 0 rfl) ?_
      exact W.zret (v := r30) hx hb hr hF.1 (fun t ht hW => ⟨⟨r30, s45, rfl, hF.2, by rw [ht]; exact hP, hD⟩, hS.F ht⟩) hS.2.2 dX4_setKind_49
    · have hF := hF.2 cz
      refine lv_bipush (v := 32) hx hb dX4_setKind_21 (by decide) ?_
      exact W.zret (v := 32) hx hb hr hF.1 (fun t ht hW => ⟨⟨32, (s15, σ.2.1, σ.2.2.1, σ.2.2.2.1, σ.2.2.2.2), rfl, hF.2, by rw [ht]; exact hP, hD⟩, hS.F ht⟩) hS.2.2 dX4_setKind_23
  refine lv_if_ge (tgt := 14) hx hb dX4_setKind_7 (by decide) (fun cz => ?_) (fun cz => ?_)
  · have hF := hF.1 cz
    refine lv_iconst (v := 0) hx hb dX4_setKind_14 (by decide) ?_
    exact hJ15 0 hF _ _ hP hD hS _ (lv_sub hl [0, 1] rfl)
  · have hF := hF.2 cz
    refine lv_iconst (v := 1) hx hb dX4_setKind_10 (by decide) ?_
    refine lv_goto (tgt := 15) hx hb dX4_setKind_11 (by decide) ?_
    exact hJ15 1 hF _ _ hP hD hS _ (lv_sub hl [0, 1] rfl)
