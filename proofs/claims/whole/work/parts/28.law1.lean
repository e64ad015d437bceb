def zB (r : Int32) : Int64 := if r = 0 then 0 else 1
theorem dL_setKind_0 : decode cL_setKind 0 = .ok (.aload_n 2, 1) := by decide +kernel
theorem dL_setKind_1 : decode cL_setKind 1 = .ok (.iconst 0, 1) := by decide +kernel
theorem dL_setKind_2 : decode cL_setKind 2 = .ok (.aload_n 0, 1) := by decide +kernel
theorem dL_setKind_3 : decode cL_setKind 3 = .ok (.iload_n 1, 1) := by decide +kernel
theorem dL_setKind_4 : decode cL_setKind 4 = .ok (.invokevirtual 7, 3) := by decide +kernel
theorem dL_setKind_7 : decode cL_setKind 7 = .ok (.i2l, 1) := by decide +kernel
theorem dL_setKind_8 : decode cL_setKind 8 = .ok (.lastore, 1) := by decide +kernel
theorem dL_setKind_9 : decode cL_setKind 9 = .ok (.goto 6, 3) := by decide +kernel
theorem dL_setKind_12 : decode cL_setKind 12 = .ok (.astore_n 3, 1) := by decide +kernel
theorem dL_setKind_13 : decode cL_setKind 13 = .ok (.iconst 1, 1) := by decide +kernel
theorem dL_setKind_14 : decode cL_setKind 14 = .ok (.ireturn, 1) := by decide +kernel
theorem dL_setKind_15 : decode cL_setKind 15 = .ok (.iconst 0, 1) := by decide +kernel
theorem dL_setKind_16 : decode cL_setKind 16 = .ok (.ireturn, 1) := by decide +kernel
def wp_L_setKind (fu : Nat) (σ : SX) (f : Nat → Int64) (x1 : Int32) (P : Int32 → SX → (Nat → Int64) → Prop) : Prop := wp_X3_setKind fu σ x1 (fun r s => P 0 s (vp_updL f 0 (Int32.toInt64 r))) (fun E s => (E = "java/lang/IllegalArgumentException" ∧ P 1 s f))
set_option maxHeartbeats 4000000 in
set_option maxRecDepth 100000 in
theorem m_L_setKind (l : Launch) (hl9 : l.stackTraces = false) (dC : Nat → ClassId) (dI : Nat → Nat → Nat) (h : Nat → Nat) (cy : Nat → ClassId) (sa : Nat → Nat) (o sz : Nat) (fu : Nat) (σ : SX) (f : Nat → Int64) (x1 : Int32) (P : Int32 → SX → (Nat → Int64) → Prop) (hF : wp_L_setKind fu σ f x1 P) : Met l yL_setKind (wsH yL_setKind cL_setKind 4 (some .int) [(0, 9, 12, 13)]) ({ frames := 7, cells := 1, slots := 6, locals := 132 } : Room) (va_Pc [.ref (h 16), .int x1, .ref o] (PcW dC dI cy sa (wO h cy o σ f) sz)) (va_Qi (fun r (u : SX × (Nat → Int64)) => P r u.1 u.2) (fun (u : SX × (Nat → Int64)) t => va_P (dC, dI) classes (wO h cy o u.1 u.2) t.heap ∧ va_D (va_A (wO h cy o σ f) sz) (wO h cy o u.1 u.2)) (va_A (wO h cy o σ f) sz)) 1 6 (va_A (wO h cy o σ f) sz) := by
  refine Met.ofCxH (own := RL) (by decide) rfl (Nat.le_of_ble_eq_true rfl) ?_
  intro p e s m below meth c hC htab hv ls hl
  obtain ⟨hx, hb, hr, hml, hown, hts, hlocks⟩ := hC
  have hl : lv_has ls 4 [(0, .ref (h 16)), (1, .int x1), (2, .ref o)] := hl
  obtain ⟨⟨hsz, hP, hK, hD0, hXS, hXZ⟩, hN⟩ := hv
  subst hsz
  have hD := hD0.self (sz := s.heap.size)
  generalize hAe : va_A (wO h cy o σ f) s.heap.size = A at hD hXZ ⊢
  have hA : ∀ q : Nat, s.heap.size ≤ q → A q := fun q h => by rw [← hAe]; exact Or.inr h
  have hS : va_S A s.heap s.heap [] := va_S.rf
  clear hAe
  unfold wp_L_setKind at hF
  refine lv_aload_n hx hb dL_setKind_0 rfl (lv_at hl 2 rfl) ?_
  refine lv_iconst (v := 0) hx hb dL_setKind_1 (by decide) ?_
  refine lv_aload_n hx hb dL_setKind_2 rfl (lv_at hl 0 rfl) ?_
  refine lv_iload_n hx hb dL_setKind_3 rfl (lv_at hl 1 rfl) ?_
  refine lwCall (q0 := 16) (x := wH h cy σ) (wn := fun u => wH h cy u) (fp0 _ _) ⟨hx, hb, hr, hml, hown, hts, hlocks⟩ hK hXS hXZ hP hD rfl rfl hS hA (m_X3_setKind l hl9 dC dI h cy sa _ fu σ x1 _ _ hF) (As := [.int x1]) (rest := [.int 0, .ref o]) k_X3_setKind q393 ⟨rfl, rfl⟩ ⟨Nat.le_of_ble_eq_true rfl, Nat.le_of_ble_eq_true rfl⟩ hl.1 rfl rfl (Nat.le_of_ble_eq_true rfl) dL_setKind_4 ⟨Nat.le_of_ble_eq_true rfl, Nat.le_of_ble_eq_true rfl⟩ (fun E ce q9 u H1 locs hX hP hD hS hce hcv hcl9 => ?_) (fun r u H1 locs hF hP hD hS => ?_)
  · obtain ⟨rfl, hX⟩ := hX
    refine lwCatch hown htab 0 (e0 := 0) (e1 := 9) (hp := 12) (ct := 13) rfl (by decide) (by decide) (hts _ q392) (va_Nw.use rfl (hK.2.2.2.2.2.2.2.2.2.2.1 _ (List.mem_of_getElem? (i := 0) rfl))) (fun w hw => absurd hw List.not_mem_nil) hce hcv hcl9 ?_
    refine lv_astore_n (lv' := [(3, .ref q9), (0, .ref (h 16)), (1, .int x1), (2, .ref o)]) hx hb dL_setKind_12 rfl hl (by decide) rfl (fun ls hl => ?_)
    refine lv_iconst (v := 1) hx hb dL_setKind_13 (by decide) ?_
    exact W.iret (v := 1) hx hb hr (fun t ht hW => ⟨⟨1, (u, f), rfl, hX, by rw [ht]; exact hP, hD⟩, hS.F ht⟩) hS.2.2 dL_setKind_14
  · have hP : va_P (dC, dI) classes (wO h cy o u f) H1 := hP
    refine lv_i2l hx hb dL_setKind_7 rfl ?_
    refine va_last hx hb hK.1 hP hD hS 21 1 rfl rfl (show vp_in 0 1 from vp_in_nI (n := 0) (by omega) (by omega)) dL_setKind_8 (fun H2 locs hP hD hS => ?_)
    have hP : va_P (dC, dI) classes (wO h cy o u (vp_updL f 0 (Int32.toInt64 r))) H2 := hP
    have hD : va_D A (wO h cy o u (vp_updL f 0 (Int32.toInt64 r))) := hD
    refine lv_goto (tgt := 15) hx hb dL_setKind_9 (by decide) ?_
    refine lv_iconst (v := 0) hx hb dL_setKind_15 (by decide) ?_
    exact W.iret (v := 0) hx hb hr (fun t ht hW => ⟨⟨0, (u, vp_updL f 0 (Int32.toInt64 r)), rfl, hF, by rw [ht]; exact hP, hD⟩, hS.F ht⟩) hS.2.2 dL_setKind_16
theorem dL_drill_0 : decode cL_drill 0 = .ok (.aload_n 2, 1) := by decide +kernel
theorem dL_drill_1 : decode cL_drill 1 = .ok (.iconst 0, 1) := by decide +kernel
theorem dL_drill_2 : decode cL_drill 2 = .ok (.aload_n 0, 1) := by decide +kernel
theorem dL_drill_3 : decode cL_drill 3 = .ok (.iload_n 1, 1) := by decide +kernel
theorem dL_drill_4 : decode cL_drill 4 = .ok (.invokevirtual 15, 3) := by decide +kernel
theorem dL_drill_7 : decode cL_drill 7 = .ok (.i2l, 1) := by decide +kernel
theorem dL_drill_8 : decode cL_drill 8 = .ok (.lastore, 1) := by decide +kernel
theorem dL_drill_9 : decode cL_drill 9 = .ok (.goto 12, 3) := by decide +kernel
theorem dL_drill_12 : decode cL_drill 12 = .ok (.astore_n 3, 1) := by decide +kernel
theorem dL_drill_13 : decode cL_drill 13 = .ok (.iconst 1, 1) := by decide +kernel
theorem dL_drill_14 : decode cL_drill 14 = .ok (.ireturn, 1) := by decide +kernel
theorem dL_drill_15 : decode cL_drill 15 = .ok (.astore_n 3, 1) := by decide +kernel
theorem dL_drill_16 : decode cL_drill 16 = .ok (.iconst 2, 1) := by decide +kernel
theorem dL_drill_17 : decode cL_drill 17 = .ok (.ireturn, 1) := by decide +kernel
theorem dL_drill_18 : decode cL_drill 18 = .ok (.astore_n 3, 1) := by decide +kernel
theorem dL_drill_19 : decode cL_drill 19 = .ok (.iconst 3, 1) := by decide +kernel
theorem dL_drill_20 : decode cL_drill 20 = .ok (.ireturn, 1) := by decide +kernel
theorem dL_drill_21 : decode cL_drill 21 = .ok (.iconst 0, 1) := by decide +kernel
theorem dL_drill_22 : decode cL_drill 22 = .ok (.ireturn, 1) := by decide +kernel
def wp_L_drill (fu : Nat) (σ : SX) (f : Nat → Int64) (x1 : Int32) (P : Int32 → SX → (Nat → Int64) → Prop) : Prop := wp_X3_drill fu σ x1 (fun r s => P 0 s (vp_updL f 0 (Int32.toInt64 r))) (fun E s => (E = "java/lang/IllegalArgumentException" ∧ P 1 s f) ∨ (E = "java/lang/UnsupportedOperationException" ∧ P 2 s f) ∨ (E = "java/lang/IllegalStateException" ∧ P 3 s f))
set_option maxHeartbeats 4000000 in
set_option maxRecDepth 100000 in
theorem m_L_drill (l : Launch) (hl9 : l.stackTraces = false) (dC : Nat → ClassId) (dI : Nat → Nat → Nat) (h : Nat → Nat) (cy : Nat → ClassId) (sa : Nat → Nat) (o sz : Nat) (fu : Nat) (σ : SX) (f : Nat → Int64) (x1 : Int32) (P : Int32 → SX → (Nat → Int64) → Prop) (hF : wp_L_drill fu σ f x1 P) : Met l yL_drill (wsH yL_drill cL_drill 4 (some .int) [(0, 9, 12, 13), (0, 9, 15, 19), (0, 9, 18, 21)]) ({ frames := 8, cells := 2, slots := 12, locals := 154 } : Room) (va_Pc [.ref (h 16), .int x1, .ref o] (PcW dC dI cy sa (wO h cy o σ f) sz)) (va_Qi (fun r (u : SX × (Nat → Int64)) => P r u.1 u.2) (fun (u : SX × (Nat → Int64)) t => va_P (dC, dI) classes (wO h cy o u.1 u.2) t.heap ∧ va_D (va_A (wO h cy o σ f) sz) (wO h cy o u.1 u.2)) (va_A (wO h cy o σ f) sz)) 2 12 (va_A (wO h cy o σ f) sz) := by
  refine Met.ofCxH (own := RL) (by decide) rfl (Nat.le_of_ble_eq_true rfl) ?_
  intro p e s m below meth c hC htab hv ls hl
  obtain ⟨hx, hb, hr, hml, hown, hts, hlocks⟩ := hC
  have hl : lv_has ls 4 [(0, .ref (h 16)), (1, .int x1), (2, .ref o)] := hl
  obtain ⟨⟨hsz, hP, hK, hD0, hXS, hXZ⟩, hN⟩ := hv
  subst hsz
  have hD := hD0.self (sz := s.heap.size)
  generalize hAe : va_A (wO h cy o σ f) s.heap.size = A at hD hXZ ⊢
  have hA : ∀ q : Nat, s.heap.size ≤ q → A q := fun q h => by rw [← hAe]; exact Or.inr h
  have hS : va_S A s.heap s.heap [] := va_S.rf
  clear hAe
  unfold wp_L_drill at hF
  refine lv_aload_n hx hb dL_drill_0 rfl (lv_at hl 2 rfl) ?_
  refine lv_iconst (v := 0) hx hb dL_drill_1 (by decide) ?_
  refine lv_aload_n hx hb dL_drill_2 rfl (lv_at hl 0 rfl) ?_
  refine lv_iload_n hx hb dL_drill_3 rfl (lv_at hl 1 rfl) ?_
  refine lwCall (q0 := 16) (x := wH h cy σ) (wn := fun u => wH h cy u) (fp0 _ _) ⟨hx, hb, hr, hml, hown, hts, hlocks⟩ hK hXS hXZ hP hD rfl rfl hS hA (m_X3_drill l hl9 dC dI h cy sa _ fu σ x1 _ _ hF) (As := [.int x1]) (rest := [.int 0, .ref o]) k_X3_drill q504 ⟨rfl, rfl⟩ ⟨Nat.le_of_ble_eq_true rfl, Nat.le_of_ble_eq_true rfl⟩ hl.1 rfl rfl (Nat.le_of_ble_eq_true rfl) dL_drill_4 ⟨Nat.le_of_ble_eq_true rfl, Nat.le_of_ble_eq_true rfl⟩ (fun E ce q9 u H1 locs hX hP hD hS hce hcv hcl9 => ?_) (fun r u H1 locs hF hP hD hS => ?_)
  · rcases hX with ⟨rfl, hX⟩ | ⟨rfl, hX⟩ | ⟨rfl, hX⟩
    · refine lwCatch hown htab 0 (e0 := 0) (e1 := 9) (hp := 12) (ct := 13) rfl (by decide) (by decide) (hts _ q392) (va_Nw.use rfl (hK.2.2.2.2.2.2.2.2.2.2.1 _ (List.mem_of_getElem? (i := 0) rfl))) (fun w hw => absurd hw List.not_mem_nil) hce hcv hcl9 ?_
      refine lv_astore_n (lv' := [(3, .ref q9), (0, .ref (h 16)), (1, .int x1), (2, .ref o)]) hx hb dL_drill_12 rfl hl (by decide) rfl (fun ls hl => ?_)
      refine lv_iconst (v := 1) hx hb dL_drill_13 (by decide) ?_
      exact W.iret (v := 1) hx hb hr (fun t ht hW => ⟨⟨1, (u, f), rfl, hX, by rw [ht]; exact hP, hD⟩, hS.F ht⟩) hS.2.2 dL_drill_14
    · refine lwCatch hown htab 1 (e0 := 0) (e1 := 9) (hp := 15) (ct := 19) rfl (by decide) (by decide) (hts _ q502) (va_Nw.use rfl (hK.2.2.2.2.2.2.2.2.2.2.1 _ (List.mem_of_getElem? (i := 1) rfl))) (fun w hw => ?_) hce hcv hcl9 ?_
      · obtain rfl : w = (0, 9, 12, 13) := by simpa using hw
        exact ⟨by decide, "java/lang/IllegalArgumentException", hts _ q392, hN _ (List.mem_of_getElem? (i := 0) rfl)⟩
      · refine lv_astore_n (lv' := [(3, .ref q9), (0, .ref (h 16)), (1, .int x1), (2, .ref o)]) hx hb dL_drill_15 rfl hl (by decide) rfl (fun ls hl => ?_)
        refine lv_iconst (v := 2) hx hb dL_drill_16 (by decide) ?_
        exact W.iret (v := 2) hx hb hr (fun t ht hW => ⟨⟨2, (u, f), rfl, hX, by rw [ht]; exact hP, hD⟩, hS.F ht⟩) hS.2.2 dL_drill_17
    · refine lwCatch hown htab 2 (e0 := 0) (e1 := 9) (hp := 18) (ct := 21) rfl (by decide) (by decide) (hts _ q503) (va_Nw.use rfl (hK.2.2.2.2.2.2.2.2.2.2.1 _ (List.mem_of_getElem? (i := 2) rfl))) (fun w hw => ?_) hce hcv hcl9 ?_
      · rcases (by simpa using hw : w = (0, 9, 12, 13) ∨ w = (0, 9, 15, 19)) with rfl | rfl
        · exact ⟨by decide, "java/lang/IllegalArgumentException", hts _ q392, hN _ (List.mem_of_getElem? (i := 1) rfl)⟩
        · exact ⟨by decide, "java/lang/UnsupportedOperationException", hts _ q502, hN _ (List.mem_of_getElem? (i := 6) rfl)⟩
      · refine lv_astore_n (lv' := [(3, .ref q9), (0, .ref (h 16)), (1, .int x1), (2, .ref o)]) hx hb dL_drill_18 rfl hl (by decide) rfl (fun ls hl => ?_)
        refine lv_iconst (v := 3) hx hb dL_drill_19 (by decide) ?_
        exact W.iret (v := 3) hx hb hr (fun t ht hW => ⟨⟨3, (u, f), rfl, hX, by rw [ht]; exact hP, hD⟩, hS.F ht⟩) hS.2.2 dL_drill_20
  · have hP : va_P (dC, dI) classes (wO h cy o u f) H1 := hP
    refine lv_i2l hx hb dL_drill_7 rfl ?_
    refine va_last hx hb hK.1 hP hD hS 21 1 rfl rfl (show vp_in 0 1 from vp_in_nI (n := 0) (by omega) (by omega)) dL_drill_8 (fun H2 locs hP hD hS => ?_)
    have hP : va_P (dC, dI) classes (wO h cy o u (vp_updL f 0 (Int32.toInt64 r))) H2 := hP
    have hD : va_D A (wO h cy o u (vp_updL f 0 (Int32.toInt64 r))) := hD
    refine lv_goto (tgt := 21) hx hb dL_drill_9 (by decide) ?_
    refine lv_iconst (v := 0) hx hb dL_drill_21 (by decide) ?_
    exact W.iret (v := 0) hx hb hr (fun t ht hW => ⟨⟨0, (u, vp_updL f 0 (Int32.toInt64 r)), rfl, hF, by rw [ht]; exact hP, hD⟩, hS.F ht⟩) hS.2.2 dL_drill_22
theorem dL_fill_0 : decode cL_fill 0 = .ok (.aload_n 2, 1) := by decide +kernel
theorem dL_fill_1 : decode cL_fill 1 = .ok (.iconst 0, 1) := by decide +kernel
theorem dL_fill_2 : decode cL_fill 2 = .ok (.aload_n 0, 1) := by decide +kernel
theorem dL_fill_3 : decode cL_fill 3 = .ok (.iload_n 1, 1) := by decide +kernel
theorem dL_fill_4 : decode cL_fill 4 = .ok (.invokevirtual 23, 3) := by decide +kernel
theorem dL_fill_7 : decode cL_fill 7 = .ok (.i2l, 1) := by decide +kernel
theorem dL_fill_8 : decode cL_fill 8 = .ok (.lastore, 1) := by decide +kernel
theorem dL_fill_9 : decode cL_fill 9 = .ok (.goto 9, 3) := by decide +kernel
theorem dL_fill_12 : decode cL_fill 12 = .ok (.astore_n 3, 1) := by decide +kernel
theorem dL_fill_13 : decode cL_fill 13 = .ok (.iconst 1, 1) := by decide +kernel
theorem dL_fill_14 : decode cL_fill 14 = .ok (.ireturn, 1) := by decide +kernel
theorem dL_fill_15 : decode cL_fill 15 = .ok (.astore_n 3, 1) := by decide +kernel
theorem dL_fill_16 : decode cL_fill 16 = .ok (.iconst 2, 1) := by decide +kernel
theorem dL_fill_17 : decode cL_fill 17 = .ok (.ireturn, 1) := by decide +kernel
theorem dL_fill_18 : decode cL_fill 18 = .ok (.iconst 0, 1) := by decide +kernel
theorem dL_fill_19 : decode cL_fill 19 = .ok (.ireturn, 1) := by decide +kernel
def wp_L_fill (fu : Nat) (σ : SX) (f : Nat → Int64) (x1 : Int32) (P : Int32 → SX → (Nat → Int64) → Prop) : Prop := wp_X3_fill fu σ x1 (fun r s => P 0 s (vp_updL f 0 (Int32.toInt64 r))) (fun E s => (E = "java/lang/IllegalArgumentException" ∧ P 1 s f) ∨ (E = "java/lang/UnsupportedOperationException" ∧ P 2 s f))
set_option maxHeartbeats 4000000 in
set_option maxRecDepth 100000 in
theorem m_L_fill (l : Launch) (hl9 : l.stackTraces = false) (dC : Nat → ClassId) (dI : Nat → Nat → Nat) (h : Nat → Nat) (cy : Nat → ClassId) (sa : Nat → Nat) (o sz : Nat) (fu : Nat) (σ : SX) (f : Nat → Int64) (x1 : Int32) (P : Int32 → SX → (Nat → Int64) → Prop) (hF : wp_L_fill fu σ f x1 P) : Met l yL_fill (wsH yL_fill cL_fill 4 (some .int) [(0, 9, 12, 13), (0, 9, 15, 19)]) ({ frames := 8, cells := 2, slots := 12, locals := 154 } : Room) (va_Pc [.ref (h 16), .int x1, .ref o] (PcW dC dI cy sa (wO h cy o σ f) sz)) (va_Qi (fun r (u : SX × (Nat → Int64)) => P r u.1 u.2) (fun (u : SX × (Nat → Int64)) t => va_P (dC, dI) classes (wO h cy o u.1 u.2) t.heap ∧ va_D (va_A (wO h cy o σ f) sz) (wO h cy o u.1 u.2)) (va_A (wO h cy o σ f) sz)) 2 12 (va_A (wO h cy o σ f) sz) := by
  refine Met.ofCxH (own := RL) (by decide) rfl (Nat.le_of_ble_eq_true rfl) ?_
  intro p e s m below meth c hC htab hv ls hl
  obtain ⟨hx, hb, hr, hml, hown, hts, hlocks⟩ := hC
  have hl : lv_has ls 4 [(0, .ref (h 16)), (1, .int x1), (2, .ref o)] := hl
  obtain ⟨⟨hsz, hP, hK, hD0, hXS, hXZ⟩, hN⟩ := hv
  subst hsz
  have hD := hD0.self (sz := s.heap.size)
  generalize hAe : va_A (wO h cy o σ f) s.heap.size = A at hD hXZ ⊢
  have hA : ∀ q : Nat, s.heap.size ≤ q → A q := fun q h => by rw [← hAe]; exact Or.inr h
  have hS : va_S A s.heap s.heap [] := va_S.rf
  clear hAe
  unfold wp_L_fill at hF
  refine lv_aload_n hx hb dL_fill_0 rfl (lv_at hl 2 rfl) ?_
  refine lv_iconst (v := 0) hx hb dL_fill_1 (by decide) ?_
  refine lv_aload_n hx hb dL_fill_2 rfl (lv_at hl 0 rfl) ?_
  refine lv_iload_n hx hb dL_fill_3 rfl (lv_at hl 1 rfl) ?_
  refine lwCall (q0 := 16) (x := wH h cy σ) (wn := fun u => wH h cy u) (fp0 _ _) ⟨hx, hb, hr, hml, hown, hts, hlocks⟩ hK hXS hXZ hP hD rfl rfl hS hA (m_X3_fill l hl9 dC dI h cy sa _ fu σ x1 _ _ hF) (As := [.int x1]) (rest := [.int 0, .ref o]) k_X3_fill q557 ⟨rfl, rfl⟩ ⟨Nat.le_of_ble_eq_true rfl, Nat.le_of_ble_eq_true rfl⟩ hl.1 rfl rfl (Nat.le_of_ble_eq_true rfl) dL_fill_4 ⟨Nat.le_of_ble_eq_true rfl, Nat.le_of_ble_eq_true rfl⟩ (fun E ce q9 u H1 locs hX hP hD hS hce hcv hcl9 => ?_) (fun r u H1 locs hF hP hD hS => ?_)
  · rcases hX with ⟨rfl, hX⟩ | ⟨rfl, hX⟩
    · refine lwCatch hown htab 0 (e0 := 0) (e1 := 9) (hp := 12) (ct := 13) rfl (by decide) (by decide) (hts _ q392) (va_Nw.use rfl (hK.2.2.2.2.2.2.2.2.2.2.1 _ (List.mem_of_getElem? (i := 0) rfl))) (fun w hw => absurd hw List.not_mem_nil) hce hcv hcl9 ?_
      refine lv_astore_n (lv' := [(3, .ref q9), (0, .ref (h 16)), (1, .int x1), (2, .ref o)]) hx hb dL_fill_12 rfl hl (by decide) rfl (fun ls hl => ?_)
      refine lv_iconst (v := 1) hx hb dL_fill_13 (by decide) ?_
      exact W.iret (v := 1) hx hb hr (fun t ht hW => ⟨⟨1, (u, f), rfl, hX, by rw [ht]; exact hP, hD⟩, hS.F ht⟩) hS.2.2 dL_fill_14
    · refine lwCatch hown htab 1 (e0 := 0) (e1 := 9) (hp := 15) (ct := 19) rfl (by decide) (by decide) (hts _ q502) (va_Nw.use rfl (hK.2.2.2.2.2.2.2.2.2.2.1 _ (List.mem_of_getElem? (i := 1) rfl))) (fun w hw => ?_) hce hcv hcl9 ?_
      · obtain rfl : w = (0, 9, 12, 13) := by simpa using hw
        exact ⟨by decide, "java/lang/IllegalArgumentException", hts _ q392, hN _ (List.mem_of_getElem? (i := 0) rfl)⟩
      · refine lv_astore_n (lv' := [(3, .ref q9), (0, .ref (h 16)), (1, .int x1), (2, .ref o)]) hx hb dL_fill_15 rfl hl (by decide) rfl (fun ls hl => ?_)
        refine lv_iconst (v := 2) hx hb dL_fill_16 (by decide) ?_
        exact W.iret (v := 2) hx hb hr (fun t ht hW => ⟨⟨2, (u, f), rfl, hX, by rw [ht]; exact hP, hD⟩, hS.F ht⟩) hS.2.2 dL_fill_17
  · have hP : va_P (dC, dI) classes (wO h cy o u f) H1 := hP
    refine lv_i2l hx hb dL_fill_7 rfl ?_
    refine va_last hx hb hK.1 hP hD hS 21 1 rfl rfl (show vp_in 0 1 from vp_in_nI (n := 0) (by omega) (by omega)) dL_fill_8 (fun H2 locs hP hD hS => ?_)
    have hP : va_P (dC, dI) classes (wO h cy o u (vp_updL f 0 (Int32.toInt64 r))) H2 := hP
    have hD : va_D A (wO h cy o u (vp_updL f 0 (Int32.toInt64 r))) := hD
    refine lv_goto (tgt := 18) hx hb dL_fill_9 (by decide) ?_
    refine lv_iconst (v := 0) hx hb dL_fill_18 (by decide) ?_
    exact W.iret (v := 0) hx hb hr (fun t ht hW => ⟨⟨0, (u, vp_updL f 0 (Int32.toInt64 r)), rfl, hF, by rw [ht]; exact hP, hD⟩, hS.F ht⟩) hS.2.2 dL_fill_19
theorem dL_hole_0 : decode cL_hole 0 = .ok (.aload_n 2, 1) := by decide +kernel
theorem dL_hole_1 : decode cL_hole 1 = .ok (.iconst 0, 1) := by decide +kernel
theorem dL_hole_2 : decode cL_hole 2 = .ok (.aload_n 0, 1) := by decide +kernel
theorem dL_hole_3 : decode cL_hole 3 = .ok (.iload_n 1, 1) := by decide +kernel
theorem dL_hole_4 : decode cL_hole 4 = .ok (.invokevirtual 26, 3) := by decide +kernel
theorem dL_hole_7 : decode cL_hole 7 = .ok (.i2l, 1) := by decide +kernel
theorem dL_hole_8 : decode cL_hole 8 = .ok (.lastore, 1) := by decide +kernel
theorem dL_hole_9 : decode cL_hole 9 = .ok (.goto 9, 3) := by decide +kernel
theorem dL_hole_12 : decode cL_hole 12 = .ok (.astore_n 3, 1) := by decide +kernel
theorem dL_hole_13 : decode cL_hole 13 = .ok (.iconst 1, 1) := by decide +kernel
theorem dL_hole_14 : decode cL_hole 14 = .ok (.ireturn, 1) := by decide +kernel
theorem dL_hole_15 : decode cL_hole 15 = .ok (.astore_n 3, 1) := by decide +kernel
theorem dL_hole_16 : decode cL_hole 16 = .ok (.iconst 2, 1) := by decide +kernel
theorem dL_hole_17 : decode cL_hole 17 = .ok (.ireturn, 1) := by decide +kernel
theorem dL_hole_18 : decode cL_hole 18 = .ok (.iconst 0, 1) := by decide +kernel
theorem dL_hole_19 : decode cL_hole 19 = .ok (.ireturn, 1) := by decide +kernel
def wp_L_hole (σ : SX) (f : Nat → Int64) (x1 : Int32) (P : Int32 → SX → (Nat → Int64) → Prop) : Prop := wp_X3_hole σ x1 (fun r s => P 0 s (vp_updL f 0 (Int32.toInt64 r))) (fun E s => (E = "java/lang/IllegalArgumentException" ∧ P 1 s f) ∨ (E = "java/util/NoSuchElementException" ∧ P 2 s f))
set_option maxHeartbeats 4000000 in
set_option maxRecDepth 100000 in
theorem m_L_hole (l : Launch) (hl9 : l.stackTraces = false) (dC : Nat → ClassId) (dI : Nat → Nat → Nat) (h : Nat → Nat) (cy : Nat → ClassId) (sa : Nat → Nat) (o sz : Nat) (σ : SX) (f : Nat → Int64) (x1 : Int32) (P : Int32 → SX → (Nat → Int64) → Prop) (hF : wp_L_hole σ f x1 P) : Met l yL_hole (wsH yL_hole cL_hole 4 (some .int) [(0, 9, 12, 13), (0, 9, 15, 29)]) ({ frames := 8, cells := 2, slots := 12, locals := 131 } : Room) (va_Pc [.ref (h 16), .int x1, .ref o] (PcW dC dI cy sa (wO h cy o σ f) sz)) (va_Qi (fun r (u : SX × (Nat → Int64)) => P r u.1 u.2) (fun (u : SX × (Nat → Int64)) t => va_P (dC, dI) classes (wO h cy o u.1 u.2) t.heap ∧ va_D (va_A (wO h cy o σ f) sz) (wO h cy o u.1 u.2)) (va_A (wO h cy o σ f) sz)) 2 12 (va_A (wO h cy o σ f) sz) := by
  refine Met.ofCxH (own := RL) (by decide) rfl (Nat.le_of_ble_eq_true rfl) ?_
  intro p e s m below meth c hC htab hv ls hl
  obtain ⟨hx, hb, hr, hml, hown, hts, hlocks⟩ := hC
  have hl : lv_has ls 4 [(0, .ref (h 16)), (1, .int x1), (2, .ref o)] := hl
  obtain ⟨⟨hsz, hP, hK, hD0, hXS, hXZ⟩, hN⟩ := hv
  subst hsz
  have hD := hD0.self (sz := s.heap.size)
  generalize hAe : va_A (wO h cy o σ f) s.heap.size = A at hD hXZ ⊢
  have hA : ∀ q : Nat, s.heap.size ≤ q → A q := fun q h => by rw [← hAe]; exact Or.inr h
  have hS : va_S A s.heap s.heap [] := va_S.rf
  clear hAe
  unfold wp_L_hole at hF
  refine lv_aload_n hx hb dL_hole_0 rfl (lv_at hl 2 rfl) ?_
  refine lv_iconst (v := 0) hx hb dL_hole_1 (by decide) ?_
  refine lv_aload_n hx hb dL_hole_2 rfl (lv_at hl 0 rfl) ?_
  refine lv_iload_n hx hb dL_hole_3 rfl (lv_at hl 1 rfl) ?_
  refine lwCall (q0 := 16) (x := wH h cy σ) (wn := fun u => wH h cy u) (fp0 _ _) ⟨hx, hb, hr, hml, hown, hts, hlocks⟩ hK hXS hXZ hP hD rfl rfl hS hA (m_X3_hole l hl9 dC dI h cy sa _ σ x1 _ _ hF) (As := [.int x1]) (rest := [.int 0, .ref o]) k_X3_hole q570 ⟨rfl, rfl⟩ ⟨Nat.le_of_ble_eq_true rfl, Nat.le_of_ble_eq_true rfl⟩ hl.1 rfl rfl (Nat.le_of_ble_eq_true rfl) dL_hole_4 ⟨Nat.le_of_ble_eq_true rfl, Nat.le_of_ble_eq_true rfl⟩ (fun E ce q9 u H1 locs hX hP hD hS hce hcv hcl9 => ?_) (fun r u H1 locs hF hP hD hS => ?_)
  · rcases hX with ⟨rfl, hX⟩ | ⟨rfl, hX⟩
    · refine lwCatch hown htab 0 (e0 := 0) (e1 := 9) (hp := 12) (ct := 13) rfl (by decide) (by decide) (hts _ q392) (va_Nw.use rfl (hK.2.2.2.2.2.2.2.2.2.2.1 _ (List.mem_of_getElem? (i := 0) rfl))) (fun w hw => absurd hw List.not_mem_nil) hce hcv hcl9 ?_
      refine lv_astore_n (lv' := [(3, .ref q9), (0, .ref (h 16)), (1, .int x1), (2, .ref o)]) hx hb dL_hole_12 rfl hl (by decide) rfl (fun ls hl => ?_)
      refine lv_iconst (v := 1) hx hb dL_hole_13 (by decide) ?_
      exact W.iret (v := 1) hx hb hr (fun t ht hW => ⟨⟨1, (u, f), rfl, hX, by rw [ht]; exact hP, hD⟩, hS.F ht⟩) hS.2.2 dL_hole_14
    · refine lwCatch hown htab 1 (e0 := 0) (e1 := 9) (hp := 15) (ct := 29) rfl (by decide) (by decide) (hts _ q569) (va_Nw.use rfl (hK.2.2.2.2.2.2.2.2.2.2.1 _ (List.mem_of_getElem? (i := 3) rfl))) (fun w hw => ?_) hce hcv hcl9 ?_
      · obtain rfl : w = (0, 9, 12, 13) := by simpa using hw
        exact ⟨by decide, "java/lang/IllegalArgumentException", hts _ q392, hN _ (List.mem_of_getElem? (i := 2) rfl)⟩
      · refine lv_astore_n (lv' := [(3, .ref q9), (0, .ref (h 16)), (1, .int x1), (2, .ref o)]) hx hb dL_hole_15 rfl hl (by decide) rfl (fun ls hl => ?_)
        refine lv_iconst (v := 2) hx hb dL_hole_16 (by decide) ?_
        exact W.iret (v := 2) hx hb hr (fun t ht hW => ⟨⟨2, (u, f), rfl, hX, by rw [ht]; exact hP, hD⟩, hS.F ht⟩) hS.2.2 dL_hole_17
  · have hP : va_P (dC, dI) classes (wO h cy o u f) H1 := hP
    refine lv_i2l hx hb dL_hole_7 rfl ?_
    refine va_last hx hb hK.1 hP hD hS 21 1 rfl rfl (show vp_in 0 1 from vp_in_nI (n := 0) (by omega) (by omega)) dL_hole_8 (fun H2 locs hP hD hS => ?_)
    have hP : va_P (dC, dI) classes (wO h cy o u (vp_updL f 0 (Int32.toInt64 r))) H2 := hP
    have hD : va_D A (wO h cy o u (vp_updL f 0 (Int32.toInt64 r))) := hD
    refine lv_goto (tgt := 18) hx hb dL_hole_9 (by decide) ?_
    refine lv_iconst (v := 0) hx hb dL_hole_18 (by decide) ?_
    exact W.iret (v := 0) hx hb hr (fun t ht hW => ⟨⟨0, (u, vp_updL f 0 (Int32.toInt64 r)), rfl, hF, by rw [ht]; exact hP, hD⟩, hS.F ht⟩) hS.2.2 dL_hole_19
theorem dL_cell_0 : decode cL_cell 0 = .ok (.aload_n 2, 1) := by decide +kernel
theorem dL_cell_1 : decode cL_cell 1 = .ok (.iconst 0, 1) := by decide +kernel
theorem dL_cell_2 : decode cL_cell 2 = .ok (.aload_n 0, 1) := by decide +kernel
theorem dL_cell_3 : decode cL_cell 3 = .ok (.iload_n 1, 1) := by decide +kernel
theorem dL_cell_4 : decode cL_cell 4 = .ok (.invokevirtual 31, 3) := by decide +kernel
theorem dL_cell_7 : decode cL_cell 7 = .ok (.i2l, 1) := by decide +kernel
theorem dL_cell_8 : decode cL_cell 8 = .ok (.lastore, 1) := by decide +kernel
theorem dL_cell_9 : decode cL_cell 9 = .ok (.goto 6, 3) := by decide +kernel
theorem dL_cell_12 : decode cL_cell 12 = .ok (.astore_n 3, 1) := by decide +kernel
theorem dL_cell_13 : decode cL_cell 13 = .ok (.iconst 1, 1) := by decide +kernel
theorem dL_cell_14 : decode cL_cell 14 = .ok (.ireturn, 1) := by decide +kernel
theorem dL_cell_15 : decode cL_cell 15 = .ok (.iconst 0, 1) := by decide +kernel
theorem dL_cell_16 : decode cL_cell 16 = .ok (.ireturn, 1) := by decide +kernel
def wp_L_cell (σ : SX) (f : Nat → Int64) (x1 : Int32) (P : Int32 → SX → (Nat → Int64) → Prop) : Prop := wp_X3_cell σ x1 (fun r s => P 0 s (vp_updL f 0 (Int32.toInt64 r))) (fun E s => (E = "java/lang/IndexOutOfBoundsException" ∧ P 1 s f))
set_option maxHeartbeats 4000000 in
set_option maxRecDepth 100000 in
theorem m_L_cell (l : Launch) (hl9 : l.stackTraces = false) (dC : Nat → ClassId) (dI : Nat → Nat → Nat) (h : Nat → Nat) (cy : Nat → ClassId) (sa : Nat → Nat) (o sz : Nat) (σ : SX) (f : Nat → Int64) (x1 : Int32) (P : Int32 → SX → (Nat → Int64) → Prop) (hF : wp_L_cell σ f x1 P) : Met l yL_cell (wsH yL_cell cL_cell 4 (some .int) [(0, 9, 12, 34)]) ({ frames := 8, cells := 1, slots := 6, locals := 132 } : Room) (va_Pc [.ref (h 16), .int x1, .ref o] (PcW dC dI cy sa (wO h cy o σ f) sz)) (va_Qi (fun r (u : SX × (Nat → Int64)) => P r u.1 u.2) (fun (u : SX × (Nat → Int64)) t => va_P (dC, dI) classes (wO h cy o u.1 u.2) t.heap ∧ va_D (va_A (wO h cy o σ f) sz) (wO h cy o u.1 u.2)) (va_A (wO h cy o σ f) sz)) 1 6 (va_A (wO h cy o σ f) sz) := by
  refine Met.ofCxH (own := RL) (by decide) rfl (Nat.le_of_ble_eq_true rfl) ?_
  intro p e s m below meth c hC htab hv ls hl
  obtain ⟨hx, hb, hr, hml, hown, hts, hlocks⟩ := hC
  have hl : lv_has ls 4 [(0, .ref (h 16)), (1, .int x1), (2, .ref o)] := hl
  obtain ⟨⟨hsz, hP, hK, hD0, hXS, hXZ⟩, hN⟩ := hv
  subst hsz
  have hD := hD0.self (sz := s.heap.size)
  generalize hAe : va_A (wO h cy o σ f) s.heap.size = A at hD hXZ ⊢
  have hA : ∀ q : Nat, s.heap.size ≤ q → A q := fun q h => by rw [← hAe]; exact Or.inr h
  have hS : va_S A s.heap s.heap [] := va_S.rf
  clear hAe
  unfold wp_L_cell at hF
  refine lv_aload_n hx hb dL_cell_0 rfl (lv_at hl 2 rfl) ?_
  refine lv_iconst (v := 0) hx hb dL_cell_1 (by decide) ?_
  refine lv_aload_n hx hb dL_cell_2 rfl (lv_at hl 0 rfl) ?_
  refine lv_iload_n hx hb dL_cell_3 rfl (lv_at hl 1 rfl) ?_
  refine lwCall (q0 := 16) (x := wH h cy σ) (wn := fun u => wH h cy u) (fp0 _ _) ⟨hx, hb, hr, hml, hown, hts, hlocks⟩ hK hXS hXZ hP hD rfl rfl hS hA (m_X3_cell l hl9 dC dI h cy sa _ σ x1 _ _ hF) (As := [.int x1]) (rest := [.int 0, .ref o]) k_X3_cell q616 ⟨rfl, rfl⟩ ⟨Nat.le_of_ble_eq_true rfl, Nat.le_of_ble_eq_true rfl⟩ hl.1 rfl rfl (Nat.le_of_ble_eq_true rfl) dL_cell_4 ⟨Nat.le_of_ble_eq_true rfl, Nat.le_of_ble_eq_true rfl⟩ (fun E ce q9 u H1 locs hX hP hD hS hce hcv hcl9 => ?_) (fun r u H1 locs hF hP hD hS => ?_)
  · obtain ⟨rfl, hX⟩ := hX
    refine lwCatch hown htab 0 (e0 := 0) (e1 := 9) (hp := 12) (ct := 34) rfl (by decide) (by decide) (hts _ q592) (va_Nw.use rfl (hK.2.2.2.2.2.2.2.2.2.2.1 _ (List.mem_of_getElem? (i := 5) rfl))) (fun w hw => absurd hw List.not_mem_nil) hce hcv hcl9 ?_
    refine lv_astore_n (lv' := [(3, .ref q9), (0, .ref (h 16)), (1, .int x1), (2, .ref o)]) hx hb dL_cell_12 rfl hl (by decide) rfl (fun ls hl => ?_)
    refine lv_iconst (v := 1) hx hb dL_cell_13 (by decide) ?_
    exact W.iret (v := 1) hx hb hr (fun t ht hW => ⟨⟨1, (u, f), rfl, hX, by rw [ht]; exact hP, hD⟩, hS.F ht⟩) hS.2.2 dL_cell_14
  · have hP : va_P (dC, dI) classes (wO h cy o u f) H1 := hP
    refine lv_i2l hx hb dL_cell_7 rfl ?_
    refine va_last hx hb hK.1 hP hD hS 21 1 rfl rfl (show vp_in 0 1 from vp_in_nI (n := 0) (by omega) (by omega)) dL_cell_8 (fun H2 locs hP hD hS => ?_)
    have hP : va_P (dC, dI) classes (wO h cy o u (vp_updL f 0 (Int32.toInt64 r))) H2 := hP
    have hD : va_D A (wO h cy o u (vp_updL f 0 (Int32.toInt64 r))) := hD
    refine lv_goto (tgt := 15) hx hb dL_cell_9 (by decide) ?_
    refine lv_iconst (v := 0) hx hb dL_cell_15 (by decide) ?_
    exact W.iret (v := 0) hx hb hr (fun t ht hW => ⟨⟨0, (u, vp_updL f 0 (Int32.toInt64 r)), rfl, hF, by rw [ht]; exact hP, hD⟩, hS.F ht⟩) hS.2.2 dL_cell_16
theorem dL_put_0 : decode cL_put 0 = .ok (.aload_n 2, 1) := by decide +kernel
theorem dL_put_1 : decode cL_put 1 = .ok (.iconst 0, 1) := by decide +kernel
theorem dL_put_2 : decode cL_put 2 = .ok (.aload_n 0, 1) := by decide +kernel
theorem dL_put_3 : decode cL_put 3 = .ok (.iload_n 1, 1) := by decide +kernel
theorem dL_put_4 : decode cL_put 4 = .ok (.invokevirtual 36, 3) := by decide +kernel
theorem dL_put_7 : decode cL_put 7 = .ok (.i2l, 1) := by decide +kernel
theorem dL_put_8 : decode cL_put 8 = .ok (.lastore, 1) := by decide +kernel
theorem dL_put_9 : decode cL_put 9 = .ok (.goto 6, 3) := by decide +kernel
theorem dL_put_12 : decode cL_put 12 = .ok (.astore_n 3, 1) := by decide +kernel
theorem dL_put_13 : decode cL_put 13 = .ok (.iconst 1, 1) := by decide +kernel
theorem dL_put_14 : decode cL_put 14 = .ok (.ireturn, 1) := by decide +kernel
theorem dL_put_15 : decode cL_put 15 = .ok (.iconst 0, 1) := by decide +kernel
theorem dL_put_16 : decode cL_put 16 = .ok (.ireturn, 1) := by decide +kernel
def wp_L_put (σ : SX) (f : Nat → Int64) (x1 : Int32) (P : Int32 → SX → (Nat → Int64) → Prop) : Prop := wp_X3_put σ x1 (fun r s => P 0 s (vp_updL f 0 (Int32.toInt64 r))) (fun E s => (E = "java/lang/IndexOutOfBoundsException" ∧ P 1 s f))
set_option maxHeartbeats 4000000 in
set_option maxRecDepth 100000 in
theorem m_L_put (l : Launch) (hl9 : l.stackTraces = false) (dC : Nat → ClassId) (dI : Nat → Nat → Nat) (h : Nat → Nat) (cy : Nat → ClassId) (sa : Nat → Nat) (o sz : Nat) (σ : SX) (f : Nat → Int64) (x1 : Int32) (P : Int32 → SX → (Nat → Int64) → Prop) (hF : wp_L_put σ f x1 P) : Met l yL_put (wsH yL_put cL_put 4 (some .int) [(0, 9, 12, 34)]) ({ frames := 8, cells := 1, slots := 6, locals := 133 } : Room) (va_Pc [.ref (h 16), .int x1, .ref o] (PcW dC dI cy sa (wO h cy o σ f) sz)) (va_Qi (fun r (u : SX × (Nat → Int64)) => P r u.1 u.2) (fun (u : SX × (Nat → Int64)) t => va_P (dC, dI) classes (wO h cy o u.1 u.2) t.heap ∧ va_D (va_A (wO h cy o σ f) sz) (wO h cy o u.1 u.2)) (va_A (wO h cy o σ f) sz)) 1 6 (va_A (wO h cy o σ f) sz) := by
  refine Met.ofCxH (own := RL) (by decide) rfl (Nat.le_of_ble_eq_true rfl) ?_
  intro p e s m below meth c hC htab hv ls hl
  obtain ⟨hx, hb, hr, hml, hown, hts, hlocks⟩ := hC
  have hl : lv_has ls 4 [(0, .ref (h 16)), (1, .int x1), (2, .ref o)] := hl
  obtain ⟨⟨hsz, hP, hK, hD0, hXS, hXZ⟩, hN⟩ := hv
  subst hsz
  have hD := hD0.self (sz := s.heap.size)
  generalize hAe : va_A (wO h cy o σ f) s.heap.size = A at hD hXZ ⊢
  have hA : ∀ q : Nat, s.heap.size ≤ q → A q := fun q h => by rw [← hAe]; exact Or.inr h
  have hS : va_S A s.heap s.heap [] := va_S.rf
  clear hAe
  unfold wp_L_put at hF
  refine lv_aload_n hx hb dL_put_0 rfl (lv_at hl 2 rfl) ?_
  refine lv_iconst (v := 0) hx hb dL_put_1 (by decide) ?_
  refine lv_aload_n hx hb dL_put_2 rfl (lv_at hl 0 rfl) ?_
  refine lv_iload_n hx hb dL_put_3 rfl (lv_at hl 1 rfl) ?_
  refine lwCall (q0 := 16) (x := wH h cy σ) (wn := fun u => wH h cy u) (fp0 _ _) ⟨hx, hb, hr, hml, hown, hts, hlocks⟩ hK hXS hXZ hP hD rfl rfl hS hA (m_X3_put l hl9 dC dI h cy sa _ σ x1 _ _ hF) (As := [.int x1]) (rest := [.int 0, .ref o]) k_X3_put q640 ⟨rfl, rfl⟩ ⟨Nat.le_of_ble_eq_true rfl, Nat.le_of_ble_eq_true rfl⟩ hl.1 rfl rfl (Nat.le_of_ble_eq_true rfl) dL_put_4 ⟨Nat.le_of_ble_eq_true rfl, Nat.le_of_ble_eq_true rfl⟩ (fun E ce q9 u H1 locs hX hP hD hS hce hcv hcl9 => ?_) (fun r u H1 locs hF hP hD hS => ?_)
  · obtain ⟨rfl, hX⟩ := hX
    refine lwCatch hown htab 0 (e0 := 0) (e1 := 9) (hp := 12) (ct := 34) rfl (by decide) (by decide) (hts _ q592) (va_Nw.use rfl (hK.2.2.2.2.2.2.2.2.2.2.1 _ (List.mem_of_getElem? (i := 5) rfl))) (fun w hw => absurd hw List.not_mem_nil) hce hcv hcl9 ?_
    refine lv_astore_n (lv' := [(3, .ref q9), (0, .ref (h 16)), (1, .int x1), (2, .ref o)]) hx hb dL_put_12 rfl hl (by decide) rfl (fun ls hl => ?_)
    refine lv_iconst (v := 1) hx hb dL_put_13 (by decide) ?_
    exact W.iret (v := 1) hx hb hr (fun t ht hW => ⟨⟨1, (u, f), rfl, hX, by rw [ht]; exact hP, hD⟩, hS.F ht⟩) hS.2.2 dL_put_14
  · have hP : va_P (dC, dI) classes (wO h cy o u f) H1 := hP
    refine lv_i2l hx hb dL_put_7 rfl ?_
    refine va_last hx hb hK.1 hP hD hS 21 1 rfl rfl (show vp_in 0 1 from vp_in_nI (n := 0) (by omega) (by omega)) dL_put_8 (fun H2 locs hP hD hS => ?_)
    have hP : va_P (dC, dI) classes (wO h cy o u (vp_updL f 0 (Int32.toInt64 r))) H2 := hP
    have hD : va_D A (wO h cy o u (vp_updL f 0 (Int32.toInt64 r))) := hD
    refine lv_goto (tgt := 15) hx hb dL_put_9 (by decide) ?_
    refine lv_iconst (v := 0) hx hb dL_put_15 (by decide) ?_
    exact W.iret (v := 0) hx hb hr (fun t ht hW => ⟨⟨0, (u, vp_updL f 0 (Int32.toInt64 r)), rfl, hF, by rw [ht]; exact hP, hD⟩, hS.F ht⟩) hS.2.2 dL_put_16
theorem dL_mayJump_0 : decode cL_mayJump 0 = .ok (.aload_n 3, 1) := by decide +kernel
theorem dL_mayJump_1 : decode cL_mayJump 1 = .ok (.iconst 0, 1) := by decide +kernel
theorem dL_mayJump_2 : decode cL_mayJump 2 = .ok (.aload_n 0, 1) := by decide +kernel
theorem dL_mayJump_3 : decode cL_mayJump 3 = .ok (.iload_n 1, 1) := by decide +kernel
theorem dL_mayJump_4 : decode cL_mayJump 4 = .ok (.iload_n 2, 1) := by decide +kernel
theorem dL_mayJump_5 : decode cL_mayJump 5 = .ok (.invokevirtual 39, 3) := by decide +kernel
theorem dL_mayJump_8 : decode cL_mayJump 8 = .ok (.ifCond .eq 7, 3) := by decide +kernel
theorem dL_mayJump_11 : decode cL_mayJump 11 = .ok (.lconst 1, 1) := by decide +kernel
theorem dL_mayJump_12 : decode cL_mayJump 12 = .ok (.goto 4, 3) := by decide +kernel
theorem dL_mayJump_15 : decode cL_mayJump 15 = .ok (.lconst 0, 1) := by decide +kernel
theorem dL_mayJump_16 : decode cL_mayJump 16 = .ok (.lastore, 1) := by decide +kernel
theorem dL_mayJump_17 : decode cL_mayJump 17 = .ok (.goto 7, 3) := by decide +kernel
theorem dL_mayJump_20 : decode cL_mayJump 20 = .ok (.astore 4, 2) := by decide +kernel
theorem dL_mayJump_22 : decode cL_mayJump 22 = .ok (.iconst 1, 1) := by decide +kernel
theorem dL_mayJump_23 : decode cL_mayJump 23 = .ok (.ireturn, 1) := by decide +kernel
theorem dL_mayJump_24 : decode cL_mayJump 24 = .ok (.iconst 0, 1) := by decide +kernel
theorem dL_mayJump_25 : decode cL_mayJump 25 = .ok (.ireturn, 1) := by decide +kernel
def wp_L_mayJump (fu : Nat) (σ : SX) (f : Nat → Int64) (x1 : Int32) (x2 : Int32) (P : Int32 → SX → (Nat → Int64) → Prop) : Prop := wp_X3_mayJump fu σ x1 x2 (fun r s => P 0 s (vp_updL f 0 (zB r))) (fun E s => (E = "java/lang/IndexOutOfBoundsException" ∧ P 1 s f))
set_option maxHeartbeats 4000000 in
set_option maxRecDepth 100000 in
theorem m_L_mayJump (l : Launch) (hl9 : l.stackTraces = false) (dC : Nat → ClassId) (dI : Nat → Nat → Nat) (h : Nat → Nat) (cy : Nat → ClassId) (sa : Nat → Nat) (o sz : Nat) (fu : Nat) (σ : SX) (f : Nat → Int64) (x1 : Int32) (x2 : Int32) (P : Int32 → SX → (Nat → Int64) → Prop) (hF : wp_L_mayJump fu σ f x1 x2 P) : Met l yL_mayJump (wsH yL_mayJump cL_mayJump 5 (some .int) [(0, 17, 20, 34)]) ({ frames := 8, cells := 2, slots := 12, locals := 133 } : Room) (va_Pc [.ref (h 16), .int x1, .int x2, .ref o] (PcW dC dI cy sa (wO h cy o σ f) sz)) (va_Qi (fun r (u : SX × (Nat → Int64)) => P r u.1 u.2) (fun (u : SX × (Nat → Int64)) t => va_P (dC, dI) classes (wO h cy o u.1 u.2) t.heap ∧ va_D (va_A (wO h cy o σ f) sz) (wO h cy o u.1 u.2)) (va_A (wO h cy o σ f) sz)) 2 12 (va_A (wO h cy o σ f) sz) := by
  refine Met.ofCxH (own := RL) (by decide) rfl (Nat.le_of_ble_eq_true rfl) ?_
  intro p e s m below meth c hC htab hv ls hl
  obtain ⟨hx, hb, hr, hml, hown, hts, hlocks⟩ := hC
  have hl : lv_has ls 5 [(0, .ref (h 16)), (1, .int x1), (2, .int x2), (3, .ref o)] := hl
  obtain ⟨⟨hsz, hP, hK, hD0, hXS, hXZ⟩, hN⟩ := hv
  subst hsz
  have hD := hD0.self (sz := s.heap.size)
  generalize hAe : va_A (wO h cy o σ f) s.heap.size = A at hD hXZ ⊢
  have hA : ∀ q : Nat, s.heap.size ≤ q → A q := fun q h => by rw [← hAe]; exact Or.inr h
  have hS : va_S A s.heap s.heap [] := va_S.rf
  clear hAe
  unfold wp_L_mayJump at hF
  refine lv_aload_n hx hb dL_mayJump_0 rfl (lv_at hl 3 rfl) ?_
  refine lv_iconst (v := 0) hx hb dL_mayJump_1 (by decide) ?_
  refine lv_aload_n hx hb dL_mayJump_2 rfl (lv_at hl 0 rfl) ?_
  refine lv_iload_n hx hb dL_mayJump_3 rfl (lv_at hl 1 rfl) ?_
  refine lv_iload_n hx hb dL_mayJump_4 rfl (lv_at hl 2 rfl) ?_
  refine lwCall (q0 := 16) (x := wH h cy σ) (wn := fun u => wH h cy u) (fp0 _ _) ⟨hx, hb, hr, hml, hown, hts, hlocks⟩ hK hXS hXZ hP hD rfl rfl hS hA (m_X3_mayJump l hl9 dC dI h cy sa _ fu σ x1 x2 _ _ hF) (As := [.int x1, .int x2]) (rest := [.int 0, .ref o]) k_X3_mayJump q652 ⟨rfl, rfl⟩ ⟨Nat.le_of_ble_eq_true rfl, Nat.le_of_ble_eq_true rfl⟩ hl.1 rfl rfl (Nat.le_of_ble_eq_true rfl) dL_mayJump_5 ⟨Nat.le_of_ble_eq_true rfl, Nat.le_of_ble_eq_true rfl⟩ (fun E ce q9 u H1 locs hX hP hD hS hce hcv hcl9 => ?_) (fun r u H1 locs hF hP hD hS => ?_)
  · obtain ⟨rfl, hX⟩ := hX
    refine lwCatch hown htab 0 (e0 := 0) (e1 := 17) (hp := 20) (ct := 34) rfl (by decide) (by decide) (hts _ q592) (va_Nw.use rfl (hK.2.2.2.2.2.2.2.2.2.2.1 _ (List.mem_of_getElem? (i := 5) rfl))) (fun w hw => absurd hw List.not_mem_nil) hce hcv hcl9 ?_
    refine lv_astore (lv' := [(4, .ref q9), (0, .ref (h 16)), (1, .int x1), (2, .int x2), (3, .ref o)]) hx hb dL_mayJump_20 hl (by decide) rfl (fun ls hl => ?_)
    refine lv_iconst (v := 1) hx hb dL_mayJump_22 (by decide) ?_
    exact W.iret (v := 1) hx hb hr (fun t ht hW => ⟨⟨1, (u, f), rfl, hX, by rw [ht]; exact hP, hD⟩, hS.F ht⟩) hS.2.2 dL_mayJump_23
  · have hP : va_P (dC, dI) classes (wO h cy o u f) H1 := hP
    refine lv_if_eq (tgt := 15) hx hb dL_mayJump_8 (by decide) (fun cz => ?_) (fun cz => ?_)
    · rw [show zB r = 0 from if_pos cz] at hF
      refine lv_lconst (v := 0) hx hb dL_mayJump_15 (by decide) ?_
      refine va_last hx hb hK.1 hP hD hS 21 1 rfl rfl (show vp_in 0 1 from vp_in_nI (n := 0) (by omega) (by omega)) dL_mayJump_16 (fun H2 locs hP hD hS => ?_)
      have hP : va_P (dC, dI) classes (wO h cy o u (vp_updL f 0 0)) H2 := hP
      have hD : va_D A (wO h cy o u (vp_updL f 0 0)) := hD
      refine lv_goto (tgt := 24) hx hb dL_mayJump_17 (by decide) ?_
      refine lv_iconst (v := 0) hx hb dL_mayJump_24 (by decide) ?_
      exact W.iret (v := 0) hx hb hr (fun t ht hW => ⟨⟨0, (u, vp_updL f 0 0), rfl, hF, by rw [ht]; exact hP, hD⟩, hS.F ht⟩) hS.2.2 dL_mayJump_25
    · rw [show zB r = 1 from if_neg cz] at hF
      refine lv_lconst (v := 1) hx hb dL_mayJump_11 (by decide) ?_
      refine lv_goto (tgt := 16) hx hb dL_mayJump_12 (by decide) ?_
      refine va_last hx hb hK.1 hP hD hS 21 1 rfl rfl (show vp_in 0 1 from vp_in_nI (n := 0) (by omega) (by omega)) dL_mayJump_16 (fun H2 locs hP hD hS => ?_)
      have hP : va_P (dC, dI) classes (wO h cy o u (vp_updL f 0 1)) H2 := hP
      have hD : va_D A (wO h cy o u (vp_updL f 0 1)) := hD
      refine lv_goto (tgt := 24) hx hb dL_mayJump_17 (by decide) ?_
      refine lv_iconst (v := 0) hx hb dL_mayJump_24 (by decide) ?_
      exact W.iret (v := 0) hx hb hr (fun t ht hW => ⟨⟨0, (u, vp_updL f 0 1), rfl, hF, by rw [ht]; exact hP, hD⟩, hS.F ht⟩) hS.2.2 dL_mayJump_25
theorem dL_jump_0 : decode cL_jump 0 = .ok (.aload_n 3, 1) := by decide +kernel
theorem dL_jump_1 : decode cL_jump 1 = .ok (.iconst 0, 1) := by decide +kernel
theorem dL_jump_2 : decode cL_jump 2 = .ok (.aload_n 0, 1) := by decide +kernel
theorem dL_jump_3 : decode cL_jump 3 = .ok (.iload_n 1, 1) := by decide +kernel
theorem dL_jump_4 : decode cL_jump 4 = .ok (.iload_n 2, 1) := by decide +kernel
theorem dL_jump_5 : decode cL_jump 5 = .ok (.invokevirtual 43, 3) := by decide +kernel
theorem dL_jump_8 : decode cL_jump 8 = .ok (.i2l, 1) := by decide +kernel
theorem dL_jump_9 : decode cL_jump 9 = .ok (.lastore, 1) := by decide +kernel
theorem dL_jump_10 : decode cL_jump 10 = .ok (.goto 11, 3) := by decide +kernel
theorem dL_jump_13 : decode cL_jump 13 = .ok (.astore 4, 2) := by decide +kernel
theorem dL_jump_15 : decode cL_jump 15 = .ok (.iconst 1, 1) := by decide +kernel
theorem dL_jump_16 : decode cL_jump 16 = .ok (.ireturn, 1) := by decide +kernel
theorem dL_jump_17 : decode cL_jump 17 = .ok (.astore 4, 2) := by decide +kernel
theorem dL_jump_19 : decode cL_jump 19 = .ok (.iconst 2, 1) := by decide +kernel
theorem dL_jump_20 : decode cL_jump 20 = .ok (.ireturn, 1) := by decide +kernel
theorem dL_jump_21 : decode cL_jump 21 = .ok (.iconst 0, 1) := by decide +kernel
theorem dL_jump_22 : decode cL_jump 22 = .ok (.ireturn, 1) := by decide +kernel
def wp_L_jump (fu : Nat) (σ : SX) (f : Nat → Int64) (x1 : Int32) (x2 : Int32) (P : Int32 → SX → (Nat → Int64) → Prop) : Prop := wp_X3_jump fu σ x1 x2 (fun r s => P 0 s (vp_updL f 0 (Int32.toInt64 r))) (fun E s => (E = "java/lang/IndexOutOfBoundsException" ∧ P 1 s f) ∨ (E = "java/lang/UnsupportedOperationException" ∧ P 2 s f))
set_option maxHeartbeats 4000000 in
set_option maxRecDepth 100000 in
theorem m_L_jump (l : Launch) (hl9 : l.stackTraces = false) (dC : Nat → ClassId) (dI : Nat → Nat → Nat) (h : Nat → Nat) (cy : Nat → ClassId) (sa : Nat → Nat) (o sz : Nat) (fu : Nat) (σ : SX) (f : Nat → Int64) (x1 : Int32) (x2 : Int32) (P : Int32 → SX → (Nat → Int64) → Prop) (hF : wp_L_jump fu σ f x1 x2 P) : Met l yL_jump (wsH yL_jump cL_jump 5 (some .int) [(0, 10, 13, 34), (0, 10, 17, 19)]) ({ frames := 9, cells := 3, slots := 18, locals := 156 } : Room) (va_Pc [.ref (h 16), .int x1, .int x2, .ref o] (PcW dC dI cy sa (wO h cy o σ f) sz)) (va_Qi (fun r (u : SX × (Nat → Int64)) => P r u.1 u.2) (fun (u : SX × (Nat → Int64)) t => va_P (dC, dI) classes (wO h cy o u.1 u.2) t.heap ∧ va_D (va_A (wO h cy o σ f) sz) (wO h cy o u.1 u.2)) (va_A (wO h cy o σ f) sz)) 3 18 (va_A (wO h cy o σ f) sz) := by
  refine Met.ofCxH (own := RL) (by decide) rfl (Nat.le_of_ble_eq_true rfl) ?_
  intro p e s m below meth c hC htab hv ls hl
  obtain ⟨hx, hb, hr, hml, hown, hts, hlocks⟩ := hC
  have hl : lv_has ls 5 [(0, .ref (h 16)), (1, .int x1), (2, .int x2), (3, .ref o)] := hl
  obtain ⟨⟨hsz, hP, hK, hD0, hXS, hXZ⟩, hN⟩ := hv
  subst hsz
  have hD := hD0.self (sz := s.heap.size)
  generalize hAe : va_A (wO h cy o σ f) s.heap.size = A at hD hXZ ⊢
  have hA : ∀ q : Nat, s.heap.size ≤ q → A q := fun q h => by rw [← hAe]; exact Or.inr h
  have hS : va_S A s.heap s.heap [] := va_S.rf
  clear hAe
  unfold wp_L_jump at hF
  refine lv_aload_n hx hb dL_jump_0 rfl (lv_at hl 3 rfl) ?_
  refine lv_iconst (v := 0) hx hb dL_jump_1 (by decide) ?_
  refine lv_aload_n hx hb dL_jump_2 rfl (lv_at hl 0 rfl) ?_
  refine lv_iload_n hx hb dL_jump_3 rfl (lv_at hl 1 rfl) ?_
  refine lv_iload_n hx hb dL_jump_4 rfl (lv_at hl 2 rfl) ?_
  refine lwCall (q0 := 16) (x := wH h cy σ) (wn := fun u => wH h cy u) (fp0 _ _) ⟨hx, hb, hr, hml, hown, hts, hlocks⟩ hK hXS hXZ hP hD rfl rfl hS hA (m_X3_jump l hl9 dC dI h cy sa _ fu σ x1 x2 _ _ hF) (As := [.int x1, .int x2]) (rest := [.int 0, .ref o]) k_X3_jump q663 ⟨rfl, rfl⟩ ⟨Nat.le_of_ble_eq_true rfl, Nat.le_of_ble_eq_true rfl⟩ hl.1 rfl rfl (Nat.le_of_ble_eq_true rfl) dL_jump_5 ⟨Nat.le_of_ble_eq_true rfl, Nat.le_of_ble_eq_true rfl⟩ (fun E ce q9 u H1 locs hX hP hD hS hce hcv hcl9 => ?_) (fun r u H1 locs hF hP hD hS => ?_)
  · rcases hX with ⟨rfl, hX⟩ | ⟨rfl, hX⟩
    · refine lwCatch hown htab 0 (e0 := 0) (e1 := 10) (hp := 13) (ct := 34) rfl (by decide) (by decide) (hts _ q592) (va_Nw.use rfl (hK.2.2.2.2.2.2.2.2.2.2.1 _ (List.mem_of_getElem? (i := 5) rfl))) (fun w hw => absurd hw List.not_mem_nil) hce hcv hcl9 ?_
      refine lv_astore (lv' := [(4, .ref q9), (0, .ref (h 16)), (1, .int x1), (2, .int x2), (3, .ref o)]) hx hb dL_jump_13 hl (by decide) rfl (fun ls hl => ?_)
      refine lv_iconst (v := 1) hx hb dL_jump_15 (by decide) ?_
      exact W.iret (v := 1) hx hb hr (fun t ht hW => ⟨⟨1, (u, f), rfl, hX, by rw [ht]; exact hP, hD⟩, hS.F ht⟩) hS.2.2 dL_jump_16
    · refine lwCatch hown htab 1 (e0 := 0) (e1 := 10) (hp := 17) (ct := 19) rfl (by decide) (by decide) (hts _ q502) (va_Nw.use rfl (hK.2.2.2.2.2.2.2.2.2.2.1 _ (List.mem_of_getElem? (i := 1) rfl))) (fun w hw => ?_) hce hcv hcl9 ?_
      · obtain rfl : w = (0, 10, 13, 34) := by simpa using hw
        exact ⟨by decide, "java/lang/IndexOutOfBoundsException", hts _ q592, hN _ (List.mem_of_getElem? (i := 21) rfl)⟩
      · refine lv_astore (lv' := [(4, .ref q9), (0, .ref (h 16)), (1, .int x1), (2, .int x2), (3, .ref o)]) hx hb dL_jump_17 hl (by decide) rfl (fun ls hl => ?_)
        refine lv_iconst (v := 2) hx hb dL_jump_19 (by decide) ?_
        exact W.iret (v := 2) hx hb hr (fun t ht hW => ⟨⟨2, (u, f), rfl, hX, by rw [ht]; exact hP, hD⟩, hS.F ht⟩) hS.2.2 dL_jump_20
  · have hP : va_P (dC, dI) classes (wO h cy o u f) H1 := hP
    refine lv_i2l hx hb dL_jump_8 rfl ?_
    refine va_last hx hb hK.1 hP hD hS 21 1 rfl rfl (show vp_in 0 1 from vp_in_nI (n := 0) (by omega) (by omega)) dL_jump_9 (fun H2 locs hP hD hS => ?_)
    have hP : va_P (dC, dI) classes (wO h cy o u (vp_updL f 0 (Int32.toInt64 r))) H2 := hP
    have hD : va_D A (wO h cy o u (vp_updL f 0 (Int32.toInt64 r))) := hD
    refine lv_goto (tgt := 21) hx hb dL_jump_10 (by decide) ?_
    refine lv_iconst (v := 0) hx hb dL_jump_21 (by decide) ?_
    exact W.iret (v := 0) hx hb hr (fun t ht hW => ⟨⟨0, (u, vp_updL f 0 (Int32.toInt64 r)), rfl, hF, by rw [ht]; exact hP, hD⟩, hS.F ht⟩) hS.2.2 dL_jump_22
theorem dL_jumpAt_0 : decode cL_jumpAt 0 = .ok (.aload_n 2, 1) := by decide +kernel
theorem dL_jumpAt_1 : decode cL_jumpAt 1 = .ok (.iconst 0, 1) := by decide +kernel
theorem dL_jumpAt_2 : decode cL_jumpAt 2 = .ok (.aload_n 0, 1) := by decide +kernel
theorem dL_jumpAt_3 : decode cL_jumpAt 3 = .ok (.iload_n 1, 1) := by decide +kernel
theorem dL_jumpAt_4 : decode cL_jumpAt 4 = .ok (.invokevirtual 47, 3) := by decide +kernel
theorem dL_jumpAt_7 : decode cL_jumpAt 7 = .ok (.i2l, 1) := by decide +kernel
theorem dL_jumpAt_8 : decode cL_jumpAt 8 = .ok (.lastore, 1) := by decide +kernel
theorem dL_jumpAt_9 : decode cL_jumpAt 9 = .ok (.goto 6, 3) := by decide +kernel
theorem dL_jumpAt_12 : decode cL_jumpAt 12 = .ok (.astore_n 3, 1) := by decide +kernel
theorem dL_jumpAt_13 : decode cL_jumpAt 13 = .ok (.iconst 1, 1) := by decide +kernel
theorem dL_jumpAt_14 : decode cL_jumpAt 14 = .ok (.ireturn, 1) := by decide +kernel
theorem dL_jumpAt_15 : decode cL_jumpAt 15 = .ok (.iconst 0, 1) := by decide +kernel
theorem dL_jumpAt_16 : decode cL_jumpAt 16 = .ok (.ireturn, 1) := by decide +kernel
def wp_L_jumpAt (fu : Nat) (σ : SX) (f : Nat → Int64) (x1 : Int32) (P : Int32 → SX → (Nat → Int64) → Prop) : Prop := wp_X3_jumpAt fu σ x1 (fun r s => P 0 s (vp_updL f 0 (Int32.toInt64 r))) (fun E s => (E = "java/util/NoSuchElementException" ∧ P 1 s f))
set_option maxHeartbeats 4000000 in
set_option maxRecDepth 100000 in
theorem m_L_jumpAt (l : Launch) (hl9 : l.stackTraces = false) (dC : Nat → ClassId) (dI : Nat → Nat → Nat) (h : Nat → Nat) (cy : Nat → ClassId) (sa : Nat → Nat) (o sz : Nat) (fu : Nat) (σ : SX) (f : Nat → Int64) (x1 : Int32) (P : Int32 → SX → (Nat → Int64) → Prop) (hF : wp_L_jumpAt fu σ f x1 P) : Met l yL_jumpAt (wsH yL_jumpAt cL_jumpAt 4 (some .int) [(0, 9, 12, 29)]) ({ frames := 7, cells := 1, slots := 6, locals := 113 } : Room) (va_Pc [.ref (h 16), .int x1, .ref o] (PcW dC dI cy sa (wO h cy o σ f) sz)) (va_Qi (fun r (u : SX × (Nat → Int64)) => P r u.1 u.2) (fun (u : SX × (Nat → Int64)) t => va_P (dC, dI) classes (wO h cy o u.1 u.2) t.heap ∧ va_D (va_A (wO h cy o σ f) sz) (wO h cy o u.1 u.2)) (va_A (wO h cy o σ f) sz)) 1 6 (va_A (wO h cy o σ f) sz) := by
  refine Met.ofCxH (own := RL) (by decide) rfl (Nat.le_of_ble_eq_true rfl) ?_
  intro p e s m below meth c hC htab hv ls hl
  obtain ⟨hx, hb, hr, hml, hown, hts, hlocks⟩ := hC
  have hl : lv_has ls 4 [(0, .ref (h 16)), (1, .int x1), (2, .ref o)] := hl
  obtain ⟨⟨hsz, hP, hK, hD0, hXS, hXZ⟩, hN⟩ := hv
  subst hsz
  have hD := hD0.self (sz := s.heap.size)
  generalize hAe : va_A (wO h cy o σ f) s.heap.size = A at hD hXZ ⊢
  have hA : ∀ q : Nat, s.heap.size ≤ q → A q := fun q h => by rw [← hAe]; exact Or.inr h
  have hS : va_S A s.heap s.heap [] := va_S.rf
  clear hAe
  unfold wp_L_jumpAt at hF
  refine lv_aload_n hx hb dL_jumpAt_0 rfl (lv_at hl 2 rfl) ?_
  refine lv_iconst (v := 0) hx hb dL_jumpAt_1 (by decide) ?_
  refine lv_aload_n hx hb dL_jumpAt_2 rfl (lv_at hl 0 rfl) ?_
  refine lv_iload_n hx hb dL_jumpAt_3 rfl (lv_at hl 1 rfl) ?_
  refine lwCall (q0 := 16) (x := wH h cy σ) (wn := fun u => wH h cy u) (fp0 _ _) ⟨hx, hb, hr, hml, hown, hts, hlocks⟩ hK hXS hXZ hP hD rfl rfl hS hA (m_X3_jumpAt l hl9 dC dI h cy sa _ fu σ x1 _ _ hF) (As := [.int x1]) (rest := [.int 0, .ref o]) k_X3_jumpAt q681 ⟨rfl, rfl⟩ ⟨Nat.le_of_ble_eq_true rfl, Nat.le_of_ble_eq_true rfl⟩ hl.1 rfl rfl (Nat.le_of_ble_eq_true rfl) dL_jumpAt_4 ⟨Nat.le_of_ble_eq_true rfl, Nat.le_of_ble_eq_true rfl⟩ (fun E ce q9 u H1 locs hX hP hD hS hce hcv hcl9 => ?_) (fun r u H1 locs hF hP hD hS => ?_)
  · obtain ⟨rfl, hX⟩ := hX
    refine lwCatch hown htab 0 (e0 := 0) (e1 := 9) (hp := 12) (ct := 29) rfl (by decide) (by decide) (hts _ q569) (va_Nw.use rfl (hK.2.2.2.2.2.2.2.2.2.2.1 _ (List.mem_of_getElem? (i := 3) rfl))) (fun w hw => absurd hw List.not_mem_nil) hce hcv hcl9 ?_
    refine lv_astore_n (lv' := [(3, .ref q9), (0, .ref (h 16)), (1, .int x1), (2, .ref o)]) hx hb dL_jumpAt_12 rfl hl (by decide) rfl (fun ls hl => ?_)
    refine lv_iconst (v := 1) hx hb dL_jumpAt_13 (by decide) ?_
    exact W.iret (v := 1) hx hb hr (fun t ht hW => ⟨⟨1, (u, f), rfl, hX, by rw [ht]; exact hP, hD⟩, hS.F ht⟩) hS.2.2 dL_jumpAt_14
  · have hP : va_P (dC, dI) classes (wO h cy o u f) H1 := hP
    refine lv_i2l hx hb dL_jumpAt_7 rfl ?_
    refine va_last hx hb hK.1 hP hD hS 21 1 rfl rfl (show vp_in 0 1 from vp_in_nI (n := 0) (by omega) (by omega)) dL_jumpAt_8 (fun H2 locs hP hD hS => ?_)
    have hP : va_P (dC, dI) classes (wO h cy o u (vp_updL f 0 (Int32.toInt64 r))) H2 := hP
    have hD : va_D A (wO h cy o u (vp_updL f 0 (Int32.toInt64 r))) := hD
    refine lv_goto (tgt := 15) hx hb dL_jumpAt_9 (by decide) ?_
    refine lv_iconst (v := 0) hx hb dL_jumpAt_15 (by decide) ?_
    exact W.iret (v := 0) hx hb hr (fun t ht hW => ⟨⟨0, (u, vp_updL f 0 (Int32.toInt64 r)), rfl, hF, by rw [ht]; exact hP, hD⟩, hS.F ht⟩) hS.2.2 dL_jumpAt_16
theorem dL_takeBack_0 : decode cL_takeBack 0 = .ok (.aload_n 1, 1) := by decide +kernel
theorem dL_takeBack_1 : decode cL_takeBack 1 = .ok (.iconst 0, 1) := by decide +kernel
theorem dL_takeBack_2 : decode cL_takeBack 2 = .ok (.aload_n 0, 1) := by decide +kernel
theorem dL_takeBack_3 : decode cL_takeBack 3 = .ok (.invokevirtual 50, 3) := by decide +kernel
theorem dL_takeBack_6 : decode cL_takeBack 6 = .ok (.i2l, 1) := by decide +kernel
theorem dL_takeBack_7 : decode cL_takeBack 7 = .ok (.lastore, 1) := by decide +kernel
theorem dL_takeBack_8 : decode cL_takeBack 8 = .ok (.goto 6, 3) := by decide +kernel
theorem dL_takeBack_11 : decode cL_takeBack 11 = .ok (.astore_n 2, 1) := by decide +kernel
theorem dL_takeBack_12 : decode cL_takeBack 12 = .ok (.iconst 1, 1) := by decide +kernel
theorem dL_takeBack_13 : decode cL_takeBack 13 = .ok (.ireturn, 1) := by decide +kernel
theorem dL_takeBack_14 : decode cL_takeBack 14 = .ok (.iconst 0, 1) := by decide +kernel
theorem dL_takeBack_15 : decode cL_takeBack 15 = .ok (.ireturn, 1) := by decide +kernel
def wp_L_takeBack (fu : Nat) (σ : SX) (f : Nat → Int64) (P : Int32 → SX → (Nat → Int64) → Prop) : Prop := wp_X3_takeBack fu σ (fun r s => P 0 s (vp_updL f 0 (Int32.toInt64 r))) (fun E s => (E = "java/util/NoSuchElementException" ∧ P 1 s f))
set_option maxHeartbeats 4000000 in
set_option maxRecDepth 100000 in
theorem m_L_takeBack (l : Launch) (hl9 : l.stackTraces = false) (dC : Nat → ClassId) (dI : Nat → Nat → Nat) (h : Nat → Nat) (cy : Nat → ClassId) (sa : Nat → Nat) (o sz : Nat) (fu : Nat) (σ : SX) (f : Nat → Int64) (P : Int32 → SX → (Nat → Int64) → Prop) (hF : wp_L_takeBack fu σ f P) : Met l yL_takeBack (wsH yL_takeBack cL_takeBack 3 (some .int) [(0, 8, 11, 29)]) ({ frames := 7, cells := 1, slots := 6, locals := 111 } : Room) (va_Pc [.ref (h 16), .ref o] (PcW dC dI cy sa (wO h cy o σ f) sz)) (va_Qi (fun r (u : SX × (Nat → Int64)) => P r u.1 u.2) (fun (u : SX × (Nat → Int64)) t => va_P (dC, dI) classes (wO h cy o u.1 u.2) t.heap ∧ va_D (va_A (wO h cy o σ f) sz) (wO h cy o u.1 u.2)) (va_A (wO h cy o σ f) sz)) 1 6 (va_A (wO h cy o σ f) sz) := by
  refine Met.ofCxH (own := RL) (by decide) rfl (Nat.le_of_ble_eq_true rfl) ?_
  intro p e s m below meth c hC htab hv ls hl
  obtain ⟨hx, hb, hr, hml, hown, hts, hlocks⟩ := hC
  have hl : lv_has ls 3 [(0, .ref (h 16)), (1, .ref o)] := hl
  obtain ⟨⟨hsz, hP, hK, hD0, hXS, hXZ⟩, hN⟩ := hv
  subst hsz
  have hD := hD0.self (sz := s.heap.size)
  generalize hAe : va_A (wO h cy o σ f) s.heap.size = A at hD hXZ ⊢
  have hA : ∀ q : Nat, s.heap.size ≤ q → A q := fun q h => by rw [← hAe]; exact Or.inr h
  have hS : va_S A s.heap s.heap [] := va_S.rf
  clear hAe
  unfold wp_L_takeBack at hF
  refine lv_aload_n hx hb dL_takeBack_0 rfl (lv_at hl 1 rfl) ?_
  refine lv_iconst (v := 0) hx hb dL_takeBack_1 (by decide) ?_
  refine lv_aload_n hx hb dL_takeBack_2 rfl (lv_at hl 0 rfl) ?_
  refine lwCall (q0 := 16) (x := wH h cy σ) (wn := fun u => wH h cy u) (fp0 _ _) ⟨hx, hb, hr, hml, hown, hts, hlocks⟩ hK hXS hXZ hP hD rfl rfl hS hA (m_X3_takeBack l hl9 dC dI h cy sa _ fu σ _ _ hF) (As := []) (rest := [.int 0, .ref o]) k_X3_takeBack q693 ⟨rfl, rfl⟩ ⟨Nat.le_of_ble_eq_true rfl, Nat.le_of_ble_eq_true rfl⟩ hl.1 rfl rfl (Nat.le_of_ble_eq_true rfl) dL_takeBack_3 ⟨Nat.le_of_ble_eq_true rfl, Nat.le_of_ble_eq_true rfl⟩ (fun E ce q9 u H1 locs hX hP hD hS hce hcv hcl9 => ?_) (fun r u H1 locs hF hP hD hS => ?_)
  · obtain ⟨rfl, hX⟩ := hX
    refine lwCatch hown htab 0 (e0 := 0) (e1 := 8) (hp := 11) (ct := 29) rfl (by decide) (by decide) (hts _ q569) (va_Nw.use rfl (hK.2.2.2.2.2.2.2.2.2.2.1 _ (List.mem_of_getElem? (i := 3) rfl))) (fun w hw => absurd hw List.not_mem_nil) hce hcv hcl9 ?_
    refine lv_astore_n (lv' := [(2, .ref q9), (0, .ref (h 16)), (1, .ref o)]) hx hb dL_takeBack_11 rfl hl (by decide) rfl (fun ls hl => ?_)
    refine lv_iconst (v := 1) hx hb dL_takeBack_12 (by decide) ?_
    exact W.iret (v := 1) hx hb hr (fun t ht hW => ⟨⟨1, (u, f), rfl, hX, by rw [ht]; exact hP, hD⟩, hS.F ht⟩) hS.2.2 dL_takeBack_13
  · have hP : va_P (dC, dI) classes (wO h cy o u f) H1 := hP
    refine lv_i2l hx hb dL_takeBack_6 rfl ?_
    refine va_last hx hb hK.1 hP hD hS 21 1 rfl rfl (show vp_in 0 1 from vp_in_nI (n := 0) (by omega) (by omega)) dL_takeBack_7 (fun H2 locs hP hD hS => ?_)
    have hP : va_P (dC, dI) classes (wO h cy o u (vp_updL f 0 (Int32.toInt64 r))) H2 := hP
    have hD : va_D A (wO h cy o u (vp_updL f 0 (Int32.toInt64 r))) := hD
    refine lv_goto (tgt := 14) hx hb dL_takeBack_8 (by decide) ?_
    refine lv_iconst (v := 0) hx hb dL_takeBack_14 (by decide) ?_
    exact W.iret (v := 0) hx hb hr (fun t ht hW => ⟨⟨0, (u, vp_updL f 0 (Int32.toInt64 r)), rfl, hF, by rw [ht]; exact hP, hD⟩, hS.F ht⟩) hS.2.2 dL_takeBack_15
theorem dL_leastForm_0 : decode cL_leastForm 0 = .ok (.aload_n 2, 1) := by decide +kernel
theorem dL_leastForm_1 : decode cL_leastForm 1 = .ok (.iconst 0, 1) := by decide +kernel
theorem dL_leastForm_2 : decode cL_leastForm 2 = .ok (.aload_n 0, 1) := by decide +kernel
theorem dL_leastForm_3 : decode cL_leastForm 3 = .ok (.iload_n 1, 1) := by decide +kernel
theorem dL_leastForm_4 : decode cL_leastForm 4 = .ok (.invokevirtual 54, 3) := by decide +kernel
theorem dL_leastForm_7 : decode cL_leastForm 7 = .ok (.i2l, 1) := by decide +kernel
theorem dL_leastForm_8 : decode cL_leastForm 8 = .ok (.lastore, 1) := by decide +kernel
theorem dL_leastForm_9 : decode cL_leastForm 9 = .ok (.goto 6, 3) := by decide +kernel
theorem dL_leastForm_12 : decode cL_leastForm 12 = .ok (.astore_n 3, 1) := by decide +kernel
theorem dL_leastForm_13 : decode cL_leastForm 13 = .ok (.iconst 1, 1) := by decide +kernel
theorem dL_leastForm_14 : decode cL_leastForm 14 = .ok (.ireturn, 1) := by decide +kernel
theorem dL_leastForm_15 : decode cL_leastForm 15 = .ok (.iconst 0, 1) := by decide +kernel
theorem dL_leastForm_16 : decode cL_leastForm 16 = .ok (.ireturn, 1) := by decide +kernel
def wp_L_leastForm (fu : Nat) (σ : SX) (f : Nat → Int64) (x1 : Int32) (P : Int32 → SX → (Nat → Int64) → Prop) : Prop := wp_X3_leastForm fu σ x1 (fun r s => P 0 s (vp_updL f 0 (Int32.toInt64 r))) (fun E s => (E = "java/lang/IndexOutOfBoundsException" ∧ P 1 s f))
set_option maxHeartbeats 4000000 in
set_option maxRecDepth 100000 in
theorem m_L_leastForm (l : Launch) (hl9 : l.stackTraces = false) (dC : Nat → ClassId) (dI : Nat → Nat → Nat) (h : Nat → Nat) (cy : Nat → ClassId) (sa : Nat → Nat) (o sz : Nat) (fu : Nat) (σ : SX) (f : Nat → Int64) (x1 : Int32) (P : Int32 → SX → (Nat → Int64) → Prop) (hF : wp_L_leastForm fu σ f x1 P) : Met l yL_leastForm (wsH yL_leastForm cL_leastForm 4 (some .int) [(0, 9, 12, 34)]) ({ frames := 8, cells := 1, slots := 6, locals := 134 } : Room) (va_Pc [.ref (h 16), .int x1, .ref o] (PcW dC dI cy sa (wO h cy o σ f) sz)) (va_Qi (fun r (u : SX × (Nat → Int64)) => P r u.1 u.2) (fun (u : SX × (Nat → Int64)) t => va_P (dC, dI) classes (wO h cy o u.1 u.2) t.heap ∧ va_D (va_A (wO h cy o σ f) sz) (wO h cy o u.1 u.2)) (va_A (wO h cy o σ f) sz)) 1 6 (va_A (wO h cy o σ f) sz) := by
  refine Met.ofCxH (own := RL) (by decide) rfl (Nat.le_of_ble_eq_true rfl) ?_
  intro p e s m below meth c hC htab hv ls hl
  obtain ⟨hx, hb, hr, hml, hown, hts, hlocks⟩ := hC
  have hl : lv_has ls 4 [(0, .ref (h 16)), (1, .int x1), (2, .ref o)] := hl
  obtain ⟨⟨hsz, hP, hK, hD0, hXS, hXZ⟩, hN⟩ := hv
  subst hsz
  have hD := hD0.self (sz := s.heap.size)
  generalize hAe : va_A (wO h cy o σ f) s.heap.size = A at hD hXZ ⊢
  have hA : ∀ q : Nat, s.heap.size ≤ q → A q := fun q h => by rw [← hAe]; exact Or.inr h
  have hS : va_S A s.heap s.heap [] := va_S.rf
  clear hAe
  unfold wp_L_leastForm at hF
  refine lv_aload_n hx hb dL_leastForm_0 rfl (lv_at hl 2 rfl) ?_
  refine lv_iconst (v := 0) hx hb dL_leastForm_1 (by decide) ?_
  refine lv_aload_n hx hb dL_leastForm_2 rfl (lv_at hl 0 rfl) ?_
  refine lv_iload_n hx hb dL_leastForm_3 rfl (lv_at hl 1 rfl) ?_
  refine lwCall (q0 := 16) (x := wH h cy σ) (wn := fun u => wH h cy u) (fp0 _ _) ⟨hx, hb, hr, hml, hown, hts, hlocks⟩ hK hXS hXZ hP hD rfl rfl hS hA (m_X3_leastForm l hl9 dC dI h cy sa _ fu σ x1 _ _ hF) (As := [.int x1]) (rest := [.int 0, .ref o]) k_X3_leastForm q706 ⟨rfl, rfl⟩ ⟨Nat.le_of_ble_eq_true rfl, Nat.le_of_ble_eq_true rfl⟩ hl.1 rfl rfl (Nat.le_of_ble_eq_true rfl) dL_leastForm_4 ⟨Nat.le_of_ble_eq_true rfl, Nat.le_of_ble_eq_true rfl⟩ (fun E ce q9 u H1 locs hX hP hD hS hce hcv hcl9 => ?_) (fun r u H1 locs hF hP hD hS => ?_)
  · obtain ⟨rfl, hX⟩ := hX
    refine lwCatch hown htab 0 (e0 := 0) (e1 := 9) (hp := 12) (ct := 34) rfl (by decide) (by decide) (hts _ q592) (va_Nw.use rfl (hK.2.2.2.2.2.2.2.2.2.2.1 _ (List.mem_of_getElem? (i := 5) rfl))) (fun w hw => absurd hw List.not_mem_nil) hce hcv hcl9 ?_
    refine lv_astore_n (lv' := [(3, .ref q9), (0, .ref (h 16)), (1, .int x1), (2, .ref o)]) hx hb dL_leastForm_12 rfl hl (by decide) rfl (fun ls hl => ?_)
    refine lv_iconst (v := 1) hx hb dL_leastForm_13 (by decide) ?_
    exact W.iret (v := 1) hx hb hr (fun t ht hW => ⟨⟨1, (u, f), rfl, hX, by rw [ht]; exact hP, hD⟩, hS.F ht⟩) hS.2.2 dL_leastForm_14
  · have hP : va_P (dC, dI) classes (wO h cy o u f) H1 := hP
    refine lv_i2l hx hb dL_leastForm_7 rfl ?_
    refine va_last hx hb hK.1 hP hD hS 21 1 rfl rfl (show vp_in 0 1 from vp_in_nI (n := 0) (by omega) (by omega)) dL_leastForm_8 (fun H2 locs hP hD hS => ?_)
    have hP : va_P (dC, dI) classes (wO h cy o u (vp_updL f 0 (Int32.toInt64 r))) H2 := hP
    have hD : va_D A (wO h cy o u (vp_updL f 0 (Int32.toInt64 r))) := hD
    refine lv_goto (tgt := 15) hx hb dL_leastForm_9 (by decide) ?_
    refine lv_iconst (v := 0) hx hb dL_leastForm_15 (by decide) ?_
    exact W.iret (v := 0) hx hb hr (fun t ht hW => ⟨⟨0, (u, vp_updL f 0 (Int32.toInt64 r)), rfl, hF, by rw [ht]; exact hP, hD⟩, hS.F ht⟩) hS.2.2 dL_leastForm_16
theorem dL_setEnd_0 : decode cL_setEnd 0 = .ok (.aload_n 2, 1) := by decide +kernel
theorem dL_setEnd_1 : decode cL_setEnd 1 = .ok (.iconst 0, 1) := by decide +kernel
theorem dL_setEnd_2 : decode cL_setEnd 2 = .ok (.aload_n 0, 1) := by decide +kernel
theorem dL_setEnd_3 : decode cL_setEnd 3 = .ok (.iload_n 1, 1) := by decide +kernel
theorem dL_setEnd_4 : decode cL_setEnd 4 = .ok (.invokevirtual 57, 3) := by decide +kernel
theorem dL_setEnd_7 : decode cL_setEnd 7 = .ok (.i2l, 1) := by decide +kernel
theorem dL_setEnd_8 : decode cL_setEnd 8 = .ok (.lastore, 1) := by decide +kernel
theorem dL_setEnd_9 : decode cL_setEnd 9 = .ok (.goto 6, 3) := by decide +kernel
theorem dL_setEnd_12 : decode cL_setEnd 12 = .ok (.astore_n 3, 1) := by decide +kernel
theorem dL_setEnd_13 : decode cL_setEnd 13 = .ok (.iconst 1, 1) := by decide +kernel
theorem dL_setEnd_14 : decode cL_setEnd 14 = .ok (.ireturn, 1) := by decide +kernel
theorem dL_setEnd_15 : decode cL_setEnd 15 = .ok (.iconst 0, 1) := by decide +kernel
theorem dL_setEnd_16 : decode cL_setEnd 16 = .ok (.ireturn, 1) := by decide +kernel
def wp_L_setEnd (σ : SX) (f : Nat → Int64) (x1 : Int32) (P : Int32 → SX → (Nat → Int64) → Prop) : Prop := wp_X3_setEnd σ x1 (fun r s => P 0 s (vp_updL f 0 (Int32.toInt64 r))) (fun E s => (E = "java/lang/IndexOutOfBoundsException" ∧ P 1 s f))
set_option maxHeartbeats 4000000 in
set_option maxRecDepth 100000 in
theorem m_L_setEnd (l : Launch) (hl9 : l.stackTraces = false) (dC : Nat → ClassId) (dI : Nat → Nat → Nat) (h : Nat → Nat) (cy : Nat → ClassId) (sa : Nat → Nat) (o sz : Nat) (σ : SX) (f : Nat → Int64) (x1 : Int32) (P : Int32 → SX → (Nat → Int64) → Prop) (hF : wp_L_setEnd σ f x1 P) : Met l yL_setEnd (wsH yL_setEnd cL_setEnd 4 (some .int) [(0, 9, 12, 34)]) ({ frames := 8, cells := 1, slots := 6, locals := 133 } : Room) (va_Pc [.ref (h 16), .int x1, .ref o] (PcW dC dI cy sa (wO h cy o σ f) sz)) (va_Qi (fun r (u : SX × (Nat → Int64)) => P r u.1 u.2) (fun (u : SX × (Nat → Int64)) t => va_P (dC, dI) classes (wO h cy o u.1 u.2) t.heap ∧ va_D (va_A (wO h cy o σ f) sz) (wO h cy o u.1 u.2)) (va_A (wO h cy o σ f) sz)) 1 6 (va_A (wO h cy o σ f) sz) := by
  refine Met.ofCxH (own := RL) (by decide) rfl (Nat.le_of_ble_eq_true rfl) ?_
  intro p e s m below meth c hC htab hv ls hl
  obtain ⟨hx, hb, hr, hml, hown, hts, hlocks⟩ := hC
  have hl : lv_has ls 4 [(0, .ref (h 16)), (1, .int x1), (2, .ref o)] := hl
  obtain ⟨⟨hsz, hP, hK, hD0, hXS, hXZ⟩, hN⟩ := hv
  subst hsz
  have hD := hD0.self (sz := s.heap.size)
  generalize hAe : va_A (wO h cy o σ f) s.heap.size = A at hD hXZ ⊢
  have hA : ∀ q : Nat, s.heap.size ≤ q → A q := fun q h => by rw [← hAe]; exact Or.inr h
  have hS : va_S A s.heap s.heap [] := va_S.rf
  clear hAe
  unfold wp_L_setEnd at hF
  refine lv_aload_n hx hb dL_setEnd_0 rfl (lv_at hl 2 rfl) ?_
  refine lv_iconst (v := 0) hx hb dL_setEnd_1 (by decide) ?_
  refine lv_aload_n hx hb dL_setEnd_2 rfl (lv_at hl 0 rfl) ?_
  refine lv_iload_n hx hb dL_setEnd_3 rfl (lv_at hl 1 rfl) ?_
  refine lwCall (q0 := 16) (x := wH h cy σ) (wn := fun u => wH h cy u) (fp0 _ _) ⟨hx, hb, hr, hml, hown, hts, hlocks⟩ hK hXS hXZ hP hD rfl rfl hS hA (m_X3_setEnd l hl9 dC dI h cy sa _ σ x1 _ _ hF) (As := [.int x1]) (rest := [.int 0, .ref o]) k_X3_setEnd q718 ⟨rfl, rfl⟩ ⟨Nat.le_of_ble_eq_true rfl, Nat.le_of_ble_eq_true rfl⟩ hl.1 rfl rfl (Nat.le_of_ble_eq_true rfl) dL_setEnd_4 ⟨Nat.le_of_ble_eq_true rfl, Nat.le_of_ble_eq_true rfl⟩ (fun E ce q9 u H1 locs hX hP hD hS hce hcv hcl9 => ?_) (fun r u H1 locs hF hP hD hS => ?_)
  · obtain ⟨rfl, hX⟩ := hX
    refine lwCatch hown htab 0 (e0 := 0) (e1 := 9) (hp := 12) (ct := 34) rfl (by decide) (by decide) (hts _ q592) (va_Nw.use rfl (hK.2.2.2.2.2.2.2.2.2.2.1 _ (List.mem_of_getElem? (i := 5) rfl))) (fun w hw => absurd hw List.not_mem_nil) hce hcv hcl9 ?_
    refine lv_astore_n (lv' := [(3, .ref q9), (0, .ref (h 16)), (1, .int x1), (2, .ref o)]) hx hb dL_setEnd_12 rfl hl (by decide) rfl (fun ls hl => ?_)
    refine lv_iconst (v := 1) hx hb dL_setEnd_13 (by decide) ?_
    exact W.iret (v := 1) hx hb hr (fun t ht hW => ⟨⟨1, (u, f), rfl, hX, by rw [ht]; exact hP, hD⟩, hS.F ht⟩) hS.2.2 dL_setEnd_14
  · have hP : va_P (dC, dI) classes (wO h cy o u f) H1 := hP
    refine lv_i2l hx hb dL_setEnd_7 rfl ?_
    refine va_last hx hb hK.1 hP hD hS 21 1 rfl rfl (show vp_in 0 1 from vp_in_nI (n := 0) (by omega) (by omega)) dL_setEnd_8 (fun H2 locs hP hD hS => ?_)
    have hP : va_P (dC, dI) classes (wO h cy o u (vp_updL f 0 (Int32.toInt64 r))) H2 := hP
    have hD : va_D A (wO h cy o u (vp_updL f 0 (Int32.toInt64 r))) := hD
    refine lv_goto (tgt := 15) hx hb dL_setEnd_9 (by decide) ?_
    refine lv_iconst (v := 0) hx hb dL_setEnd_15 (by decide) ?_
    exact W.iret (v := 0) hx hb hr (fun t ht hW => ⟨⟨0, (u, vp_updL f 0 (Int32.toInt64 r)), rfl, hF, by rw [ht]; exact hP, hD⟩, hS.F ht⟩) hS.2.2 dL_setEnd_16
theorem dL_hint_0 : decode cL_hint 0 = .ok (.aload_n 1, 1) := by decide +kernel
theorem dL_hint_1 : decode cL_hint 1 = .ok (.iconst 0, 1) := by decide +kernel
theorem dL_hint_2 : decode cL_hint 2 = .ok (.aload_n 0, 1) := by decide +kernel
theorem dL_hint_3 : decode cL_hint 3 = .ok (.invokevirtual 60, 3) := by decide +kernel
theorem dL_hint_6 : decode cL_hint 6 = .ok (.i2l, 1) := by decide +kernel
theorem dL_hint_7 : decode cL_hint 7 = .ok (.lastore, 1) := by decide +kernel
theorem dL_hint_8 : decode cL_hint 8 = .ok (.goto 6, 3) := by decide +kernel
theorem dL_hint_11 : decode cL_hint 11 = .ok (.astore_n 2, 1) := by decide +kernel
theorem dL_hint_12 : decode cL_hint 12 = .ok (.iconst 1, 1) := by decide +kernel
theorem dL_hint_13 : decode cL_hint 13 = .ok (.ireturn, 1) := by decide +kernel
theorem dL_hint_14 : decode cL_hint 14 = .ok (.iconst 0, 1) := by decide +kernel
theorem dL_hint_15 : decode cL_hint 15 = .ok (.ireturn, 1) := by decide +kernel
def wp_L_hint (fu : Nat) (σ : SX) (f : Nat → Int64) (P : Int32 → SX → (Nat → Int64) → Prop) : Prop := wp_X3_hint fu σ (fun r s => P 0 s (vp_updL f 0 (Int32.toInt64 r))) (fun E s => (E = "java/util/NoSuchElementException" ∧ P 1 s f))
set_option maxHeartbeats 4000000 in
set_option maxRecDepth 100000 in
theorem m_L_hint (l : Launch) (hl9 : l.stackTraces = false) (dC : Nat → ClassId) (dI : Nat → Nat → Nat) (h : Nat → Nat) (cy : Nat → ClassId) (sa : Nat → Nat) (o sz : Nat) (fu : Nat) (σ : SX) (f : Nat → Int64) (P : Int32 → SX → (Nat → Int64) → Prop) (hF : wp_L_hint fu σ f P) : Met l yL_hint (wsH yL_hint cL_hint 3 (some .int) [(0, 8, 11, 29)]) ({ frames := 7, cells := 1, slots := 6, locals := 111 } : Room) (va_Pc [.ref (h 16), .ref o] (PcW dC dI cy sa (wO h cy o σ f) sz)) (va_Qi (fun r (u : SX × (Nat → Int64)) => P r u.1 u.2) (fun (u : SX × (Nat → Int64)) t => va_P (dC, dI) classes (wO h cy o u.1 u.2) t.heap ∧ va_D (va_A (wO h cy o σ f) sz) (wO h cy o u.1 u.2)) (va_A (wO h cy o σ f) sz)) 1 6 (va_A (wO h cy o σ f) sz) := by
  refine Met.ofCxH (own := RL) (by decide) rfl (Nat.le_of_ble_eq_true rfl) ?_
  intro p e s m below meth c hC htab hv ls hl
  obtain ⟨hx, hb, hr, hml, hown, hts, hlocks⟩ := hC
  have hl : lv_has ls 3 [(0, .ref (h 16)), (1, .ref o)] := hl
  obtain ⟨⟨hsz, hP, hK, hD0, hXS, hXZ⟩, hN⟩ := hv
  subst hsz
  have hD := hD0.self (sz := s.heap.size)
  generalize hAe : va_A (wO h cy o σ f) s.heap.size = A at hD hXZ ⊢
  have hA : ∀ q : Nat, s.heap.size ≤ q → A q := fun q h => by rw [← hAe]; exact Or.inr h
  have hS : va_S A s.heap s.heap [] := va_S.rf
  clear hAe
  unfold wp_L_hint at hF
  refine lv_aload_n hx hb dL_hint_0 rfl (lv_at hl 1 rfl) ?_
  refine lv_iconst (v := 0) hx hb dL_hint_1 (by decide) ?_
  refine lv_aload_n hx hb dL_hint_2 rfl (lv_at hl 0 rfl) ?_
  refine lwCall (q0 := 16) (x := wH h cy σ) (wn := fun u => wH h cy u) (fp0 _ _) ⟨hx, hb, hr, hml, hown, hts, hlocks⟩ hK hXS hXZ hP hD rfl rfl hS hA (m_X3_hint l hl9 dC dI h cy sa _ fu σ _ _ hF) (As := []) (rest := [.int 0, .ref o]) k_X3_hint q725 ⟨rfl, rfl⟩ ⟨Nat.le_of_ble_eq_true rfl, Nat.le_of_ble_eq_true rfl⟩ hl.1 rfl rfl (Nat.le_of_ble_eq_true rfl) dL_hint_3 ⟨Nat.le_of_ble_eq_true rfl, Nat.le_of_ble_eq_true rfl⟩ (fun E ce q9 u H1 locs hX hP hD hS hce hcv hcl9 => ?_) (fun r u H1 locs hF hP hD hS => ?_)
  · obtain ⟨rfl, hX⟩ := hX
    refine lwCatch hown htab 0 (e0 := 0) (e1 := 8) (hp := 11) (ct := 29) rfl (by decide) (by decide) (hts _ q569) (va_Nw.use rfl (hK.2.2.2.2.2.2.2.2.2.2.1 _ (List.mem_of_getElem? (i := 3) rfl))) (fun w hw => absurd hw List.not_mem_nil) hce hcv hcl9 ?_
    refine lv_astore_n (lv' := [(2, .ref q9), (0, .ref (h 16)), (1, .ref o)]) hx hb dL_hint_11 rfl hl (by decide) rfl (fun ls hl => ?_)
    refine lv_iconst (v := 1) hx hb dL_hint_12 (by decide) ?_
    exact W.iret (v := 1) hx hb hr (fun t ht hW => ⟨⟨1, (u, f), rfl, hX, by rw [ht]; exact hP, hD⟩, hS.F ht⟩) hS.2.2 dL_hint_13
  · have hP : va_P (dC, dI) classes (wO h cy o u f) H1 := hP
    refine lv_i2l hx hb dL_hint_6 rfl ?_
    refine va_last hx hb hK.1 hP hD hS 21 1 rfl rfl (show vp_in 0 1 from vp_in_nI (n := 0) (by omega) (by omega)) dL_hint_7 (fun H2 locs hP hD hS => ?_)
    have hP : va_P (dC, dI) classes (wO h cy o u (vp_updL f 0 (Int32.toInt64 r))) H2 := hP
    have hD : va_D A (wO h cy o u (vp_updL f 0 (Int32.toInt64 r))) := hD
    refine lv_goto (tgt := 14) hx hb dL_hint_8 (by decide) ?_
    refine lv_iconst (v := 0) hx hb dL_hint_14 (by decide) ?_
    exact W.iret (v := 0) hx hb hr (fun t ht hW => ⟨⟨0, (u, vp_updL f 0 (Int32.toInt64 r)), rfl, hF, by rw [ht]; exact hP, hD⟩, hS.F ht⟩) hS.2.2 dL_hint_15
theorem dL_loses_0 : decode cL_loses 0 = .ok (.aload_n 3, 1) := by decide +kernel
theorem dL_loses_1 : decode cL_loses 1 = .ok (.iconst 0, 1) := by decide +kernel
theorem dL_loses_2 : decode cL_loses 2 = .ok (.aload_n 0, 1) := by decide +kernel
theorem dL_loses_3 : decode cL_loses 3 = .ok (.iload_n 1, 1) := by decide +kernel
theorem dL_loses_4 : decode cL_loses 4 = .ok (.iload_n 2, 1) := by decide +kernel
theorem dL_loses_5 : decode cL_loses 5 = .ok (.invokevirtual 63, 3) := by decide +kernel
theorem dL_loses_8 : decode cL_loses 8 = .ok (.ifCond .eq 7, 3) := by decide +kernel
theorem dL_loses_11 : decode cL_loses 11 = .ok (.lconst 1, 1) := by decide +kernel
theorem dL_loses_12 : decode cL_loses 12 = .ok (.goto 4, 3) := by decide +kernel
theorem dL_loses_15 : decode cL_loses 15 = .ok (.lconst 0, 1) := by decide +kernel
theorem dL_loses_16 : decode cL_loses 16 = .ok (.lastore, 1) := by decide +kernel
theorem dL_loses_17 : decode cL_loses 17 = .ok (.goto 11, 3) := by decide +kernel
theorem dL_loses_20 : decode cL_loses 20 = .ok (.astore 4, 2) := by decide +kernel
theorem dL_loses_22 : decode cL_loses 22 = .ok (.iconst 1, 1) := by decide +kernel
theorem dL_loses_23 : decode cL_loses 23 = .ok (.ireturn, 1) := by decide +kernel
theorem dL_loses_24 : decode cL_loses 24 = .ok (.astore 4, 2) := by decide +kernel
theorem dL_loses_26 : decode cL_loses 26 = .ok (.iconst 2, 1) := by decide +kernel
theorem dL_loses_27 : decode cL_loses 27 = .ok (.ireturn, 1) := by decide +kernel
theorem dL_loses_28 : decode cL_loses 28 = .ok (.iconst 0, 1) := by decide +kernel
theorem dL_loses_29 : decode cL_loses 29 = .ok (.ireturn, 1) := by decide +kernel
def wp_L_loses (fu : Nat) (σ : SX) (f : Nat → Int64) (x1 : Int32) (x2 : Int32) (P : Int32 → SX → (Nat → Int64) → Prop) : Prop := wp_X3_loses fu σ x1 x2 (fun r s => P 0 s (vp_updL f 0 (zB r))) (fun E s => (E = "java/lang/IndexOutOfBoundsException" ∧ P 1 s f) ∨ (E = "java/lang/UnsupportedOperationException" ∧ P 2 s f))
set_option maxHeartbeats 4000000 in
set_option maxRecDepth 100000 in
theorem m_L_loses (l : Launch) (hl9 : l.stackTraces = false) (dC : Nat → ClassId) (dI : Nat → Nat → Nat) (h : Nat → Nat) (cy : Nat → ClassId) (sa : Nat → Nat) (o sz : Nat) (fu : Nat) (σ : SX) (f : Nat → Int64) (x1 : Int32) (x2 : Int32) (P : Int32 → SX → (Nat → Int64) → Prop) (hF : wp_L_loses fu σ f x1 x2 P) : Met l yL_loses (wsH yL_loses cL_loses 5 (some .int) [(0, 17, 20, 34), (0, 17, 24, 19)]) ({ frames := 9, cells := 3, slots := 18, locals := 157 } : Room) (va_Pc [.ref (h 16), .int x1, .int x2, .ref o] (PcW dC dI cy sa (wO h cy o σ f) sz)) (va_Qi (fun r (u : SX × (Nat → Int64)) => P r u.1 u.2) (fun (u : SX × (Nat → Int64)) t => va_P (dC, dI) classes (wO h cy o u.1 u.2) t.heap ∧ va_D (va_A (wO h cy o σ f) sz) (wO h cy o u.1 u.2)) (va_A (wO h cy o σ f) sz)) 3 18 (va_A (wO h cy o σ f) sz) := by
  refine Met.ofCxH (own := RL) (by decide) rfl (Nat.le_of_ble_eq_true rfl) ?_
  intro p e s m below meth c hC htab hv ls hl
  obtain ⟨hx, hb, hr, hml, hown, hts, hlocks⟩ := hC
  have hl : lv_has ls 5 [(0, .ref (h 16)), (1, .int x1), (2, .int x2), (3, .ref o)] := hl
  obtain ⟨⟨hsz, hP, hK, hD0, hXS, hXZ⟩, hN⟩ := hv
  subst hsz
  have hD := hD0.self (sz := s.heap.size)
  generalize hAe : va_A (wO h cy o σ f) s.heap.size = A at hD hXZ ⊢
  have hA : ∀ q : Nat, s.heap.size ≤ q → A q := fun q h => by rw [← hAe]; exact Or.inr h
  have hS : va_S A s.heap s.heap [] := va_S.rf
  clear hAe
  unfold wp_L_loses at hF
  refine lv_aload_n hx hb dL_loses_0 rfl (lv_at hl 3 rfl) ?_
  refine lv_iconst (v := 0) hx hb dL_loses_1 (by decide) ?_
  refine lv_aload_n hx hb dL_loses_2 rfl (lv_at hl 0 rfl) ?_
  refine lv_iload_n hx hb dL_loses_3 rfl (lv_at hl 1 rfl) ?_
  refine lv_iload_n hx hb dL_loses_4 rfl (lv_at hl 2 rfl) ?_
  refine lwCall (q0 := 16) (x := wH h cy σ) (wn := fun u => wH h cy u) (fp0 _ _) ⟨hx, hb, hr, hml, hown, hts, hlocks⟩ hK hXS hXZ hP hD rfl rfl hS hA (m_X3_loses l hl9 dC dI h cy sa _ fu σ x1 x2 _ _ hF) (As := [.int x1, .int x2]) (rest := [.int 0, .ref o]) k_X3_loses q745 ⟨rfl, rfl⟩ ⟨Nat.le_of_ble_eq_true rfl, Nat.le_of_ble_eq_true rfl⟩ hl.1 rfl rfl (Nat.le_of_ble_eq_true rfl) dL_loses_5 ⟨Nat.le_of_ble_eq_true rfl, Nat.le_of_ble_eq_true rfl⟩ (fun E ce q9 u H1 locs hX hP hD hS hce hcv hcl9 => ?_) (fun r u H1 locs hF hP hD hS => ?_)
  · rcases hX with ⟨rfl, hX⟩ | ⟨rfl, hX⟩
    · refine lwCatch hown htab 0 (e0 := 0) (e1 := 17) (hp := 20) (ct := 34) rfl (by decide) (by decide) (hts _ q592) (va_Nw.use rfl (hK.2.2.2.2.2.2.2.2.2.2.1 _ (List.mem_of_getElem? (i := 5) rfl))) (fun w hw => absurd hw List.not_mem_nil) hce hcv hcl9 ?_
      refine lv_astore (lv' := [(4, .ref q9), (0, .ref (h 16)), (1, .int x1), (2, .int x2), (3, .ref o)]) hx hb dL_loses_20 hl (by decide) rfl (fun ls hl => ?_)
      refine lv_iconst (v := 1) hx hb dL_loses_22 (by decide) ?_
      exact W.iret (v := 1) hx hb hr (fun t ht hW => ⟨⟨1, (u, f), rfl, hX, by rw [ht]; exact hP, hD⟩, hS.F ht⟩) hS.2.2 dL_loses_23
    · refine lwCatch hown htab 1 (e0 := 0) (e1 := 17) (hp := 24) (ct := 19) rfl (by decide) (by decide) (hts _ q502) (va_Nw.use rfl (hK.2.2.2.2.2.2.2.2.2.2.1 _ (List.mem_of_getElem? (i := 1) rfl))) (fun w hw => ?_) hce hcv hcl9 ?_
      · obtain rfl : w = (0, 17, 20, 34) := by simpa using hw
        exact ⟨by decide, "java/lang/IndexOutOfBoundsException", hts _ q592, hN _ (List.mem_of_getElem? (i := 21) rfl)⟩
      · refine lv_astore (lv' := [(4, .ref q9), (0, .ref (h 16)), (1, .int x1), (2, .int x2), (3, .ref o)]) hx hb dL_loses_24 hl (by decide) rfl (fun ls hl => ?_)
        refine lv_iconst (v := 2) hx hb dL_loses_26 (by decide) ?_
        exact W.iret (v := 2) hx hb hr (fun t ht hW => ⟨⟨2, (u, f), rfl, hX, by rw [ht]; exact hP, hD⟩, hS.F ht⟩) hS.2.2 dL_loses_27
  · have hP : va_P (dC, dI) classes (wO h cy o u f) H1 := hP
    refine lv_if_eq (tgt := 15) hx hb dL_loses_8 (by decide) (fun cz => ?_) (fun cz => ?_)
    · rw [show zB r = 0 from if_pos cz] at hF
      refine lv_lconst (v := 0) hx hb dL_loses_15 (by decide) ?_
      refine va_last hx hb hK.1 hP hD hS 21 1 rfl rfl (show vp_in 0 1 from vp_in_nI (n := 0) (by omega) (by omega)) dL_loses_16 (fun H2 locs hP hD hS => ?_)
      have hP : va_P (dC, dI) classes (wO h cy o u (vp_updL f 0 0)) H2 := hP
      have hD : va_D A (wO h cy o u (vp_updL f 0 0)) := hD
      refine lv_goto (tgt := 28) hx hb dL_loses_17 (by decide) ?_
      refine lv_iconst (v := 0) hx hb dL_loses_28 (by decide) ?_
      exact W.iret (v := 0) hx hb hr (fun t ht hW => ⟨⟨0, (u, vp_updL f 0 0), rfl, hF, by rw [ht]; exact hP, hD⟩, hS.F ht⟩) hS.2.2 dL_loses_29
    · rw [show zB r = 1 from if_neg cz] at hF
      refine lv_lconst (v := 1) hx hb dL_loses_11 (by decide) ?_
      refine lv_goto (tgt := 16) hx hb dL_loses_12 (by decide) ?_
      refine va_last hx hb hK.1 hP hD hS 21 1 rfl rfl (show vp_in 0 1 from vp_in_nI (n := 0) (by omega) (by omega)) dL_loses_16 (fun H2 locs hP hD hS => ?_)
      have hP : va_P (dC, dI) classes (wO h cy o u (vp_updL f 0 1)) H2 := hP
      have hD : va_D A (wO h cy o u (vp_updL f 0 1)) := hD
      refine lv_goto (tgt := 28) hx hb dL_loses_17 (by decide) ?_
      refine lv_iconst (v := 0) hx hb dL_loses_28 (by decide) ?_
      exact W.iret (v := 0) hx hb hr (fun t ht hW => ⟨⟨0, (u, vp_updL f 0 1), rfl, hF, by rw [ht]; exact hP, hD⟩, hS.F ht⟩) hS.2.2 dL_loses_29
theorem dL_leastSweeps_0 : decode cL_leastSweeps 0 = .ok (.aload_n 1, 1) := by decide +kernel
theorem dL_leastSweeps_1 : decode cL_leastSweeps 1 = .ok (.iconst 0, 1) := by decide +kernel
theorem dL_leastSweeps_2 : decode cL_leastSweeps 2 = .ok (.aload_n 0, 1) := by decide +kernel
theorem dL_leastSweeps_3 : decode cL_leastSweeps 3 = .ok (.invokevirtual 66, 3) := by decide +kernel
theorem dL_leastSweeps_6 : decode cL_leastSweeps 6 = .ok (.i2l, 1) := by decide +kernel
theorem dL_leastSweeps_7 : decode cL_leastSweeps 7 = .ok (.lastore, 1) := by decide +kernel
theorem dL_leastSweeps_8 : decode cL_leastSweeps 8 = .ok (.goto 9, 3) := by decide +kernel
theorem dL_leastSweeps_11 : decode cL_leastSweeps 11 = .ok (.astore_n 2, 1) := by decide +kernel
theorem dL_leastSweeps_12 : decode cL_leastSweeps 12 = .ok (.iconst 1, 1) := by decide +kernel
theorem dL_leastSweeps_13 : decode cL_leastSweeps 13 = .ok (.ireturn, 1) := by decide +kernel
theorem dL_leastSweeps_14 : decode cL_leastSweeps 14 = .ok (.astore_n 2, 1) := by decide +kernel
theorem dL_leastSweeps_15 : decode cL_leastSweeps 15 = .ok (.iconst 2, 1) := by decide +kernel
theorem dL_leastSweeps_16 : decode cL_leastSweeps 16 = .ok (.ireturn, 1) := by decide +kernel
theorem dL_leastSweeps_17 : decode cL_leastSweeps 17 = .ok (.iconst 0, 1) := by decide +kernel
theorem dL_leastSweeps_18 : decode cL_leastSweeps 18 = .ok (.ireturn, 1) := by decide +kernel
def wp_L_leastSweeps (fu : Nat) (σ : SX) (f : Nat → Int64) (P : Int32 → SX → (Nat → Int64) → Prop) : Prop := wp_X3_leastSweeps fu σ (fun r s => P 0 s (vp_updL f 0 (Int32.toInt64 r))) (fun E s => (E = "java/lang/UnsupportedOperationException" ∧ P 1 s f) ∨ (E = "java/util/NoSuchElementException" ∧ P 2 s f))
set_option maxHeartbeats 4000000 in
set_option maxRecDepth 100000 in
theorem m_L_leastSweeps (l : Launch) (hl9 : l.stackTraces = false) (dC : Nat → ClassId) (dI : Nat → Nat → Nat) (h : Nat → Nat) (cy : Nat → ClassId) (sa : Nat → Nat) (o sz : Nat) (fu : Nat) (σ : SX) (f : Nat → Int64) (P : Int32 → SX → (Nat → Int64) → Prop) (hF : wp_L_leastSweeps fu σ f P) : Met l yL_leastSweeps (wsH yL_leastSweeps cL_leastSweeps 3 (some .int) [(0, 8, 11, 19), (0, 8, 14, 29)]) ({ frames := 7, cells := 1, slots := 6, locals := 116 } : Room) (va_Pc [.ref (h 16), .ref o] (PcW dC dI cy sa (wO h cy o σ f) sz)) (va_Qi (fun r (u : SX × (Nat → Int64)) => P r u.1 u.2) (fun (u : SX × (Nat → Int64)) t => va_P (dC, dI) classes (wO h cy o u.1 u.2) t.heap ∧ va_D (va_A (wO h cy o σ f) sz) (wO h cy o u.1 u.2)) (va_A (wO h cy o σ f) sz)) 1 6 (va_A (wO h cy o σ f) sz) := by
  refine Met.ofCxH (own := RL) (by decide) rfl (Nat.le_of_ble_eq_true rfl) ?_
  intro p e s m below meth c hC htab hv ls hl
  obtain ⟨hx, hb, hr, hml, hown, hts, hlocks⟩ := hC
  have hl : lv_has ls 3 [(0, .ref (h 16)), (1, .ref o)] := hl
  obtain ⟨⟨hsz, hP, hK, hD0, hXS, hXZ⟩, hN⟩ := hv
  subst hsz
  have hD := hD0.self (sz := s.heap.size)
  generalize hAe : va_A (wO h cy o σ f) s.heap.size = A at hD hXZ ⊢
  have hA : ∀ q : Nat, s.heap.size ≤ q → A q := fun q h => by rw [← hAe]; exact Or.inr h
  have hS : va_S A s.heap s.heap [] := va_S.rf
  clear hAe
  unfold wp_L_leastSweeps at hF
  refine lv_aload_n hx hb dL_leastSweeps_0 rfl (lv_at hl 1 rfl) ?_
  refine lv_iconst (v := 0) hx hb dL_leastSweeps_1 (by decide) ?_
  refine lv_aload_n hx hb dL_leastSweeps_2 rfl (lv_at hl 0 rfl) ?_
  refine lwCall (q0 := 16) (x := wH h cy σ) (wn := fun u => wH h cy u) (fp0 _ _) ⟨hx, hb, hr, hml, hown, hts, hlocks⟩ hK hXS hXZ hP hD rfl rfl hS hA (m_X3_leastSweeps l hl9 dC dI h cy sa _ fu σ _ _ hF) (As := []) (rest := [.int 0, .ref o]) k_X3_leastSweeps q752 ⟨rfl, rfl⟩ ⟨Nat.le_of_ble_eq_true rfl, Nat.le_of_ble_eq_true rfl⟩ hl.1 rfl rfl (Nat.le_of_ble_eq_true rfl) dL_leastSweeps_3 ⟨Nat.le_of_ble_eq_true rfl, Nat.le_of_ble_eq_true rfl⟩ (fun E ce q9 u H1 locs hX hP hD hS hce hcv hcl9 => ?_) (fun r u H1 locs hF hP hD hS => ?_)
  · rcases hX with ⟨rfl, hX⟩ | ⟨rfl, hX⟩
    · refine lwCatch hown htab 0 (e0 := 0) (e1 := 8) (hp := 11) (ct := 19) rfl (by decide) (by decide) (hts _ q502) (va_Nw.use rfl (hK.2.2.2.2.2.2.2.2.2.2.1 _ (List.mem_of_getElem? (i := 1) rfl))) (fun w hw => absurd hw List.not_mem_nil) hce hcv hcl9 ?_
      refine lv_astore_n (lv' := [(2, .ref q9), (0, .ref (h 16)), (1, .ref o)]) hx hb dL_leastSweeps_11 rfl hl (by decide) rfl (fun ls hl => ?_)
      refine lv_iconst (v := 1) hx hb dL_leastSweeps_12 (by decide) ?_
      exact W.iret (v := 1) hx hb hr (fun t ht hW => ⟨⟨1, (u, f), rfl, hX, by rw [ht]; exact hP, hD⟩, hS.F ht⟩) hS.2.2 dL_leastSweeps_13
    · refine lwCatch hown htab 1 (e0 := 0) (e1 := 8) (hp := 14) (ct := 29) rfl (by decide) (by decide) (hts _ q569) (va_Nw.use rfl (hK.2.2.2.2.2.2.2.2.2.2.1 _ (List.mem_of_getElem? (i := 3) rfl))) (fun w hw => ?_) hce hcv hcl9 ?_
      · obtain rfl : w = (0, 8, 11, 19) := by simpa using hw
        exact ⟨by decide, "java/lang/UnsupportedOperationException", hts _ q502, hN _ (List.mem_of_getElem? (i := 7) rfl)⟩
      · refine lv_astore_n (lv' := [(2, .ref q9), (0, .ref (h 16)), (1, .ref o)]) hx hb dL_leastSweeps_14 rfl hl (by decide) rfl (fun ls hl => ?_)
        refine lv_iconst (v := 2) hx hb dL_leastSweeps_15 (by decide) ?_
        exact W.iret (v := 2) hx hb hr (fun t ht hW => ⟨⟨2, (u, f), rfl, hX, by rw [ht]; exact hP, hD⟩, hS.F ht⟩) hS.2.2 dL_leastSweeps_16
  · have hP : va_P (dC, dI) classes (wO h cy o u f) H1 := hP
    refine lv_i2l hx hb dL_leastSweeps_6 rfl ?_
    refine va_last hx hb hK.1 hP hD hS 21 1 rfl rfl (show vp_in 0 1 from vp_in_nI (n := 0) (by omega) (by omega)) dL_leastSweeps_7 (fun H2 locs hP hD hS => ?_)
    have hP : va_P (dC, dI) classes (wO h cy o u (vp_updL f 0 (Int32.toInt64 r))) H2 := hP
    have hD : va_D A (wO h cy o u (vp_updL f 0 (Int32.toInt64 r))) := hD
    refine lv_goto (tgt := 17) hx hb dL_leastSweeps_8 (by decide) ?_
    refine lv_iconst (v := 0) hx hb dL_leastSweeps_17 (by decide) ?_
    exact W.iret (v := 0) hx hb hr (fun t ht hW => ⟨⟨0, (u, vp_updL f 0 (Int32.toInt64 r)), rfl, hF, by rw [ht]; exact hP, hD⟩, hS.F ht⟩) hS.2.2 dL_leastSweeps_18
theorem dL_highest_0 : decode cL_highest 0 = .ok (.aload_n 1, 1) := by decide +kernel
theorem dL_highest_1 : decode cL_highest 1 = .ok (.iconst 0, 1) := by decide +kernel
theorem dL_highest_2 : decode cL_highest 2 = .ok (.aload_n 0, 1) := by decide +kernel
theorem dL_highest_3 : decode cL_highest 3 = .ok (.invokevirtual 69, 3) := by decide +kernel
theorem dL_highest_6 : decode cL_highest 6 = .ok (.i2l, 1) := by decide +kernel
theorem dL_highest_7 : decode cL_highest 7 = .ok (.lastore, 1) := by decide +kernel
theorem dL_highest_8 : decode cL_highest 8 = .ok (.goto 6, 3) := by decide +kernel
theorem dL_highest_11 : decode cL_highest 11 = .ok (.astore_n 2, 1) := by decide +kernel
theorem dL_highest_12 : decode cL_highest 12 = .ok (.iconst 1, 1) := by decide +kernel
theorem dL_highest_13 : decode cL_highest 13 = .ok (.ireturn, 1) := by decide +kernel
theorem dL_highest_14 : decode cL_highest 14 = .ok (.iconst 0, 1) := by decide +kernel
theorem dL_highest_15 : decode cL_highest 15 = .ok (.ireturn, 1) := by decide +kernel
def wp_L_highest (fu : Nat) (σ : SX) (f : Nat → Int64) (P : Int32 → SX → (Nat → Int64) → Prop) : Prop := wp_X3_highest fu σ (fun r s => P 0 s (vp_updL f 0 (Int32.toInt64 r))) (fun E s => (E = "java/util/NoSuchElementException" ∧ P 1 s f))
set_option maxHeartbeats 4000000 in
set_option maxRecDepth 100000 in
theorem m_L_highest (l : Launch) (hl9 : l.stackTraces = false) (dC : Nat → ClassId) (dI : Nat → Nat → Nat) (h : Nat → Nat) (cy : Nat → ClassId) (sa : Nat → Nat) (o sz : Nat) (fu : Nat) (σ : SX) (f : Nat → Int64) (P : Int32 → SX → (Nat → Int64) → Prop) (hF : wp_L_highest fu σ f P) : Met l yL_highest (wsH yL_highest cL_highest 3 (some .int) [(0, 8, 11, 29)]) ({ frames := 7, cells := 1, slots := 6, locals := 111 } : Room) (va_Pc [.ref (h 16), .ref o] (PcW dC dI cy sa (wO h cy o σ f) sz)) (va_Qi (fun r (u : SX × (Nat → Int64)) => P r u.1 u.2) (fun (u : SX × (Nat → Int64)) t => va_P (dC, dI) classes (wO h cy o u.1 u.2) t.heap ∧ va_D (va_A (wO h cy o σ f) sz) (wO h cy o u.1 u.2)) (va_A (wO h cy o σ f) sz)) 1 6 (va_A (wO h cy o σ f) sz) := by
  refine Met.ofCxH (own := RL) (by decide) rfl (Nat.le_of_ble_eq_true rfl) ?_
  intro p e s m below meth c hC htab hv ls hl
  obtain ⟨hx, hb, hr, hml, hown, hts, hlocks⟩ := hC
  have hl : lv_has ls 3 [(0, .ref (h 16)), (1, .ref o)] := hl
  obtain ⟨⟨hsz, hP, hK, hD0, hXS, hXZ⟩, hN⟩ := hv
  subst hsz
  have hD := hD0.self (sz := s.heap.size)
  generalize hAe : va_A (wO h cy o σ f) s.heap.size = A at hD hXZ ⊢
  have hA : ∀ q : Nat, s.heap.size ≤ q → A q := fun q h => by rw [← hAe]; exact Or.inr h
  have hS : va_S A s.heap s.heap [] := va_S.rf
  clear hAe
  unfold wp_L_highest at hF
  refine lv_aload_n hx hb dL_highest_0 rfl (lv_at hl 1 rfl) ?_
  refine lv_iconst (v := 0) hx hb dL_highest_1 (by decide) ?_
  refine lv_aload_n hx hb dL_highest_2 rfl (lv_at hl 0 rfl) ?_
  refine lwCall (q0 := 16) (x := wH h cy σ) (wn := fun u => wH h cy u) (fp0 _ _) ⟨hx, hb, hr, hml, hown, hts, hlocks⟩ hK hXS hXZ hP hD rfl rfl hS hA (m_X3_highest l hl9 dC dI h cy sa _ fu σ _ _ hF) (As := []) (rest := [.int 0, .ref o]) k_X3_highest q774 ⟨rfl, rfl⟩ ⟨Nat.le_of_ble_eq_true rfl, Nat.le_of_ble_eq_true rfl⟩ hl.1 rfl rfl (Nat.le_of_ble_eq_true rfl) dL_highest_3 ⟨Nat.le_of_ble_eq_true rfl, Nat.le_of_ble_eq_true rfl⟩ (fun E ce q9 u H1 locs hX hP hD hS hce hcv hcl9 => ?_) (fun r u H1 locs hF hP hD hS => ?_)
  · obtain ⟨rfl, hX⟩ := hX
    refine lwCatch hown htab 0 (e0 := 0) (e1 := 8) (hp := 11) (ct := 29) rfl (by decide) (by decide) (hts _ q569) (va_Nw.use rfl (hK.2.2.2.2.2.2.2.2.2.2.1 _ (List.mem_of_getElem? (i := 3) rfl))) (fun w hw => absurd hw List.not_mem_nil) hce hcv hcl9 ?_
    refine lv_astore_n (lv' := [(2, .ref q9), (0, .ref (h 16)), (1, .ref o)]) hx hb dL_highest_11 rfl hl (by decide) rfl (fun ls hl => ?_)
    refine lv_iconst (v := 1) hx hb dL_highest_12 (by decide) ?_
    exact W.iret (v := 1) hx hb hr (fun t ht hW => ⟨⟨1, (u, f), rfl, hX, by rw [ht]; exact hP, hD⟩, hS.F ht⟩) hS.2.2 dL_highest_13
  · have hP : va_P (dC, dI) classes (wO h cy o u f) H1 := hP
    refine lv_i2l hx hb dL_highest_6 rfl ?_
    refine va_last hx hb hK.1 hP hD hS 21 1 rfl rfl (show vp_in 0 1 from vp_in_nI (n := 0) (by omega) (by omega)) dL_highest_7 (fun H2 locs hP hD hS => ?_)
    have hP : va_P (dC, dI) classes (wO h cy o u (vp_updL f 0 (Int32.toInt64 r))) H2 := hP
    have hD : va_D A (wO h cy o u (vp_updL f 0 (Int32.toInt64 r))) := hD
    refine lv_goto (tgt := 14) hx hb dL_highest_8 (by decide) ?_
    refine lv_iconst (v := 0) hx hb dL_highest_14 (by decide) ?_
    exact W.iret (v := 0) hx hb hr (fun t ht hW => ⟨⟨0, (u, vp_updL f 0 (Int32.toInt64 r)), rfl, hF, by rw [ht]; exact hP, hD⟩, hS.F ht⟩) hS.2.2 dL_highest_15
theorem dL_weigh_0 : decode cL_weigh 0 = .ok (.aload_n 3, 1) := by decide +kernel
theorem dL_weigh_1 : decode cL_weigh 1 = .ok (.iconst 0, 1) := by decide +kernel
theorem dL_weigh_2 : decode cL_weigh 2 = .ok (.aload_n 0, 1) := by decide +kernel
theorem dL_weigh_3 : decode cL_weigh 3 = .ok (.iload_n 1, 1) := by decide +kernel
theorem dL_weigh_4 : decode cL_weigh 4 = .ok (.iload_n 2, 1) := by decide +kernel
theorem dL_weigh_5 : decode cL_weigh 5 = .ok (.invokevirtual 72, 3) := by decide +kernel
theorem dL_weigh_8 : decode cL_weigh 8 = .ok (.i2l, 1) := by decide +kernel
theorem dL_weigh_9 : decode cL_weigh 9 = .ok (.lastore, 1) := by decide +kernel
theorem dL_weigh_10 : decode cL_weigh 10 = .ok (.goto 11, 3) := by decide +kernel
theorem dL_weigh_13 : decode cL_weigh 13 = .ok (.astore 4, 2) := by decide +kernel
theorem dL_weigh_15 : decode cL_weigh 15 = .ok (.iconst 1, 1) := by decide +kernel
theorem dL_weigh_16 : decode cL_weigh 16 = .ok (.ireturn, 1) := by decide +kernel
theorem dL_weigh_17 : decode cL_weigh 17 = .ok (.astore 4, 2) := by decide +kernel
theorem dL_weigh_19 : decode cL_weigh 19 = .ok (.iconst 2, 1) := by decide +kernel
theorem dL_weigh_20 : decode cL_weigh 20 = .ok (.ireturn, 1) := by decide +kernel
theorem dL_weigh_21 : decode cL_weigh 21 = .ok (.iconst 0, 1) := by decide +kernel
theorem dL_weigh_22 : decode cL_weigh 22 = .ok (.ireturn, 1) := by decide +kernel
def wp_L_weigh (σ : SX) (f : Nat → Int64) (x1 : Int32) (x2 : Int32) (P : Int32 → SX → (Nat → Int64) → Prop) : Prop := wp_X3_weigh σ x1 x2 (fun r s => P 0 s (vp_updL f 0 (Int32.toInt64 r))) (fun E s => (E = "java/lang/IndexOutOfBoundsException" ∧ P 1 s f) ∨ (E = "java/lang/IllegalArgumentException" ∧ P 2 s f))
set_option maxHeartbeats 4000000 in
set_option maxRecDepth 100000 in
theorem m_L_weigh (l : Launch) (hl9 : l.stackTraces = false) (dC : Nat → ClassId) (dI : Nat → Nat → Nat) (h : Nat → Nat) (cy : Nat → ClassId) (sa : Nat → Nat) (o sz : Nat) (σ : SX) (f : Nat → Int64) (x1 : Int32) (x2 : Int32) (P : Int32 → SX → (Nat → Int64) → Prop) (hF : wp_L_weigh σ f x1 x2 P) : Met l yL_weigh (wsH yL_weigh cL_weigh 5 (some .int) [(0, 10, 13, 34), (0, 10, 17, 13)]) ({ frames := 8, cells := 2, slots := 12, locals := 134 } : Room) (va_Pc [.ref (h 16), .int x1, .int x2, .ref o] (PcW dC dI cy sa (wO h cy o σ f) sz)) (va_Qi (fun r (u : SX × (Nat → Int64)) => P r u.1 u.2) (fun (u : SX × (Nat → Int64)) t => va_P (dC, dI) classes (wO h cy o u.1 u.2) t.heap ∧ va_D (va_A (wO h cy o σ f) sz) (wO h cy o u.1 u.2)) (va_A (wO h cy o σ f) sz)) 2 12 (va_A (wO h cy o σ f) sz) := by
  refine Met.ofCxH (own := RL) (by decide) rfl (Nat.le_of_ble_eq_true rfl) ?_
  intro p e s m below meth c hC htab hv ls hl
  obtain ⟨hx, hb, hr, hml, hown, hts, hlocks⟩ := hC
  have hl : lv_has ls 5 [(0, .ref (h 16)), (1, .int x1), (2, .int x2), (3, .ref o)] := hl
  obtain ⟨⟨hsz, hP, hK, hD0, hXS, hXZ⟩, hN⟩ := hv
  subst hsz
  have hD := hD0.self (sz := s.heap.size)
  generalize hAe : va_A (wO h cy o σ f) s.heap.size = A at hD hXZ ⊢
  have hA : ∀ q : Nat, s.heap.size ≤ q → A q := fun q h => by rw [← hAe]; exact Or.inr h
  have hS : va_S A s.heap s.heap [] := va_S.rf
  clear hAe
  unfold wp_L_weigh at hF
  refine lv_aload_n hx hb dL_weigh_0 rfl (lv_at hl 3 rfl) ?_
  refine lv_iconst (v := 0) hx hb dL_weigh_1 (by decide) ?_
  refine lv_aload_n hx hb dL_weigh_2 rfl (lv_at hl 0 rfl) ?_
  refine lv_iload_n hx hb dL_weigh_3 rfl (lv_at hl 1 rfl) ?_
  refine lv_iload_n hx hb dL_weigh_4 rfl (lv_at hl 2 rfl) ?_
  refine lwCall (q0 := 16) (x := wH h cy σ) (wn := fun u => wH h cy u) (fp0 _ _) ⟨hx, hb, hr, hml, hown, hts, hlocks⟩ hK hXS hXZ hP hD rfl rfl hS hA (m_X3_weigh l hl9 dC dI h cy sa _ σ x1 x2 _ _ hF) (As := [.int x1, .int x2]) (rest := [.int 0, .ref o]) k_X3_weigh q782 ⟨rfl, rfl⟩ ⟨Nat.le_of_ble_eq_true rfl, Nat.le_of_ble_eq_true rfl⟩ hl.1 rfl rfl (Nat.le_of_ble_eq_true rfl) dL_weigh_5 ⟨Nat.le_of_ble_eq_true rfl, Nat.le_of_ble_eq_true rfl⟩ (fun E ce q9 u H1 locs hX hP hD hS hce hcv hcl9 => ?_) (fun r u H1 locs hF hP hD hS => ?_)
  · rcases hX with ⟨rfl, hX⟩ | ⟨rfl, hX⟩
    · refine lwCatch hown htab 0 (e0 := 0) (e1 := 10) (hp := 13) (ct := 34) rfl (by decide) (by decide) (hts _ q592) (va_Nw.use rfl (hK.2.2.2.2.2.2.2.2.2.2.1 _ (List.mem_of_getElem? (i := 5) rfl))) (fun w hw => absurd hw List.not_mem_nil) hce hcv hcl9 ?_
      refine lv_astore (lv' := [(4, .ref q9), (0, .ref (h 16)), (1, .int x1), (2, .int x2), (3, .ref o)]) hx hb dL_weigh_13 hl (by decide) rfl (fun ls hl => ?_)
      refine lv_iconst (v := 1) hx hb dL_weigh_15 (by decide) ?_
      exact W.iret (v := 1) hx hb hr (fun t ht hW => ⟨⟨1, (u, f), rfl, hX, by rw [ht]; exact hP, hD⟩, hS.F ht⟩) hS.2.2 dL_weigh_16
    · refine lwCatch hown htab 1 (e0 := 0) (e1 := 10) (hp := 17) (ct := 13) rfl (by decide) (by decide) (hts _ q392) (va_Nw.use rfl (hK.2.2.2.2.2.2.2.2.2.2.1 _ (List.mem_of_getElem? (i := 0) rfl))) (fun w hw => ?_) hce hcv hcl9 ?_
      · obtain rfl : w = (0, 10, 13, 34) := by simpa using hw
        exact ⟨by decide, "java/lang/IndexOutOfBoundsException", hts _ q592, hN _ (List.mem_of_getElem? (i := 20) rfl)⟩
      · refine lv_astore (lv' := [(4, .ref q9), (0, .ref (h 16)), (1, .int x1), (2, .int x2), (3, .ref o)]) hx hb dL_weigh_17 hl (by decide) rfl (fun ls hl => ?_)
        refine lv_iconst (v := 2) hx hb dL_weigh_19 (by decide) ?_
        exact W.iret (v := 2) hx hb hr (fun t ht hW => ⟨⟨2, (u, f), rfl, hX, by rw [ht]; exact hP, hD⟩, hS.F ht⟩) hS.2.2 dL_weigh_20
  · have hP : va_P (dC, dI) classes (wO h cy o u f) H1 := hP
    refine lv_i2l hx hb dL_weigh_8 rfl ?_
    refine va_last hx hb hK.1 hP hD hS 21 1 rfl rfl (show vp_in 0 1 from vp_in_nI (n := 0) (by omega) (by omega)) dL_weigh_9 (fun H2 locs hP hD hS => ?_)
    have hP : va_P (dC, dI) classes (wO h cy o u (vp_updL f 0 (Int32.toInt64 r))) H2 := hP
    have hD : va_D A (wO h cy o u (vp_updL f 0 (Int32.toInt64 r))) := hD
    refine lv_goto (tgt := 21) hx hb dL_weigh_10 (by decide) ?_
    refine lv_iconst (v := 0) hx hb dL_weigh_21 (by decide) ?_
    exact W.iret (v := 0) hx hb hr (fun t ht hW => ⟨⟨0, (u, vp_updL f 0 (Int32.toInt64 r)), rfl, hF, by rw [ht]; exact hP, hD⟩, hS.F ht⟩) hS.2.2 dL_weigh_22
theorem dL_weight_0 : decode cL_weight 0 = .ok (.aload_n 2, 1) := by decide +kernel
theorem dL_weight_1 : decode cL_weight 1 = .ok (.iconst 0, 1) := by decide +kernel
theorem dL_weight_2 : decode cL_weight 2 = .ok (.aload_n 0, 1) := by decide +kernel
theorem dL_weight_3 : decode cL_weight 3 = .ok (.iload_n 1, 1) := by decide +kernel
theorem dL_weight_4 : decode cL_weight 4 = .ok (.invokevirtual 75, 3) := by decide +kernel
theorem dL_weight_7 : decode cL_weight 7 = .ok (.i2l, 1) := by decide +kernel
theorem dL_weight_8 : decode cL_weight 8 = .ok (.lastore, 1) := by decide +kernel
theorem dL_weight_9 : decode cL_weight 9 = .ok (.goto 6, 3) := by decide +kernel
theorem dL_weight_12 : decode cL_weight 12 = .ok (.astore_n 3, 1) := by decide +kernel
theorem dL_weight_13 : decode cL_weight 13 = .ok (.iconst 1, 1) := by decide +kernel
theorem dL_weight_14 : decode cL_weight 14 = .ok (.ireturn, 1) := by decide +kernel
theorem dL_weight_15 : decode cL_weight 15 = .ok (.iconst 0, 1) := by decide +kernel
theorem dL_weight_16 : decode cL_weight 16 = .ok (.ireturn, 1) := by decide +kernel
def wp_L_weight (fu : Nat) (σ : SX) (f : Nat → Int64) (x1 : Int32) (P : Int32 → SX → (Nat → Int64) → Prop) : Prop := wp_X3_weight fu σ x1 (fun r s => P 0 s (vp_updL f 0 (Int32.toInt64 r))) (fun E s => (E = "java/lang/IndexOutOfBoundsException" ∧ P 1 s f))
set_option maxHeartbeats 4000000 in
set_option maxRecDepth 100000 in
theorem m_L_weight (l : Launch) (hl9 : l.stackTraces = false) (dC : Nat → ClassId) (dI : Nat → Nat → Nat) (h : Nat → Nat) (cy : Nat → ClassId) (sa : Nat → Nat) (o sz : Nat) (fu : Nat) (σ : SX) (f : Nat → Int64) (x1 : Int32) (P : Int32 → SX → (Nat → Int64) → Prop) (hF : wp_L_weight fu σ f x1 P) : Met l yL_weight (wsH yL_weight cL_weight 4 (some .int) [(0, 9, 12, 34)]) ({ frames := 8, cells := 1, slots := 6, locals := 132 } : Room) (va_Pc [.ref (h 16), .int x1, .ref o] (PcW dC dI cy sa (wO h cy o σ f) sz)) (va_Qi (fun r (u : SX × (Nat → Int64)) => P r u.1 u.2) (fun (u : SX × (Nat → Int64)) t => va_P (dC, dI) classes (wO h cy o u.1 u.2) t.heap ∧ va_D (va_A (wO h cy o σ f) sz) (wO h cy o u.1 u.2)) (va_A (wO h cy o σ f) sz)) 1 6 (va_A (wO h cy o σ f) sz) := by
  refine Met.ofCxH (own := RL) (by decide) rfl (Nat.le_of_ble_eq_true rfl) ?_
  intro p e s m below meth c hC htab hv ls hl
  obtain ⟨hx, hb, hr, hml, hown, hts, hlocks⟩ := hC
  have hl : lv_has ls 4 [(0, .ref (h 16)), (1, .int x1), (2, .ref o)] := hl
  obtain ⟨⟨hsz, hP, hK, hD0, hXS, hXZ⟩, hN⟩ := hv
  subst hsz
  have hD := hD0.self (sz := s.heap.size)
  generalize hAe : va_A (wO h cy o σ f) s.heap.size = A at hD hXZ ⊢
  have hA : ∀ q : Nat, s.heap.size ≤ q → A q := fun q h => by rw [← hAe]; exact Or.inr h
  have hS : va_S A s.heap s.heap [] := va_S.rf
  clear hAe
  unfold wp_L_weight at hF
  refine lv_aload_n hx hb dL_weight_0 rfl (lv_at hl 2 rfl) ?_
  refine lv_iconst (v := 0) hx hb dL_weight_1 (by decide) ?_
  refine lv_aload_n hx hb dL_weight_2 rfl (lv_at hl 0 rfl) ?_
  refine lv_iload_n hx hb dL_weight_3 rfl (lv_at hl 1 rfl) ?_
  refine lwCall (q0 := 16) (x := wH h cy σ) (wn := fun u => wH h cy u) (fp0 _ _) ⟨hx, hb, hr, hml, hown, hts, hlocks⟩ hK hXS hXZ hP hD rfl rfl hS hA (m_X3_weight l hl9 dC dI h cy sa _ fu σ x1 _ _ hF) (As := [.int x1]) (rest := [.int 0, .ref o]) k_X3_weight q794 ⟨rfl, rfl⟩ ⟨Nat.le_of_ble_eq_true rfl, Nat.le_of_ble_eq_true rfl⟩ hl.1 rfl rfl (Nat.le_of_ble_eq_true rfl) dL_weight_4 ⟨Nat.le_of_ble_eq_true rfl, Nat.le_of_ble_eq_true rfl⟩ (fun E ce q9 u H1 locs hX hP hD hS hce hcv hcl9 => ?_) (fun r u H1 locs hF hP hD hS => ?_)
  · obtain ⟨rfl, hX⟩ := hX
    refine lwCatch hown htab 0 (e0 := 0) (e1 := 9) (hp := 12) (ct := 34) rfl (by decide) (by decide) (hts _ q592) (va_Nw.use rfl (hK.2.2.2.2.2.2.2.2.2.2.1 _ (List.mem_of_getElem? (i := 5) rfl))) (fun w hw => absurd hw List.not_mem_nil) hce hcv hcl9 ?_
    refine lv_astore_n (lv' := [(3, .ref q9), (0, .ref (h 16)), (1, .int x1), (2, .ref o)]) hx hb dL_weight_12 rfl hl (by decide) rfl (fun ls hl => ?_)
    refine lv_iconst (v := 1) hx hb dL_weight_13 (by decide) ?_
    exact W.iret (v := 1) hx hb hr (fun t ht hW => ⟨⟨1, (u, f), rfl, hX, by rw [ht]; exact hP, hD⟩, hS.F ht⟩) hS.2.2 dL_weight_14
  · have hP : va_P (dC, dI) classes (wO h cy o u f) H1 := hP
    refine lv_i2l hx hb dL_weight_7 rfl ?_
    refine va_last hx hb hK.1 hP hD hS 21 1 rfl rfl (show vp_in 0 1 from vp_in_nI (n := 0) (by omega) (by omega)) dL_weight_8 (fun H2 locs hP hD hS => ?_)
    have hP : va_P (dC, dI) classes (wO h cy o u (vp_updL f 0 (Int32.toInt64 r))) H2 := hP
    have hD : va_D A (wO h cy o u (vp_updL f 0 (Int32.toInt64 r))) := hD
    refine lv_goto (tgt := 15) hx hb dL_weight_9 (by decide) ?_
    refine lv_iconst (v := 0) hx hb dL_weight_15 (by decide) ?_
    exact W.iret (v := 0) hx hb hr (fun t ht hW => ⟨⟨0, (u, vp_updL f 0 (Int32.toInt64 r)), rfl, hF, by rw [ht]; exact hP, hD⟩, hS.F ht⟩) hS.2.2 dL_weight_16
theorem dL_fault_0 : decode cL_fault 0 = .ok (.aload_n 1, 1) := by decide +kernel
theorem dL_fault_1 : decode cL_fault 1 = .ok (.iconst 0, 1) := by decide +kernel
theorem dL_fault_2 : decode cL_fault 2 = .ok (.aload_n 0, 1) := by decide +kernel
theorem dL_fault_3 : decode cL_fault 3 = .ok (.invokevirtual 78, 3) := by decide +kernel
theorem dL_fault_6 : decode cL_fault 6 = .ok (.i2l, 1) := by decide +kernel
theorem dL_fault_7 : decode cL_fault 7 = .ok (.lastore, 1) := by decide +kernel
theorem dL_fault_8 : decode cL_fault 8 = .ok (.goto 6, 3) := by decide +kernel
theorem dL_fault_11 : decode cL_fault 11 = .ok (.astore_n 2, 1) := by decide +kernel
theorem dL_fault_12 : decode cL_fault 12 = .ok (.iconst 1, 1) := by decide +kernel
theorem dL_fault_13 : decode cL_fault 13 = .ok (.ireturn, 1) := by decide +kernel
theorem dL_fault_14 : decode cL_fault 14 = .ok (.iconst 0, 1) := by decide +kernel
theorem dL_fault_15 : decode cL_fault 15 = .ok (.ireturn, 1) := by decide +kernel
def wp_L_fault (fu : Nat) (σ : SX) (f : Nat → Int64) (P : Int32 → SX → (Nat → Int64) → Prop) : Prop := wp_X3_fault fu σ (fun r s => P 0 s (vp_updL f 0 (Int32.toInt64 r))) (fun E s => (E = "java/util/NoSuchElementException" ∧ P 1 s f))
set_option maxHeartbeats 4000000 in
set_option maxRecDepth 100000 in
theorem m_L_fault (l : Launch) (hl9 : l.stackTraces = false) (dC : Nat → ClassId) (dI : Nat → Nat → Nat) (h : Nat → Nat) (cy : Nat → ClassId) (sa : Nat → Nat) (o sz : Nat) (fu : Nat) (σ : SX) (f : Nat → Int64) (P : Int32 → SX → (Nat → Int64) → Prop) (hF : wp_L_fault fu σ f P) : Met l yL_fault (wsH yL_fault cL_fault 3 (some .int) [(0, 8, 11, 29)]) ({ frames := 7, cells := 1, slots := 6, locals := 111 } : Room) (va_Pc [.ref (h 16), .ref o] (PcW dC dI cy sa (wO h cy o σ f) sz)) (va_Qi (fun r (u : SX × (Nat → Int64)) => P r u.1 u.2) (fun (u : SX × (Nat → Int64)) t => va_P (dC, dI) classes (wO h cy o u.1 u.2) t.heap ∧ va_D (va_A (wO h cy o σ f) sz) (wO h cy o u.1 u.2)) (va_A (wO h cy o σ f) sz)) 1 6 (va_A (wO h cy o σ f) sz) := by
  refine Met.ofCxH (own := RL) (by decide) rfl (Nat.le_of_ble_eq_true rfl) ?_
  intro p e s m below meth c hC htab hv ls hl
  obtain ⟨hx, hb, hr, hml, hown, hts, hlocks⟩ := hC
  have hl : lv_has ls 3 [(0, .ref (h 16)), (1, .ref o)] := hl
  obtain ⟨⟨hsz, hP, hK, hD0, hXS, hXZ⟩, hN⟩ := hv
  subst hsz
  have hD := hD0.self (sz := s.heap.size)
  generalize hAe : va_A (wO h cy o σ f) s.heap.size = A at hD hXZ ⊢
  have hA : ∀ q : Nat, s.heap.size ≤ q → A q := fun q h => by rw [← hAe]; exact Or.inr h
  have hS : va_S A s.heap s.heap [] := va_S.rf
  clear hAe
  unfold wp_L_fault at hF
  refine lv_aload_n hx hb dL_fault_0 rfl (lv_at hl 1 rfl) ?_
  refine lv_iconst (v := 0) hx hb dL_fault_1 (by decide) ?_
  refine lv_aload_n hx hb dL_fault_2 rfl (lv_at hl 0 rfl) ?_
  refine lwCall (q0 := 16) (x := wH h cy σ) (wn := fun u => wH h cy u) (fp0 _ _) ⟨hx, hb, hr, hml, hown, hts, hlocks⟩ hK hXS hXZ hP hD rfl rfl hS hA (m_X3_fault l hl9 dC dI h cy sa _ fu σ _ _ hF) (As := []) (rest := [.int 0, .ref o]) k_X3_fault q801 ⟨rfl, rfl⟩ ⟨Nat.le_of_ble_eq_true rfl, Nat.le_of_ble_eq_true rfl⟩ hl.1 rfl rfl (Nat.le_of_ble_eq_true rfl) dL_fault_3 ⟨Nat.le_of_ble_eq_true rfl, Nat.le_of_ble_eq_true rfl⟩ (fun E ce q9 u H1 locs hX hP hD hS hce hcv hcl9 => ?_) (fun r u H1 locs hF hP hD hS => ?_)
  · obtain ⟨rfl, hX⟩ := hX
    refine lwCatch hown htab 0 (e0 := 0) (e1 := 8) (hp := 11) (ct := 29) rfl (by decide) (by decide) (hts _ q569) (va_Nw.use rfl (hK.2.2.2.2.2.2.2.2.2.2.1 _ (List.mem_of_getElem? (i := 3) rfl))) (fun w hw => absurd hw List.not_mem_nil) hce hcv hcl9 ?_
    refine lv_astore_n (lv' := [(2, .ref q9), (0, .ref (h 16)), (1, .ref o)]) hx hb dL_fault_11 rfl hl (by decide) rfl (fun ls hl => ?_)
    refine lv_iconst (v := 1) hx hb dL_fault_12 (by decide) ?_
    exact W.iret (v := 1) hx hb hr (fun t ht hW => ⟨⟨1, (u, f), rfl, hX, by rw [ht]; exact hP, hD⟩, hS.F ht⟩) hS.2.2 dL_fault_13
  · have hP : va_P (dC, dI) classes (wO h cy o u f) H1 := hP
    refine lv_i2l hx hb dL_fault_6 rfl ?_
    refine va_last hx hb hK.1 hP hD hS 21 1 rfl rfl (show vp_in 0 1 from vp_in_nI (n := 0) (by omega) (by omega)) dL_fault_7 (fun H2 locs hP hD hS => ?_)
    have hP : va_P (dC, dI) classes (wO h cy o u (vp_updL f 0 (Int32.toInt64 r))) H2 := hP
    have hD : va_D A (wO h cy o u (vp_updL f 0 (Int32.toInt64 r))) := hD
    refine lv_goto (tgt := 14) hx hb dL_fault_8 (by decide) ?_
    refine lv_iconst (v := 0) hx hb dL_fault_14 (by decide) ?_
    exact W.iret (v := 0) hx hb hr (fun t ht hW => ⟨⟨0, (u, vp_updL f 0 (Int32.toInt64 r)), rfl, hF, by rw [ht]; exact hP, hD⟩, hS.F ht⟩) hS.2.2 dL_fault_15
theorem dL_colour_0 : decode cL_colour 0 = .ok (.aload_n 3, 1) := by decide +kernel
theorem dL_colour_1 : decode cL_colour 1 = .ok (.iconst 0, 1) := by decide +kernel
theorem dL_colour_2 : decode cL_colour 2 = .ok (.aload_n 0, 1) := by decide +kernel
theorem dL_colour_3 : decode cL_colour 3 = .ok (.iload_n 1, 1) := by decide +kernel
theorem dL_colour_4 : decode cL_colour 4 = .ok (.iload_n 2, 1) := by decide +kernel
theorem dL_colour_5 : decode cL_colour 5 = .ok (.invokevirtual 81, 3) := by decide +kernel
theorem dL_colour_8 : decode cL_colour 8 = .ok (.i2l, 1) := by decide +kernel
theorem dL_colour_9 : decode cL_colour 9 = .ok (.lastore, 1) := by decide +kernel
theorem dL_colour_10 : decode cL_colour 10 = .ok (.goto 11, 3) := by decide +kernel
theorem dL_colour_13 : decode cL_colour 13 = .ok (.astore 4, 2) := by decide +kernel
theorem dL_colour_15 : decode cL_colour 15 = .ok (.iconst 1, 1) := by decide +kernel
theorem dL_colour_16 : decode cL_colour 16 = .ok (.ireturn, 1) := by decide +kernel
theorem dL_colour_17 : decode cL_colour 17 = .ok (.astore 4, 2) := by decide +kernel
theorem dL_colour_19 : decode cL_colour 19 = .ok (.iconst 2, 1) := by decide +kernel
theorem dL_colour_20 : decode cL_colour 20 = .ok (.ireturn, 1) := by decide +kernel
theorem dL_colour_21 : decode cL_colour 21 = .ok (.iconst 0, 1) := by decide +kernel
theorem dL_colour_22 : decode cL_colour 22 = .ok (.ireturn, 1) := by decide +kernel
def wp_L_colour (σ : SX) (f : Nat → Int64) (x1 : Int32) (x2 : Int32) (P : Int32 → SX → (Nat → Int64) → Prop) : Prop := wp_X3_colour σ x1 x2 (fun r s => P 0 s (vp_updL f 0 (Int32.toInt64 r))) (fun E s => (E = "java/lang/IndexOutOfBoundsException" ∧ P 1 s f) ∨ (E = "java/lang/IllegalArgumentException" ∧ P 2 s f))
set_option maxHeartbeats 4000000 in
set_option maxRecDepth 100000 in
theorem m_L_colour (l : Launch) (hl9 : l.stackTraces = false) (dC : Nat → ClassId) (dI : Nat → Nat → Nat) (h : Nat → Nat) (cy : Nat → ClassId) (sa : Nat → Nat) (o sz : Nat) (σ : SX) (f : Nat → Int64) (x1 : Int32) (x2 : Int32) (P : Int32 → SX → (Nat → Int64) → Prop) (hF : wp_L_colour σ f x1 x2 P) : Met l yL_colour (wsH yL_colour cL_colour 5 (some .int) [(0, 10, 13, 34), (0, 10, 17, 13)]) ({ frames := 8, cells := 2, slots := 12, locals := 133 } : Room) (va_Pc [.ref (h 16), .int x1, .int x2, .ref o] (PcW dC dI cy sa (wO h cy o σ f) sz)) (va_Qi (fun r (u : SX × (Nat → Int64)) => P r u.1 u.2) (fun (u : SX × (Nat → Int64)) t => va_P (dC, dI) classes (wO h cy o u.1 u.2) t.heap ∧ va_D (va_A (wO h cy o σ f) sz) (wO h cy o u.1 u.2)) (va_A (wO h cy o σ f) sz)) 2 12 (va_A (wO h cy o σ f) sz) := by
  refine Met.ofCxH (own := RL) (by decide) rfl (Nat.le_of_ble_eq_true rfl) ?_
  intro p e s m below meth c hC htab hv ls hl
  obtain ⟨hx, hb, hr, hml, hown, hts, hlocks⟩ := hC
  have hl : lv_has ls 5 [(0, .ref (h 16)), (1, .int x1), (2, .int x2), (3, .ref o)] := hl
  obtain ⟨⟨hsz, hP, hK, hD0, hXS, hXZ⟩, hN⟩ := hv
  subst hsz
  have hD := hD0.self (sz := s.heap.size)
  generalize hAe : va_A (wO h cy o σ f) s.heap.size = A at hD hXZ ⊢
  have hA : ∀ q : Nat, s.heap.size ≤ q → A q := fun q h => by rw [← hAe]; exact Or.inr h
  have hS : va_S A s.heap s.heap [] := va_S.rf
  clear hAe
  unfold wp_L_colour at hF
  refine lv_aload_n hx hb dL_colour_0 rfl (lv_at hl 3 rfl) ?_
  refine lv_iconst (v := 0) hx hb dL_colour_1 (by decide) ?_
  refine lv_aload_n hx hb dL_colour_2 rfl (lv_at hl 0 rfl) ?_
  refine lv_iload_n hx hb dL_colour_3 rfl (lv_at hl 1 rfl) ?_
  refine lv_iload_n hx hb dL_colour_4 rfl (lv_at hl 2 rfl) ?_
  refine lwCall (q0 := 16) (x := wH h cy σ) (wn := fun u => wH h cy u) (fp0 _ _) ⟨hx, hb, hr, hml, hown, hts, hlocks⟩ hK hXS hXZ hP hD rfl rfl hS hA (m_X3_colour l hl9 dC dI h cy sa _ σ x1 x2 _ _ hF) (As := [.int x1, .int x2]) (rest := [.int 0, .ref o]) k_X3_colour q809 ⟨rfl, rfl⟩ ⟨Nat.le_of_ble_eq_true rfl, Nat.le_of_ble_eq_true rfl⟩ hl.1 rfl rfl (Nat.le_of_ble_eq_true rfl) dL_colour_5 ⟨Nat.le_of_ble_eq_true rfl, Nat.le_of_ble_eq_true rfl⟩ (fun E ce q9 u H1 locs hX hP hD hS hce hcv hcl9 => ?_) (fun r u H1 locs hF hP hD hS => ?_)
  · rcases hX with ⟨rfl, hX⟩ | ⟨rfl, hX⟩
    · refine lwCatch hown htab 0 (e0 := 0) (e1 := 10) (hp := 13) (ct := 34) rfl (by decide) (by decide) (hts _ q592) (va_Nw.use rfl (hK.2.2.2.2.2.2.2.2.2.2.1 _ (List.mem_of_getElem? (i := 5) rfl))) (fun w hw => absurd hw List.not_mem_nil) hce hcv hcl9 ?_
      refine lv_astore (lv' := [(4, .ref q9), (0, .ref (h 16)), (1, .int x1), (2, .int x2), (3, .ref o)]) hx hb dL_colour_13 hl (by decide) rfl (fun ls hl => ?_)
      refine lv_iconst (v := 1) hx hb dL_colour_15 (by decide) ?_
      exact W.iret (v := 1) hx hb hr (fun t ht hW => ⟨⟨1, (u, f), rfl, hX, by rw [ht]; exact hP, hD⟩, hS.F ht⟩) hS.2.2 dL_colour_16
    · refine lwCatch hown htab 1 (e0 := 0) (e1 := 10) (hp := 17) (ct := 13) rfl (by decide) (by decide) (hts _ q392) (va_Nw.use rfl (hK.2.2.2.2.2.2.2.2.2.2.1 _ (List.mem_of_getElem? (i := 0) rfl))) (fun w hw => ?_) hce hcv hcl9 ?_
      · obtain rfl : w = (0, 10, 13, 34) := by simpa using hw
        exact ⟨by decide, "java/lang/IndexOutOfBoundsException", hts _ q592, hN _ (List.mem_of_getElem? (i := 20) rfl)⟩
      · refine lv_astore (lv' := [(4, .ref q9), (0, .ref (h 16)), (1, .int x1), (2, .int x2), (3, .ref o)]) hx hb dL_colour_17 hl (by decide) rfl (fun ls hl => ?_)
        refine lv_iconst (v := 2) hx hb dL_colour_19 (by decide) ?_
        exact W.iret (v := 2) hx hb hr (fun t ht hW => ⟨⟨2, (u, f), rfl, hX, by rw [ht]; exact hP, hD⟩, hS.F ht⟩) hS.2.2 dL_colour_20
  · have hP : va_P (dC, dI) classes (wO h cy o u f) H1 := hP
    refine lv_i2l hx hb dL_colour_8 rfl ?_
    refine va_last hx hb hK.1 hP hD hS 21 1 rfl rfl (show vp_in 0 1 from vp_in_nI (n := 0) (by omega) (by omega)) dL_colour_9 (fun H2 locs hP hD hS => ?_)
    have hP : va_P (dC, dI) classes (wO h cy o u (vp_updL f 0 (Int32.toInt64 r))) H2 := hP
    have hD : va_D A (wO h cy o u (vp_updL f 0 (Int32.toInt64 r))) := hD
    refine lv_goto (tgt := 21) hx hb dL_colour_10 (by decide) ?_
    refine lv_iconst (v := 0) hx hb dL_colour_21 (by decide) ?_
    exact W.iret (v := 0) hx hb hr (fun t ht hW => ⟨⟨0, (u, vp_updL f 0 (Int32.toInt64 r)), rfl, hF, by rw [ht]; exact hP, hD⟩, hS.F ht⟩) hS.2.2 dL_colour_22
theorem dL_isFit_0 : decode cL_isFit 0 = .ok (.aload_n 2, 1) := by decide +kernel
theorem dL_isFit_1 : decode cL_isFit 1 = .ok (.iconst 0, 1) := by decide +kernel
theorem dL_isFit_2 : decode cL_isFit 2 = .ok (.aload_n 0, 1) := by decide +kernel
theorem dL_isFit_3 : decode cL_isFit 3 = .ok (.iload_n 1, 1) := by decide +kernel
theorem dL_isFit_4 : decode cL_isFit 4 = .ok (.invokevirtual 84, 3) := by decide +kernel
theorem dL_isFit_7 : decode cL_isFit 7 = .ok (.ifCond .eq 7, 3) := by decide +kernel
theorem dL_isFit_10 : decode cL_isFit 10 = .ok (.lconst 1, 1) := by decide +kernel
theorem dL_isFit_11 : decode cL_isFit 11 = .ok (.goto 4, 3) := by decide +kernel
theorem dL_isFit_14 : decode cL_isFit 14 = .ok (.lconst 0, 1) := by decide +kernel
theorem dL_isFit_15 : decode cL_isFit 15 = .ok (.lastore, 1) := by decide +kernel
theorem dL_isFit_16 : decode cL_isFit 16 = .ok (.goto 6, 3) := by decide +kernel
theorem dL_isFit_19 : decode cL_isFit 19 = .ok (.astore_n 3, 1) := by decide +kernel
theorem dL_isFit_20 : decode cL_isFit 20 = .ok (.iconst 1, 1) := by decide +kernel
theorem dL_isFit_21 : decode cL_isFit 21 = .ok (.ireturn, 1) := by decide +kernel
theorem dL_isFit_22 : decode cL_isFit 22 = .ok (.iconst 0, 1) := by decide +kernel
theorem dL_isFit_23 : decode cL_isFit 23 = .ok (.ireturn, 1) := by decide +kernel
def wp_L_isFit (fu : Nat) (σ : SX) (f : Nat → Int64) (x1 : Int32) (P : Int32 → SX → (Nat → Int64) → Prop) : Prop := wp_X3_isFit fu σ x1 (fun r s => P 0 s (vp_updL f 0 (zB r))) (fun E s => (E = "java/lang/IllegalArgumentException" ∧ P 1 s f))
set_option maxHeartbeats 4000000 in
set_option maxRecDepth 100000 in
theorem m_L_isFit (l : Launch) (hl9 : l.stackTraces = false) (dC : Nat → ClassId) (dI : Nat → Nat → Nat) (h : Nat → Nat) (cy : Nat → ClassId) (sa : Nat → Nat) (o sz : Nat) (fu : Nat) (σ : SX) (f : Nat → Int64) (x1 : Int32) (P : Int32 → SX → (Nat → Int64) → Prop) (hF : wp_L_isFit fu σ f x1 P) : Met l yL_isFit (wsH yL_isFit cL_isFit 4 (some .int) [(0, 16, 19, 13)]) ({ frames := 8, cells := 1, slots := 6, locals := 131 } : Room) (va_Pc [.ref (h 16), .int x1, .ref o] (PcW dC dI cy sa (wO h cy o σ f) sz)) (va_Qi (fun r (u : SX × (Nat → Int64)) => P r u.1 u.2) (fun (u : SX × (Nat → Int64)) t => va_P (dC, dI) classes (wO h cy o u.1 u.2) t.heap ∧ va_D (va_A (wO h cy o σ f) sz) (wO h cy o u.1 u.2)) (va_A (wO h cy o σ f) sz)) 1 6 (va_A (wO h cy o σ f) sz) := by
  refine Met.ofCxH (own := RL) (by decide) rfl (Nat.le_of_ble_eq_true rfl) ?_
  intro p e s m below meth c hC htab hv ls hl
  obtain ⟨hx, hb, hr, hml, hown, hts, hlocks⟩ := hC
  have hl : lv_has ls 4 [(0, .ref (h 16)), (1, .int x1), (2, .ref o)] := hl
  obtain ⟨⟨hsz, hP, hK, hD0, hXS, hXZ⟩, hN⟩ := hv
  subst hsz
  have hD := hD0.self (sz := s.heap.size)
  generalize hAe : va_A (wO h cy o σ f) s.heap.size = A at hD hXZ ⊢
  have hA : ∀ q : Nat, s.heap.size ≤ q → A q := fun q h => by rw [← hAe]; exact Or.inr h
  have hS : va_S A s.heap s.heap [] := va_S.rf
  clear hAe
  unfold wp_L_isFit at hF
  refine lv_aload_n hx hb dL_isFit_0 rfl (lv_at hl 2 rfl) ?_
  refine lv_iconst (v := 0) hx hb dL_isFit_1 (by decide) ?_
  refine lv_aload_n hx hb dL_isFit_2 rfl (lv_at hl 0 rfl) ?_
  refine lv_iload_n hx hb dL_isFit_3 rfl (lv_at hl 1 rfl) ?_
  refine lwCall (q0 := 16) (x := wH h cy σ) (wn := fun u => wH h cy u) (fp0 _ _) ⟨hx, hb, hr, hml, hown, hts, hlocks⟩ hK hXS hXZ hP hD rfl rfl hS hA (m_X3_isFit l hl9 dC dI h cy sa _ fu σ x1 _ _ hF) (As := [.int x1]) (rest := [.int 0, .ref o]) k_X3_isFit q821 ⟨rfl, rfl⟩ ⟨Nat.le_of_ble_eq_true rfl, Nat.le_of_ble_eq_true rfl⟩ hl.1 rfl rfl (Nat.le_of_ble_eq_true rfl) dL_isFit_4 ⟨Nat.le_of_ble_eq_true rfl, Nat.le_of_ble_eq_true rfl⟩ (fun E ce q9 u H1 locs hX hP hD hS hce hcv hcl9 => ?_) (fun r u H1 locs hF hP hD hS => ?_)
  · obtain ⟨rfl, hX⟩ := hX
    refine lwCatch hown htab 0 (e0 := 0) (e1 := 16) (hp := 19) (ct := 13) rfl (by decide) (by decide) (hts _ q392) (va_Nw.use rfl (hK.2.2.2.2.2.2.2.2.2.2.1 _ (List.mem_of_getElem? (i := 0) rfl))) (fun w hw => absurd hw List.not_mem_nil) hce hcv hcl9 ?_
    refine lv_astore_n (lv' := [(3, .ref q9), (0, .ref (h 16)), (1, .int x1), (2, .ref o)]) hx hb dL_isFit_19 rfl hl (by decide) rfl (fun ls hl => ?_)
    refine lv_iconst (v := 1) hx hb dL_isFit_20 (by decide) ?_
    exact W.iret (v := 1) hx hb hr (fun t ht hW => ⟨⟨1, (u, f), rfl, hX, by rw [ht]; exact hP, hD⟩, hS.F ht⟩) hS.2.2 dL_isFit_21
  · have hP : va_P (dC, dI) classes (wO h cy o u f) H1 := hP
    refine lv_if_eq (tgt := 14) hx hb dL_isFit_7 (by decide) (fun cz => ?_) (fun cz => ?_)
    · rw [show zB r = 0 from if_pos cz] at hF
      refine lv_lconst (v := 0) hx hb dL_isFit_14 (by decide) ?_
      refine va_last hx hb hK.1 hP hD hS 21 1 rfl rfl (show vp_in 0 1 from vp_in_nI (n := 0) (by omega) (by omega)) dL_isFit_15 (fun H2 locs hP hD hS => ?_)
      have hP : va_P (dC, dI) classes (wO h cy o u (vp_updL f 0 0)) H2 := hP
      have hD : va_D A (wO h cy o u (vp_updL f 0 0)) := hD
      refine lv_goto (tgt := 22) hx hb dL_isFit_16 (by decide) ?_
      refine lv_iconst (v := 0) hx hb dL_isFit_22 (by decide) ?_
      exact W.iret (v := 0) hx hb hr (fun t ht hW => ⟨⟨0, (u, vp_updL f 0 0), rfl, hF, by rw [ht]; exact hP, hD⟩, hS.F ht⟩) hS.2.2 dL_isFit_23
    · rw [show zB r = 1 from if_neg cz] at hF
      refine lv_lconst (v := 1) hx hb dL_isFit_10 (by decide) ?_
      refine lv_goto (tgt := 15) hx hb dL_isFit_11 (by decide) ?_
      refine va_last hx hb hK.1 hP hD hS 21 1 rfl rfl (show vp_in 0 1 from vp_in_nI (n := 0) (by omega) (by omega)) dL_isFit_15 (fun H2 locs hP hD hS => ?_)
      have hP : va_P (dC, dI) classes (wO h cy o u (vp_updL f 0 1)) H2 := hP
      have hD : va_D A (wO h cy o u (vp_updL f 0 1)) := hD
      refine lv_goto (tgt := 22) hx hb dL_isFit_16 (by decide) ?_
      refine lv_iconst (v := 0) hx hb dL_isFit_22 (by decide) ?_
      exact W.iret (v := 0) hx hb hr (fun t ht hW => ⟨⟨0, (u, vp_updL f 0 1), rfl, hF, by rw [ht]; exact hP, hD⟩, hS.F ht⟩) hS.2.2 dL_isFit_23
theorem dL_winning_0 : decode cL_winning 0 = .ok (.aload_n 1, 1) := by decide +kernel
theorem dL_winning_1 : decode cL_winning 1 = .ok (.iconst 0, 1) := by decide +kernel
theorem dL_winning_2 : decode cL_winning 2 = .ok (.aload_n 0, 1) := by decide +kernel
theorem dL_winning_3 : decode cL_winning 3 = .ok (.invokevirtual 88, 3) := by decide +kernel
theorem dL_winning_6 : decode cL_winning 6 = .ok (.i2l, 1) := by decide +kernel
theorem dL_winning_7 : decode cL_winning 7 = .ok (.lastore, 1) := by decide +kernel
theorem dL_winning_8 : decode cL_winning 8 = .ok (.goto 6, 3) := by decide +kernel
theorem dL_winning_11 : decode cL_winning 11 = .ok (.astore_n 2, 1) := by decide +kernel
theorem dL_winning_12 : decode cL_winning 12 = .ok (.iconst 1, 1) := by decide +kernel
theorem dL_winning_13 : decode cL_winning 13 = .ok (.ireturn, 1) := by decide +kernel
theorem dL_winning_14 : decode cL_winning 14 = .ok (.iconst 0, 1) := by decide +kernel
theorem dL_winning_15 : decode cL_winning 15 = .ok (.ireturn, 1) := by decide +kernel
def wp_L_winning (fu : Nat) (σ : SX) (f : Nat → Int64) (P : Int32 → SX → (Nat → Int64) → Prop) : Prop := wp_X3_winning fu σ (fun r s => P 0 s (vp_updL f 0 (Int32.toInt64 r))) (fun E s => (E = "java/util/NoSuchElementException" ∧ P 1 s f))
set_option maxHeartbeats 4000000 in
set_option maxRecDepth 100000 in
theorem m_L_winning (l : Launch) (hl9 : l.stackTraces = false) (dC : Nat → ClassId) (dI : Nat → Nat → Nat) (h : Nat → Nat) (cy : Nat → ClassId) (sa : Nat → Nat) (o sz : Nat) (fu : Nat) (σ : SX) (f : Nat → Int64) (P : Int32 → SX → (Nat → Int64) → Prop) (hF : wp_L_winning fu σ f P) : Met l yL_winning (wsH yL_winning cL_winning 3 (some .int) [(0, 8, 11, 29)]) ({ frames := 7, cells := 1, slots := 6, locals := 111 } : Room) (va_Pc [.ref (h 16), .ref o] (PcW dC dI cy sa (wO h cy o σ f) sz)) (va_Qi (fun r (u : SX × (Nat → Int64)) => P r u.1 u.2) (fun (u : SX × (Nat → Int64)) t => va_P (dC, dI) classes (wO h cy o u.1 u.2) t.heap ∧ va_D (va_A (wO h cy o σ f) sz) (wO h cy o u.1 u.2)) (va_A (wO h cy o σ f) sz)) 1 6 (va_A (wO h cy o σ f) sz) := by
  refine Met.ofCxH (own := RL) (by decide) rfl (Nat.le_of_ble_eq_true rfl) ?_
  intro p e s m below meth c hC htab hv ls hl
  obtain ⟨hx, hb, hr, hml, hown, hts, hlocks⟩ := hC
  have hl : lv_has ls 3 [(0, .ref (h 16)), (1, .ref o)] := hl
  obtain ⟨⟨hsz, hP, hK, hD0, hXS, hXZ⟩, hN⟩ := hv
  subst hsz
  have hD := hD0.self (sz := s.heap.size)
  generalize hAe : va_A (wO h cy o σ f) s.heap.size = A at hD hXZ ⊢
  have hA : ∀ q : Nat, s.heap.size ≤ q → A q := fun q h => by rw [← hAe]; exact Or.inr h
  have hS : va_S A s.heap s.heap [] := va_S.rf
  clear hAe
  unfold wp_L_winning at hF
  refine lv_aload_n hx hb dL_winning_0 rfl (lv_at hl 1 rfl) ?_
  refine lv_iconst (v := 0) hx hb dL_winning_1 (by decide) ?_
  refine lv_aload_n hx hb dL_winning_2 rfl (lv_at hl 0 rfl) ?_
  refine lwCall (q0 := 16) (x := wH h cy σ) (wn := fun u => wH h cy u) (fp0 _ _) ⟨hx, hb, hr, hml, hown, hts, hlocks⟩ hK hXS hXZ hP hD rfl rfl hS hA (m_X3_winning l hl9 dC dI h cy sa _ fu σ _ _ hF) (As := []) (rest := [.int 0, .ref o]) k_X3_winning q828 ⟨rfl, rfl⟩ ⟨Nat.le_of_ble_eq_true rfl, Nat.le_of_ble_eq_true rfl⟩ hl.1 rfl rfl (Nat.le_of_ble_eq_true rfl) dL_winning_3 ⟨Nat.le_of_ble_eq_true rfl, Nat.le_of_ble_eq_true rfl⟩ (fun E ce q9 u H1 locs hX hP hD hS hce hcv hcl9 => ?_) (fun r u H1 locs hF hP hD hS => ?_)
  · obtain ⟨rfl, hX⟩ := hX
    refine lwCatch hown htab 0 (e0 := 0) (e1 := 8) (hp := 11) (ct := 29) rfl (by decide) (by decide) (hts _ q569) (va_Nw.use rfl (hK.2.2.2.2.2.2.2.2.2.2.1 _ (List.mem_of_getElem? (i := 3) rfl))) (fun w hw => absurd hw List.not_mem_nil) hce hcv hcl9 ?_
    refine lv_astore_n (lv' := [(2, .ref q9), (0, .ref (h 16)), (1, .ref o)]) hx hb dL_winning_11 rfl hl (by decide) rfl (fun ls hl => ?_)
    refine lv_iconst (v := 1) hx hb dL_winning_12 (by decide) ?_
    exact W.iret (v := 1) hx hb hr (fun t ht hW => ⟨⟨1, (u, f), rfl, hX, by rw [ht]; exact hP, hD⟩, hS.F ht⟩) hS.2.2 dL_winning_13
  · have hP : va_P (dC, dI) classes (wO h cy o u f) H1 := hP
    refine lv_i2l hx hb dL_winning_6 rfl ?_
    refine va_last hx hb hK.1 hP hD hS 21 1 rfl rfl (show vp_in 0 1 from vp_in_nI (n := 0) (by omega) (by omega)) dL_winning_7 (fun H2 locs hP hD hS => ?_)
    have hP : va_P (dC, dI) classes (wO h cy o u (vp_updL f 0 (Int32.toInt64 r))) H2 := hP
    have hD : va_D A (wO h cy o u (vp_updL f 0 (Int32.toInt64 r))) := hD
    refine lv_goto (tgt := 14) hx hb dL_winning_8 (by decide) ?_
    refine lv_iconst (v := 0) hx hb dL_winning_14 (by decide) ?_
    exact W.iret (v := 0) hx hb hr (fun t ht hW => ⟨⟨0, (u, vp_updL f 0 (Int32.toInt64 r)), rfl, hF, by rw [ht]; exact hP, hD⟩, hS.F ht⟩) hS.2.2 dL_winning_15
theorem dL_tell_0 : decode cL_tell 0 = .ok (.aload_n 2, 1) := by decide +kernel
theorem dL_tell_1 : decode cL_tell 1 = .ok (.iconst 0, 1) := by decide +kernel
theorem dL_tell_2 : decode cL_tell 2 = .ok (.aload_n 0, 1) := by decide +kernel
theorem dL_tell_3 : decode cL_tell 3 = .ok (.iload_n 1, 1) := by decide +kernel
theorem dL_tell_4 : decode cL_tell 4 = .ok (.invokevirtual 91, 3) := by decide +kernel
theorem dL_tell_7 : decode cL_tell 7 = .ok (.i2l, 1) := by decide +kernel
theorem dL_tell_8 : decode cL_tell 8 = .ok (.lastore, 1) := by decide +kernel
theorem dL_tell_9 : decode cL_tell 9 = .ok (.goto 9, 3) := by decide +kernel
theorem dL_tell_12 : decode cL_tell 12 = .ok (.astore_n 3, 1) := by decide +kernel
theorem dL_tell_13 : decode cL_tell 13 = .ok (.iconst 1, 1) := by decide +kernel
theorem dL_tell_14 : decode cL_tell 14 = .ok (.ireturn, 1) := by decide +kernel
theorem dL_tell_15 : decode cL_tell 15 = .ok (.astore_n 3, 1) := by decide +kernel
theorem dL_tell_16 : decode cL_tell 16 = .ok (.iconst 2, 1) := by decide +kernel
theorem dL_tell_17 : decode cL_tell 17 = .ok (.ireturn, 1) := by decide +kernel
theorem dL_tell_18 : decode cL_tell 18 = .ok (.iconst 0, 1) := by decide +kernel
theorem dL_tell_19 : decode cL_tell 19 = .ok (.ireturn, 1) := by decide +kernel
def wp_L_tell (σ : SX) (f : Nat → Int64) (x1 : Int32) (P : Int32 → SX → (Nat → Int64) → Prop) : Prop := wp_X3_tell σ x1 (fun r s => P 0 s (vp_updL f 0 (Int32.toInt64 r))) (fun E s => (E = "java/lang/IndexOutOfBoundsException" ∧ P 1 s f) ∨ (E = "java/lang/IllegalStateException" ∧ P 2 s f))
set_option maxHeartbeats 4000000 in
set_option maxRecDepth 100000 in
theorem m_L_tell (l : Launch) (hl9 : l.stackTraces = false) (dC : Nat → ClassId) (dI : Nat → Nat → Nat) (h : Nat → Nat) (cy : Nat → ClassId) (sa : Nat → Nat) (o sz : Nat) (σ : SX) (f : Nat → Int64) (x1 : Int32) (P : Int32 → SX → (Nat → Int64) → Prop) (hF : wp_L_tell σ f x1 P) : Met l yL_tell (wsH yL_tell cL_tell 4 (some .int) [(0, 9, 12, 34), (0, 9, 15, 21)]) ({ frames := 8, cells := 2, slots := 12, locals := 132 } : Room) (va_Pc [.ref (h 16), .int x1, .ref o] (PcW dC dI cy sa (wO h cy o σ f) sz)) (va_Qi (fun r (u : SX × (Nat → Int64)) => P r u.1 u.2) (fun (u : SX × (Nat → Int64)) t => va_P (dC, dI) classes (wO h cy o u.1 u.2) t.heap ∧ va_D (va_A (wO h cy o σ f) sz) (wO h cy o u.1 u.2)) (va_A (wO h cy o σ f) sz)) 2 12 (va_A (wO h cy o σ f) sz) := by
  refine Met.ofCxH (own := RL) (by decide) rfl (Nat.le_of_ble_eq_true rfl) ?_
  intro p e s m below meth c hC htab hv ls hl
  obtain ⟨hx, hb, hr, hml, hown, hts, hlocks⟩ := hC
  have hl : lv_has ls 4 [(0, .ref (h 16)), (1, .int x1), (2, .ref o)] := hl
  obtain ⟨⟨hsz, hP, hK, hD0, hXS, hXZ⟩, hN⟩ := hv
  subst hsz
  have hD := hD0.self (sz := s.heap.size)
  generalize hAe : va_A (wO h cy o σ f) s.heap.size = A at hD hXZ ⊢
  have hA : ∀ q : Nat, s.heap.size ≤ q → A q := fun q h => by rw [← hAe]; exact Or.inr h
  have hS : va_S A s.heap s.heap [] := va_S.rf
  clear hAe
  unfold wp_L_tell at hF
  refine lv_aload_n hx hb dL_tell_0 rfl (lv_at hl 2 rfl) ?_
  refine lv_iconst (v := 0) hx hb dL_tell_1 (by decide) ?_
  refine lv_aload_n hx hb dL_tell_2 rfl (lv_at hl 0 rfl) ?_
  refine lv_iload_n hx hb dL_tell_3 rfl (lv_at hl 1 rfl) ?_
  refine lwCall (q0 := 16) (x := wH h cy σ) (wn := fun u => wH h cy u) (fp0 _ _) ⟨hx, hb, hr, hml, hown, hts, hlocks⟩ hK hXS hXZ hP hD rfl rfl hS hA (m_X3_tell l hl9 dC dI h cy sa _ σ x1 _ _ hF) (As := [.int x1]) (rest := [.int 0, .ref o]) k_X3_tell q836 ⟨rfl, rfl⟩ ⟨Nat.le_of_ble_eq_true rfl, Nat.le_of_ble_eq_true rfl⟩ hl.1 rfl rfl (Nat.le_of_ble_eq_true rfl) dL_tell_4 ⟨Nat.le_of_ble_eq_true rfl, Nat.le_of_ble_eq_true rfl⟩ (fun E ce q9 u H1 locs hX hP hD hS hce hcv hcl9 => ?_) (fun r u H1 locs hF hP hD hS => ?_)
  · rcases hX with ⟨rfl, hX⟩ | ⟨rfl, hX⟩
    · refine lwCatch hown htab 0 (e0 := 0) (e1 := 9) (hp := 12) (ct := 34) rfl (by decide) (by decide) (hts _ q592) (va_Nw.use rfl (hK.2.2.2.2.2.2.2.2.2.2.1 _ (List.mem_of_getElem? (i := 5) rfl))) (fun w hw => absurd hw List.not_mem_nil) hce hcv hcl9 ?_
      refine lv_astore_n (lv' := [(3, .ref q9), (0, .ref (h 16)), (1, .int x1), (2, .ref o)]) hx hb dL_tell_12 rfl hl (by decide) rfl (fun ls hl => ?_)
      refine lv_iconst (v := 1) hx hb dL_tell_13 (by decide) ?_
      exact W.iret (v := 1) hx hb hr (fun t ht hW => ⟨⟨1, (u, f), rfl, hX, by rw [ht]; exact hP, hD⟩, hS.F ht⟩) hS.2.2 dL_tell_14
    · refine lwCatch hown htab 1 (e0 := 0) (e1 := 9) (hp := 15) (ct := 21) rfl (by decide) (by decide) (hts _ q503) (va_Nw.use rfl (hK.2.2.2.2.2.2.2.2.2.2.1 _ (List.mem_of_getElem? (i := 2) rfl))) (fun w hw => ?_) hce hcv hcl9 ?_
      · obtain rfl : w = (0, 9, 12, 34) := by simpa using hw
        exact ⟨by decide, "java/lang/IndexOutOfBoundsException", hts _ q592, hN _ (List.mem_of_getElem? (i := 22) rfl)⟩
      · refine lv_astore_n (lv' := [(3, .ref q9), (0, .ref (h 16)), (1, .int x1), (2, .ref o)]) hx hb dL_tell_15 rfl hl (by decide) rfl (fun ls hl => ?_)
        refine lv_iconst (v := 2) hx hb dL_tell_16 (by decide) ?_
        exact W.iret (v := 2) hx hb hr (fun t ht hW => ⟨⟨2, (u, f), rfl, hX, by rw [ht]; exact hP, hD⟩, hS.F ht⟩) hS.2.2 dL_tell_17
  · have hP : va_P (dC, dI) classes (wO h cy o u f) H1 := hP
    refine lv_i2l hx hb dL_tell_7 rfl ?_
    refine va_last hx hb hK.1 hP hD hS 21 1 rfl rfl (show vp_in 0 1 from vp_in_nI (n := 0) (by omega) (by omega)) dL_tell_8 (fun H2 locs hP hD hS => ?_)
    have hP : va_P (dC, dI) classes (wO h cy o u (vp_updL f 0 (Int32.toInt64 r))) H2 := hP
    have hD : va_D A (wO h cy o u (vp_updL f 0 (Int32.toInt64 r))) := hD
    refine lv_goto (tgt := 18) hx hb dL_tell_9 (by decide) ?_
    refine lv_iconst (v := 0) hx hb dL_tell_18 (by decide) ?_
    exact W.iret (v := 0) hx hb hr (fun t ht hW => ⟨⟨0, (u, vp_updL f 0 (Int32.toInt64 r)), rfl, hF, by rw [ht]; exact hP, hD⟩, hS.F ht⟩) hS.2.2 dL_tell_19
theorem dL_play_0 : decode cL_play 0 = .ok (.aload_n 1, 1) := by decide +kernel
theorem dL_play_1 : decode cL_play 1 = .ok (.iconst 0, 1) := by decide +kernel
theorem dL_play_2 : decode cL_play 2 = .ok (.aload_n 0, 1) := by decide +kernel
theorem dL_play_3 : decode cL_play 3 = .ok (.invokevirtual 94, 3) := by decide +kernel
theorem dL_play_6 : decode cL_play 6 = .ok (.i2l, 1) := by decide +kernel
theorem dL_play_7 : decode cL_play 7 = .ok (.lastore, 1) := by decide +kernel
theorem dL_play_8 : decode cL_play 8 = .ok (.goto 6, 3) := by decide +kernel
theorem dL_play_11 : decode cL_play 11 = .ok (.astore_n 2, 1) := by decide +kernel
theorem dL_play_12 : decode cL_play 12 = .ok (.iconst 1, 1) := by decide +kernel
theorem dL_play_13 : decode cL_play 13 = .ok (.ireturn, 1) := by decide +kernel
theorem dL_play_14 : decode cL_play 14 = .ok (.iconst 0, 1) := by decide +kernel
theorem dL_play_15 : decode cL_play 15 = .ok (.ireturn, 1) := by decide +kernel
def wp_L_play (fu : Nat) (σ : SX) (f : Nat → Int64) (P : Int32 → SX → (Nat → Int64) → Prop) : Prop := wp_X3_play fu σ (fun r s => P 0 s (vp_updL f 0 (Int32.toInt64 r))) (fun E s => (E = "java/lang/UnsupportedOperationException" ∧ P 1 s f))
set_option maxHeartbeats 4000000 in
set_option maxRecDepth 100000 in
theorem m_L_play (l : Launch) (hl9 : l.stackTraces = false) (dC : Nat → ClassId) (dI : Nat → Nat → Nat) (h : Nat → Nat) (cy : Nat → ClassId) (sa : Nat → Nat) (o sz : Nat) (fu : Nat) (σ : SX) (f : Nat → Int64) (P : Int32 → SX → (Nat → Int64) → Prop) (hF : wp_L_play fu σ f P) : Met l yL_play (wsH yL_play cL_play 3 (some .int) [(0, 8, 11, 19)]) ({ frames := 7, cells := 1, slots := 6, locals := 114 } : Room) (va_Pc [.ref (h 16), .ref o] (PcW dC dI cy sa (wO h cy o σ f) sz)) (va_Qi (fun r (u : SX × (Nat → Int64)) => P r u.1 u.2) (fun (u : SX × (Nat → Int64)) t => va_P (dC, dI) classes (wO h cy o u.1 u.2) t.heap ∧ va_D (va_A (wO h cy o σ f) sz) (wO h cy o u.1 u.2)) (va_A (wO h cy o σ f) sz)) 1 6 (va_A (wO h cy o σ f) sz) := by
  refine Met.ofCxH (own := RL) (by decide) rfl (Nat.le_of_ble_eq_true rfl) ?_
  intro p e s m below meth c hC htab hv ls hl
  obtain ⟨hx, hb, hr, hml, hown, hts, hlocks⟩ := hC
  have hl : lv_has ls 3 [(0, .ref (h 16)), (1, .ref o)] := hl
  obtain ⟨⟨hsz, hP, hK, hD0, hXS, hXZ⟩, hN⟩ := hv
  subst hsz
  have hD := hD0.self (sz := s.heap.size)
  generalize hAe : va_A (wO h cy o σ f) s.heap.size = A at hD hXZ ⊢
  have hA : ∀ q : Nat, s.heap.size ≤ q → A q := fun q h => by rw [← hAe]; exact Or.inr h
  have hS : va_S A s.heap s.heap [] := va_S.rf
  clear hAe
  unfold wp_L_play at hF
  refine lv_aload_n hx hb dL_play_0 rfl (lv_at hl 1 rfl) ?_
  refine lv_iconst (v := 0) hx hb dL_play_1 (by decide) ?_
  refine lv_aload_n hx hb dL_play_2 rfl (lv_at hl 0 rfl) ?_
  refine lwCall (q0 := 16) (x := wH h cy σ) (wn := fun u => wH h cy u) (fp0 _ _) ⟨hx, hb, hr, hml, hown, hts, hlocks⟩ hK hXS hXZ hP hD rfl rfl hS hA (m_X3_play l hl9 dC dI h cy sa _ fu σ _ _ hF) (As := []) (rest := [.int 0, .ref o]) k_X3_play q844 ⟨rfl, rfl⟩ ⟨Nat.le_of_ble_eq_true rfl, Nat.le_of_ble_eq_true rfl⟩ hl.1 rfl rfl (Nat.le_of_ble_eq_true rfl) dL_play_3 ⟨Nat.le_of_ble_eq_true rfl, Nat.le_of_ble_eq_true rfl⟩ (fun E ce q9 u H1 locs hX hP hD hS hce hcv hcl9 => ?_) (fun r u H1 locs hF hP hD hS => ?_)
  · obtain ⟨rfl, hX⟩ := hX
    refine lwCatch hown htab 0 (e0 := 0) (e1 := 8) (hp := 11) (ct := 19) rfl (by decide) (by decide) (hts _ q502) (va_Nw.use rfl (hK.2.2.2.2.2.2.2.2.2.2.1 _ (List.mem_of_getElem? (i := 1) rfl))) (fun w hw => absurd hw List.not_mem_nil) hce hcv hcl9 ?_
    refine lv_astore_n (lv' := [(2, .ref q9), (0, .ref (h 16)), (1, .ref o)]) hx hb dL_play_11 rfl hl (by decide) rfl (fun ls hl => ?_)
    refine lv_iconst (v := 1) hx hb dL_play_12 (by decide) ?_
    exact W.iret (v := 1) hx hb hr (fun t ht hW => ⟨⟨1, (u, f), rfl, hX, by rw [ht]; exact hP, hD⟩, hS.F ht⟩) hS.2.2 dL_play_13
  · have hP : va_P (dC, dI) classes (wO h cy o u f) H1 := hP
    refine lv_i2l hx hb dL_play_6 rfl ?_
    refine va_last hx hb hK.1 hP hD hS 21 1 rfl rfl (show vp_in 0 1 from vp_in_nI (n := 0) (by omega) (by omega)) dL_play_7 (fun H2 locs hP hD hS => ?_)
    have hP : va_P (dC, dI) classes (wO h cy o u (vp_updL f 0 (Int32.toInt64 r))) H2 := hP
    have hD : va_D A (wO h cy o u (vp_updL f 0 (Int32.toInt64 r))) := hD
    refine lv_goto (tgt := 14) hx hb dL_play_8 (by decide) ?_
    refine lv_iconst (v := 0) hx hb dL_play_14 (by decide) ?_
    exact W.iret (v := 0) hx hb hr (fun t ht hW => ⟨⟨0, (u, vp_updL f 0 (Int32.toInt64 r)), rfl, hF, by rw [ht]; exact hP, hD⟩, hS.F ht⟩) hS.2.2 dL_play_15
theorem dL_faultAt_0 : decode cL_faultAt 0 = .ok (.aload_n 1, 1) := by decide +kernel
theorem dL_faultAt_1 : decode cL_faultAt 1 = .ok (.iconst 0, 1) := by decide +kernel
theorem dL_faultAt_2 : decode cL_faultAt 2 = .ok (.aload_n 0, 1) := by decide +kernel
theorem dL_faultAt_3 : decode cL_faultAt 3 = .ok (.invokevirtual 97, 3) := by decide +kernel
theorem dL_faultAt_6 : decode cL_faultAt 6 = .ok (.i2l, 1) := by decide +kernel
theorem dL_faultAt_7 : decode cL_faultAt 7 = .ok (.lastore, 1) := by decide +kernel
theorem dL_faultAt_8 : decode cL_faultAt 8 = .ok (.goto 6, 3) := by decide +kernel
theorem dL_faultAt_11 : decode cL_faultAt 11 = .ok (.astore_n 2, 1) := by decide +kernel
theorem dL_faultAt_12 : decode cL_faultAt 12 = .ok (.iconst 1, 1) := by decide +kernel
theorem dL_faultAt_13 : decode cL_faultAt 13 = .ok (.ireturn, 1) := by decide +kernel
theorem dL_faultAt_14 : decode cL_faultAt 14 = .ok (.iconst 0, 1) := by decide +kernel
theorem dL_faultAt_15 : decode cL_faultAt 15 = .ok (.ireturn, 1) := by decide +kernel
def wp_L_faultAt (fu : Nat) (σ : SX) (f : Nat → Int64) (P : Int32 → SX → (Nat → Int64) → Prop) : Prop := wp_X3_faultAt fu σ (fun r s => P 0 s (vp_updL f 0 (Int32.toInt64 r))) (fun E s => (E = "java/util/NoSuchElementException" ∧ P 1 s f))
set_option maxHeartbeats 4000000 in
set_option maxRecDepth 100000 in
theorem m_L_faultAt (l : Launch) (hl9 : l.stackTraces = false) (dC : Nat → ClassId) (dI : Nat → Nat → Nat) (h : Nat → Nat) (cy : Nat → ClassId) (sa : Nat → Nat) (o sz : Nat) (fu : Nat) (σ : SX) (f : Nat → Int64) (P : Int32 → SX → (Nat → Int64) → Prop) (hF : wp_L_faultAt fu σ f P) : Met l yL_faultAt (wsH yL_faultAt cL_faultAt 3 (some .int) [(0, 8, 11, 29)]) ({ frames := 7, cells := 1, slots := 6, locals := 111 } : Room) (va_Pc [.ref (h 16), .ref o] (PcW dC dI cy sa (wO h cy o σ f) sz)) (va_Qi (fun r (u : SX × (Nat → Int64)) => P r u.1 u.2) (fun (u : SX × (Nat → Int64)) t => va_P (dC, dI) classes (wO h cy o u.1 u.2) t.heap ∧ va_D (va_A (wO h cy o σ f) sz) (wO h cy o u.1 u.2)) (va_A (wO h cy o σ f) sz)) 1 6 (va_A (wO h cy o σ f) sz) := by
  refine Met.ofCxH (own := RL) (by decide) rfl (Nat.le_of_ble_eq_true rfl) ?_
  intro p e s m below meth c hC htab hv ls hl
  obtain ⟨hx, hb, hr, hml, hown, hts, hlocks⟩ := hC
  have hl : lv_has ls 3 [(0, .ref (h 16)), (1, .ref o)] := hl
  obtain ⟨⟨hsz, hP, hK, hD0, hXS, hXZ⟩, hN⟩ := hv
  subst hsz
  have hD := hD0.self (sz := s.heap.size)
  generalize hAe : va_A (wO h cy o σ f) s.heap.size = A at hD hXZ ⊢
  have hA : ∀ q : Nat, s.heap.size ≤ q → A q := fun q h => by rw [← hAe]; exact Or.inr h
  have hS : va_S A s.heap s.heap [] := va_S.rf
  clear hAe
  unfold wp_L_faultAt at hF
  refine lv_aload_n hx hb dL_faultAt_0 rfl (lv_at hl 1 rfl) ?_
  refine lv_iconst (v := 0) hx hb dL_faultAt_1 (by decide) ?_
  refine lv_aload_n hx hb dL_faultAt_2 rfl (lv_at hl 0 rfl) ?_
  refine lwCall (q0 := 16) (x := wH h cy σ) (wn := fun u => wH h cy u) (fp0 _ _) ⟨hx, hb, hr, hml, hown, hts, hlocks⟩ hK hXS hXZ hP hD rfl rfl hS hA (m_X3_faultAt l hl9 dC dI h cy sa _ fu σ _ _ hF) (As := []) (rest := [.int 0, .ref o]) k_X3_faultAt q856 ⟨rfl, rfl⟩ ⟨Nat.le_of_ble_eq_true rfl, Nat.le_of_ble_eq_true rfl⟩ hl.1 rfl rfl (Nat.le_of_ble_eq_true rfl) dL_faultAt_3 ⟨Nat.le_of_ble_eq_true rfl, Nat.le_of_ble_eq_true rfl⟩ (fun E ce q9 u H1 locs hX hP hD hS hce hcv hcl9 => ?_) (fun r u H1 locs hF hP hD hS => ?_)
  · obtain ⟨rfl, hX⟩ := hX
    refine lwCatch hown htab 0 (e0 := 0) (e1 := 8) (hp := 11) (ct := 29) rfl (by decide) (by decide) (hts _ q569) (va_Nw.use rfl (hK.2.2.2.2.2.2.2.2.2.2.1 _ (List.mem_of_getElem? (i := 3) rfl))) (fun w hw => absurd hw List.not_mem_nil) hce hcv hcl9 ?_
    refine lv_astore_n (lv' := [(2, .ref q9), (0, .ref (h 16)), (1, .ref o)]) hx hb dL_faultAt_11 rfl hl (by decide) rfl (fun ls hl => ?_)
    refine lv_iconst (v := 1) hx hb dL_faultAt_12 (by decide) ?_
    exact W.iret (v := 1) hx hb hr (fun t ht hW => ⟨⟨1, (u, f), rfl, hX, by rw [ht]; exact hP, hD⟩, hS.F ht⟩) hS.2.2 dL_faultAt_13
  · have hP : va_P (dC, dI) classes (wO h cy o u f) H1 := hP
    refine lv_i2l hx hb dL_faultAt_6 rfl ?_
    refine va_last hx hb hK.1 hP hD hS 21 1 rfl rfl (show vp_in 0 1 from vp_in_nI (n := 0) (by omega) (by omega)) dL_faultAt_7 (fun H2 locs hP hD hS => ?_)
    have hP : va_P (dC, dI) classes (wO h cy o u (vp_updL f 0 (Int32.toInt64 r))) H2 := hP
    have hD : va_D A (wO h cy o u (vp_updL f 0 (Int32.toInt64 r))) := hD
    refine lv_goto (tgt := 14) hx hb dL_faultAt_8 (by decide) ?_
    refine lv_iconst (v := 0) hx hb dL_faultAt_14 (by decide) ?_
    exact W.iret (v := 0) hx hb hr (fun t ht hW => ⟨⟨0, (u, vp_updL f 0 (Int32.toInt64 r)), rfl, hF, by rw [ht]; exact hP, hD⟩, hS.F ht⟩) hS.2.2 dL_faultAt_15
theorem dL_pegBits_0 : decode cL_pegBits 0 = .ok (.aload_n 1, 1) := by decide +kernel
theorem dL_pegBits_1 : decode cL_pegBits 1 = .ok (.iconst 0, 1) := by decide +kernel
theorem dL_pegBits_2 : decode cL_pegBits 2 = .ok (.aload_n 0, 1) := by decide +kernel
theorem dL_pegBits_3 : decode cL_pegBits 3 = .ok (.invokevirtual 100, 3) := by decide +kernel
theorem dL_pegBits_6 : decode cL_pegBits 6 = .ok (.i2l, 1) := by decide +kernel
theorem dL_pegBits_7 : decode cL_pegBits 7 = .ok (.lastore, 1) := by decide +kernel
theorem dL_pegBits_8 : decode cL_pegBits 8 = .ok (.goto 6, 3) := by decide +kernel
theorem dL_pegBits_11 : decode cL_pegBits 11 = .ok (.astore_n 2, 1) := by decide +kernel
theorem dL_pegBits_12 : decode cL_pegBits 12 = .ok (.iconst 1, 1) := by decide +kernel
theorem dL_pegBits_13 : decode cL_pegBits 13 = .ok (.ireturn, 1) := by decide +kernel
theorem dL_pegBits_14 : decode cL_pegBits 14 = .ok (.iconst 0, 1) := by decide +kernel
theorem dL_pegBits_15 : decode cL_pegBits 15 = .ok (.ireturn, 1) := by decide +kernel
def wp_L_pegBits (fu : Nat) (σ : SX) (f : Nat → Int64) (P : Int32 → SX → (Nat → Int64) → Prop) : Prop := wp_X3_pegBits fu σ (fun r s => P 0 s (vp_updL f 0 (Int32.toInt64 r))) (fun E s => (E = "java/lang/ArithmeticException" ∧ P 1 s f))
set_option maxHeartbeats 4000000 in
set_option maxRecDepth 100000 in
theorem m_L_pegBits (l : Launch) (hl9 : l.stackTraces = false) (dC : Nat → ClassId) (dI : Nat → Nat → Nat) (h : Nat → Nat) (cy : Nat → ClassId) (sa : Nat → Nat) (o sz : Nat) (fu : Nat) (σ : SX) (f : Nat → Int64) (P : Int32 → SX → (Nat → Int64) → Prop) (hF : wp_L_pegBits fu σ f P) : Met l yL_pegBits (wsH yL_pegBits cL_pegBits 3 (some .int) [(0, 8, 11, 103)]) ({ frames := 7, cells := 1, slots := 6, locals := 111 } : Room) (va_Pc [.ref (h 16), .ref o] (PcW dC dI cy sa (wO h cy o σ f) sz)) (va_Qi (fun r (u : SX × (Nat → Int64)) => P r u.1 u.2) (fun (u : SX × (Nat → Int64)) t => va_P (dC, dI) classes (wO h cy o u.1 u.2) t.heap ∧ va_D (va_A (wO h cy o σ f) sz) (wO h cy o u.1 u.2)) (va_A (wO h cy o σ f) sz)) 1 6 (va_A (wO h cy o σ f) sz) := by
  refine Met.ofCxH (own := RL) (by decide) rfl (Nat.le_of_ble_eq_true rfl) ?_
  intro p e s m below meth c hC htab hv ls hl
  obtain ⟨hx, hb, hr, hml, hown, hts, hlocks⟩ := hC
  have hl : lv_has ls 3 [(0, .ref (h 16)), (1, .ref o)] := hl
  obtain ⟨⟨hsz, hP, hK, hD0, hXS, hXZ⟩, hN⟩ := hv
  subst hsz
  have hD := hD0.self (sz := s.heap.size)
  generalize hAe : va_A (wO h cy o σ f) s.heap.size = A at hD hXZ ⊢
  have hA : ∀ q : Nat, s.heap.size ≤ q → A q := fun q h => by rw [← hAe]; exact Or.inr h
  have hS : va_S A s.heap s.heap [] := va_S.rf
  clear hAe
  unfold wp_L_pegBits at hF
  refine lv_aload_n hx hb dL_pegBits_0 rfl (lv_at hl 1 rfl) ?_
  refine lv_iconst (v := 0) hx hb dL_pegBits_1 (by decide) ?_
  refine lv_aload_n hx hb dL_pegBits_2 rfl (lv_at hl 0 rfl) ?_
  refine lwCall (q0 := 16) (x := wH h cy σ) (wn := fun u => wH h cy u) (fp0 _ _) ⟨hx, hb, hr, hml, hown, hts, hlocks⟩ hK hXS hXZ hP hD rfl rfl hS hA (m_X3_pegBits l hl9 dC dI h cy sa _ fu σ _ _ hF) (As := []) (rest := [.int 0, .ref o]) k_X3_pegBits q878 ⟨rfl, rfl⟩ ⟨Nat.le_of_ble_eq_true rfl, Nat.le_of_ble_eq_true rfl⟩ hl.1 rfl rfl (Nat.le_of_ble_eq_true rfl) dL_pegBits_3 ⟨Nat.le_of_ble_eq_true rfl, Nat.le_of_ble_eq_true rfl⟩ (fun E ce q9 u H1 locs hX hP hD hS hce hcv hcl9 => ?_) (fun r u H1 locs hF hP hD hS => ?_)
  · obtain ⟨rfl, hX⟩ := hX
    refine lwCatch hown htab 0 (e0 := 0) (e1 := 8) (hp := 11) (ct := 103) rfl (by decide) (by decide) (hts _ q864) (va_Nw.use rfl (hK.2.2.2.2.2.2.2.2.2.2.1 _ (List.mem_of_getElem? (i := 6) rfl))) (fun w hw => absurd hw List.not_mem_nil) hce hcv hcl9 ?_
    refine lv_astore_n (lv' := [(2, .ref q9), (0, .ref (h 16)), (1, .ref o)]) hx hb dL_pegBits_11 rfl hl (by decide) rfl (fun ls hl => ?_)
    refine lv_iconst (v := 1) hx hb dL_pegBits_12 (by decide) ?_
    exact W.iret (v := 1) hx hb hr (fun t ht hW => ⟨⟨1, (u, f), rfl, hX, by rw [ht]; exact hP, hD⟩, hS.F ht⟩) hS.2.2 dL_pegBits_13
  · have hP : va_P (dC, dI) classes (wO h cy o u f) H1 := hP
    refine lv_i2l hx hb dL_pegBits_6 rfl ?_
    refine va_last hx hb hK.1 hP hD hS 21 1 rfl rfl (show vp_in 0 1 from vp_in_nI (n := 0) (by omega) (by omega)) dL_pegBits_7 (fun H2 locs hP hD hS => ?_)
    have hP : va_P (dC, dI) classes (wO h cy o u (vp_updL f 0 (Int32.toInt64 r))) H2 := hP
    have hD : va_D A (wO h cy o u (vp_updL f 0 (Int32.toInt64 r))) := hD
    refine lv_goto (tgt := 14) hx hb dL_pegBits_8 (by decide) ?_
    refine lv_iconst (v := 0) hx hb dL_pegBits_14 (by decide) ?_
    exact W.iret (v := 0) hx hb hr (fun t ht hW => ⟨⟨0, (u, vp_updL f 0 (Int32.toInt64 r)), rfl, hF, by rw [ht]; exact hP, hD⟩, hS.F ht⟩) hS.2.2 dL_pegBits_15
