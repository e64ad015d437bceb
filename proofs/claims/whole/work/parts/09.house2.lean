theorem dX3_requireHole_0 : decode cX3_requireHole 0 = .ok (.iload_n 1, 1) := by decide +kernel
theorem dX3_requireHole_1 : decode cX3_requireHole 1 = .ok (.ifCond .lt 14, 3) := by decide +kernel
theorem dX3_requireHole_4 : decode cX3_requireHole 4 = .ok (.iload_n 1, 1) := by decide +kernel
theorem dX3_requireHole_5 : decode cX3_requireHole 5 = .ok (.aload_n 0, 1) := by decide +kernel
theorem dX3_requireHole_6 : decode cX3_requireHole 6 = .ok (.getfield 10, 3) := by decide +kernel
theorem dX3_requireHole_9 : decode cX3_requireHole 9 = .ok (.invokevirtual 67, 3) := by decide +kernel
theorem dX3_requireHole_12 : decode cX3_requireHole 12 = .ok (.if_icmp .lt 14, 3) := by decide +kernel
theorem dX3_requireHole_15 : decode cX3_requireHole 15 = .ok (.new 281, 3) := by decide +kernel
theorem dX3_requireHole_18 : decode cX3_requireHole 18 = .ok (.dup, 1) := by decide +kernel
theorem dX3_requireHole_19 : decode cX3_requireHole 19 = .ok (.ldc_w 283, 3) := by decide +kernel
theorem dX3_requireHole_22 : decode cX3_requireHole 22 = .ok (.invokespecial 285, 3) := by decide +kernel
theorem dX3_requireHole_25 : decode cX3_requireHole 25 = .ok (.athrow, 1) := by decide +kernel
theorem dX3_requireHole_26 : decode cX3_requireHole 26 = .ok (.return_, 1) := by decide +kernel
def wp_X3_requireHole (σ : SX) (x1 : Int32) (P : SX → Prop) (X : String → SX → Prop) : Prop := ((x1 < 0 → (X "java/lang/IndexOutOfBoundsException" σ)) ∧ (¬ x1 < 0 → (wp_X0_holes σ  (fun r9 => ((x1 < r9 → (P σ)) ∧ (¬ x1 < r9 → (X "java/lang/IndexOutOfBoundsException" σ)))))))
theorem k_X3_requireHole : KV RX3 yX3_requireHole cX3_requireHole 2 none 1 := ⟨q622, qs15, q1, q623, by decide +kernel⟩
set_option maxHeartbeats 4000000 in
set_option maxRecDepth 100000 in
theorem m_X3_requireHole (l : Launch) (hl9 : l.stackTraces = false) (dC : Nat → ClassId) (dI : Nat → Nat → Nat) (h : Nat → Nat) (cy : Nat → ClassId) (sa : Nat → Nat) (sz : Nat) (σ : SX) (x1 : Int32) (P : SX → Prop) (X : String → SX → Prop) (hF : wp_X3_requireHole σ x1 P X) : vx_Met l yX3_requireHole (ws_ yX3_requireHole cX3_requireHole 2 none) ({ frames := 6, cells := 1, slots := 6, locals := 90 } : Room) (va_Pc [.ref (h 16), .int x1] (PcT dC dI cy sa (wH h cy σ) sz)) (va_Qv (fun u => P u) (fun (u : SX) t => va_P (dC, dI) classes (wH h cy u) t.heap ∧ va_D (va_A (wH h cy σ) sz) (wH h cy u)) (va_A (wH h cy σ) sz)) (QxT dC dI (fun (u : SX) => wH h cy u) X (va_A (wH h cy σ) sz)) 1 6 (va_A (wH h cy σ) sz) := by
  refine vx_Met.ofCx (own := RX3) (by decide) rfl (Nat.le_of_ble_eq_true rfl) ?_
  intro p e s m below meth c hC hno hv ls hl
  obtain ⟨hx, hb, hr, hml, hown, hts, hlocks⟩ := hC
  have hl : lv_has ls 2 [(0, .ref (h 16)), (1, .int x1)] := hl
  obtain ⟨hsz, hP, hK, hD0, hXS, hXZ⟩ := hv
  subst hsz
  have hD := hD0.self (sz := s.heap.size)
  generalize hAe : va_A (wH h cy σ) s.heap.size = A at hD hXZ ⊢
  have hA : ∀ q : Nat, s.heap.size ≤ q → A q := fun q h => by rw [← hAe]; exact Or.inr h
  have hS : va_S A s.heap s.heap [] := va_S.rf
  clear hAe
  unfold wp_X3_requireHole at hF
  refine lv_iload_n hx hb dX3_requireHole_0 rfl (lv_at hl 1 rfl) ?_
  refine lv_if_lt (tgt := 15) hx hb dX3_requireHole_1 (by decide) (fun cz => ?_) (fun cz => ?_)
  · have hF := hF.1 cz
    exact thrSW (u := σ) (wn := fun (u : SX) => wH h cy u) (X := X) ⟨hx, hb, hr, hml, hown, hts, hlocks⟩ hno hl9 hK.2 rfl hXS hXZ hS hl.1 hP hD 5 rfl at_281_285 dX3_requireHole_15 dX3_requireHole_18 dX3_requireHole_19 dX3_requireHole_22 dX3_requireHole_25 (Nat.le_of_ble_eq_true rfl) (Nat.le_of_ble_eq_true rfl) (Nat.le_of_ble_eq_true rfl) (Nat.le_of_ble_eq_true rfl) (Nat.le_of_ble_eq_true rfl) (Nat.le_of_ble_eq_true rfl) hF
  · have hF := hF.2 cz
    refine lv_iload_n hx hb dX3_requireHole_4 rfl (lv_at hl 1 rfl) ?_
    refine lv_aload_n hx hb dX3_requireHole_5 rfl (lv_at hl 0 rfl) ?_
    refine va_get (D := (dC, dI)) (ci := 3) (v := .ref (h 0)) (C := RX3) (T := TX3) (N := 6) hx hb hts in_X3 hown hK.1 hP 16 rfl rfl 0 (by decide) (hts _ q141) (fun _ h9 => h9) rfl dX3_requireHole_6 ?_
    have hPc := hP.sub (ws' := wB h cy σ) [0, 1, 2, 3, 4, 5, 6, 7, 8, 9, 10, 11] rfl
    refine cpVi (q0 := 0) (As := []) (rest := [.int x1]) ⟨hx, hb, hr, hml, hown, hts, hlocks⟩ hK hPc rfl rfl (m_X0_holes l dC dI h cy σ  _ hF) k_X0_holes q350 ⟨rfl, rfl⟩ ⟨Nat.le_of_ble_eq_true rfl, Nat.le_of_ble_eq_true rfl⟩ hl.1 rfl rfl (Nat.le_of_ble_eq_true rfl) dX3_requireHole_9 ⟨Nat.le_of_ble_eq_true rfl, Nat.le_of_ble_eq_true rfl⟩ (fun r9 hF => ?_)
    refine lv_icmp_lt (tgt := 26) hx hb dX3_requireHole_12 (by decide) (fun cz => ?_) (fun cz => ?_)
    · have hF := hF.1 cz
      refine vx_ret (W.widen (k := 1) (n := 6) (Nat.le_of_ble_eq_true rfl) (Nat.le_of_ble_eq_true rfl) ?_)
      exact W.vret hx hb hr (fun t ht hW => ⟨⟨σ, rfl, hF, by rw [ht]; exact hP, hD⟩, hS.F ht⟩) hS.2.2 dX3_requireHole_26
    · have hF := hF.2 cz
      exact thrSW (u := σ) (wn := fun (u : SX) => wH h cy u) (X := X) ⟨hx, hb, hr, hml, hown, hts, hlocks⟩ hno hl9 hK.2 rfl hXS hXZ hS hl.1 hP hD 5 rfl at_281_285 dX3_requireHole_15 dX3_requireHole_18 dX3_requireHole_19 dX3_requireHole_22 dX3_requireHole_25 (Nat.le_of_ble_eq_true rfl) (Nat.le_of_ble_eq_true rfl) (Nat.le_of_ble_eq_true rfl) (Nat.le_of_ble_eq_true rfl) (Nat.le_of_ble_eq_true rfl) (Nat.le_of_ble_eq_true rfl) hF
theorem dX3_cell_0 : decode cX3_cell 0 = .ok (.aload_n 0, 1) := by decide +kernel
theorem dX3_cell_1 : decode cX3_cell 1 = .ok (.iload_n 1, 1) := by decide +kernel
theorem dX3_cell_2 : decode cX3_cell 2 = .ok (.invokevirtual 98, 3) := by decide +kernel
theorem dX3_cell_5 : decode cX3_cell 5 = .ok (.aload_n 0, 1) := by decide +kernel
theorem dX3_cell_6 : decode cX3_cell 6 = .ok (.getfield 10, 3) := by decide +kernel
theorem dX3_cell_9 : decode cX3_cell 9 = .ok (.iload_n 1, 1) := by decide +kernel
theorem dX3_cell_10 : decode cX3_cell 10 = .ok (.invokevirtual 101, 3) := by decide +kernel
theorem dX3_cell_13 : decode cX3_cell 13 = .ok (.ireturn, 1) := by decide +kernel
def wp_X3_cell (σ : SX) (x1 : Int32) (P : Int32 → SX → Prop) (X : String → SX → Prop) : Prop := (wp_X3_requireHole σ x1 (fun s2 => (wp_X0_cellOf s2 x1 (fun r10 => (P r10 s2)))) X)
theorem k_X3_cell : KV RX3 yX3_cell cX3_cell 2 (some .int) 1 := ⟨q617, q618, q1, q619, by decide +kernel⟩
set_option maxHeartbeats 4000000 in
set_option maxRecDepth 100000 in
theorem m_X3_cell (l : Launch) (hl9 : l.stackTraces = false) (dC : Nat → ClassId) (dI : Nat → Nat → Nat) (h : Nat → Nat) (cy : Nat → ClassId) (sa : Nat → Nat) (sz : Nat) (σ : SX) (x1 : Int32) (P : Int32 → SX → Prop) (X : String → SX → Prop) (hF : wp_X3_cell σ x1 P X) : vx_Met l yX3_cell (ws_ yX3_cell cX3_cell 2 (some .int)) ({ frames := 7, cells := 1, slots := 6, locals := 111 } : Room) (va_Pc [.ref (h 16), .int x1] (PcT dC dI cy sa (wH h cy σ) sz)) (va_Qi (fun r u => P r u) (fun (u : SX) t => va_P (dC, dI) classes (wH h cy u) t.heap ∧ va_D (va_A (wH h cy σ) sz) (wH h cy u)) (va_A (wH h cy σ) sz)) (QxT dC dI (fun (u : SX) => wH h cy u) X (va_A (wH h cy σ) sz)) 1 6 (va_A (wH h cy σ) sz) := by
  refine vx_Met.ofCx (own := RX3) (by decide) rfl (Nat.le_of_ble_eq_true rfl) ?_
  intro p e s m below meth c hC hno hv ls hl
  obtain ⟨hx, hb, hr, hml, hown, hts, hlocks⟩ := hC
  have hl : lv_has ls 2 [(0, .ref (h 16)), (1, .int x1)] := hl
  obtain ⟨hsz, hP, hK, hD0, hXS, hXZ⟩ := hv
  subst hsz
  have hD := hD0.self (sz := s.heap.size)
  generalize hAe : va_A (wH h cy σ) s.heap.size = A at hD hXZ ⊢
  have hA : ∀ q : Nat, s.heap.size ≤ q → A q := fun q h => by rw [← hAe]; exact Or.inr h
  have hS : va_S A s.heap s.heap [] := va_S.rf
  clear hAe
  unfold wp_X3_cell at hF
  refine lv_aload_n hx hb dX3_cell_0 rfl (lv_at hl 0 rfl) ?_
  refine lv_iload_n hx hb dX3_cell_1 rfl (lv_at hl 1 rfl) ?_
  have hFc := va_free (wc := wH h cy σ) hD hS hA [0, 1, 2, 3, 4, 5, 6, 7, 8, 9, 10, 11, 12, 13, 14, 15, 16, 17, 18, 19, 20] rfl
  refine cxVv (q0 := 16) (As := [.int x1]) (rest := []) ⟨hx, hb, hr, hml, hown, hts, hlocks⟩ hno hK hXS hXZ hP hD rfl rfl hS hFc (m_X3_requireHole l hl9 dC dI h cy sa _ σ x1 _ X hF) k_X3_requireHole q620 ⟨rfl, rfl⟩ ⟨Nat.le_of_ble_eq_true rfl, Nat.le_of_ble_eq_true rfl⟩ hl.1 rfl rfl (Nat.le_of_ble_eq_true rfl) dX3_cell_2 ⟨Nat.le_of_ble_eq_true rfl, Nat.le_of_ble_eq_true rfl⟩ ⟨Nat.le_of_ble_eq_true rfl, Nat.le_of_ble_eq_true rfl⟩ (fun u H1 locs hF hP1 hD1 hS => ?_)
  obtain ⟨s2, rfl⟩ : ∃ z, z = u := ⟨_, rfl⟩
  have hP := hP1
  have hD := hD1
  generalize H1 = H at hP hS ⊢
  have hP : va_P (dC, dI) classes (wH h cy s2) H := hP
  have hD : va_D A (wH h cy s2) := hD
  refine lv_aload_n hx hb dX3_cell_5 rfl (lv_at hl 0 rfl) ?_
  refine va_get (D := (dC, dI)) (ci := 3) (v := .ref (h 0)) (C := RX3) (T := TX3) (N := 6) hx hb hts in_X3 hown hK.1 hP 16 rfl rfl 0 (by decide) (hts _ q141) (fun _ h9 => h9) rfl dX3_cell_6 ?_
  refine lv_iload_n hx hb dX3_cell_9 rfl (lv_at hl 1 rfl) ?_
  have hPc := hP.sub (ws' := wB h cy s2) [0, 1, 2, 3, 4, 5, 6, 7, 8, 9, 10, 11] rfl
  refine cpVi (q0 := 0) (As := [.int x1]) (rest := []) ⟨hx, hb, hr, hml, hown, hts, hlocks⟩ hK hPc rfl rfl (m_X0_cellOf l dC dI h cy s2 x1 _ hF) k_X0_cellOf q355 ⟨rfl, rfl⟩ ⟨Nat.le_of_ble_eq_true rfl, Nat.le_of_ble_eq_true rfl⟩ hl.1 rfl rfl (Nat.le_of_ble_eq_true rfl) dX3_cell_10 ⟨Nat.le_of_ble_eq_true rfl, Nat.le_of_ble_eq_true rfl⟩ (fun r10 hF => ?_)
  refine vx_ret (W.widen (k := 1) (n := 6) (Nat.le_of_ble_eq_true rfl) (Nat.le_of_ble_eq_true rfl) ?_)
  exact W.iret (v := r10) hx hb hr (fun t ht hW => ⟨⟨r10, s2, rfl, hF, by rw [ht]; exact hP, hD⟩, hS.F ht⟩) hS.2.2 dX3_cell_13
theorem dX3_requireColouring_0 : decode cX3_requireColouring 0 = .ok (.iload_n 0, 1) := by decide +kernel
theorem dX3_requireColouring_1 : decode cX3_requireColouring 1 = .ok (.ifCond .lt 8, 3) := by decide +kernel
theorem dX3_requireColouring_4 : decode cX3_requireColouring 4 = .ok (.iload_n 0, 1) := by decide +kernel
theorem dX3_requireColouring_5 : decode cX3_requireColouring 5 = .ok (.iconst 2, 1) := by decide +kernel
theorem dX3_requireColouring_6 : decode cX3_requireColouring 6 = .ok (.if_icmp .lt 14, 3) := by decide +kernel
theorem dX3_requireColouring_9 : decode cX3_requireColouring 9 = .ok (.new 37, 3) := by decide +kernel
theorem dX3_requireColouring_12 : decode cX3_requireColouring 12 = .ok (.dup, 1) := by decide +kernel
theorem dX3_requireColouring_13 : decode cX3_requireColouring 13 = .ok (.ldc_w 288, 3) := by decide +kernel
theorem dX3_requireColouring_16 : decode cX3_requireColouring 16 = .ok (.invokespecial 41, 3) := by decide +kernel
theorem dX3_requireColouring_19 : decode cX3_requireColouring 19 = .ok (.athrow, 1) := by decide +kernel
theorem dX3_requireColouring_20 : decode cX3_requireColouring 20 = .ok (.return_, 1) := by decide +kernel
def wp_X3_requireColouring (x0 : Int32) (P : Prop) (X : String → Prop) : Prop := ((x0 < 0 → (X "java/lang/IllegalArgumentException")) ∧ (¬ x0 < 0 → ((x0 < 2 → (P)) ∧ (¬ x0 < 2 → (X "java/lang/IllegalArgumentException")))))
theorem k_X3_requireColouring : KS yX3_requireColouring cX3_requireColouring 1 none 1 := ⟨q814, q1, q815, by decide +kernel⟩
set_option maxHeartbeats 4000000 in
set_option maxRecDepth 100000 in
theorem m_X3_requireColouring (l : Launch) (hl9 : l.stackTraces = false) (dC : Nat → ClassId) (dI : Nat → Nat → Nat) (cy : Nat → ClassId) (sa : Nat → Nat) (sz : Nat) (x0 : Int32) (P : Prop) (X : String → Prop) (hF : wp_X3_requireColouring x0 P X) : vx_Met l yX3_requireColouring (ws_ yX3_requireColouring cX3_requireColouring 1 none) ({ frames := 6, cells := 1, slots := 6, locals := 90 } : Room) (va_Pc [.int x0] (PcT dC dI cy sa (([] : va_W)) sz)) (va_Qv (fun u => P ) (fun (u : Unit) t => va_P (dC, dI) classes (([] : va_W)) t.heap ∧ va_D (va_A (([] : va_W)) sz) (([] : va_W))) (va_A (([] : va_W)) sz)) (QxT dC dI (fun (u : Unit) => ([] : va_W)) (fun E _ => X E) (va_A (([] : va_W)) sz)) 1 6 (va_A (([] : va_W)) sz) := by
  refine vx_Met.ofCx (own := RX3) (by decide) rfl (Nat.le_of_ble_eq_true rfl) ?_
  intro p e s m below meth c hC hno hv ls hl
  obtain ⟨hx, hb, hr, hml, hown, hts, hlocks⟩ := hC
  have hl : lv_has ls 1 [(0, .int x0)] := hl
  obtain ⟨hsz, hP, hK, hD0, hXS, hXZ⟩ := hv
  subst hsz
  have hD := hD0.self (sz := s.heap.size)
  generalize hAe : va_A (([] : va_W)) s.heap.size = A at hD hXZ ⊢
  have hA : ∀ q : Nat, s.heap.size ≤ q → A q := fun q h => by rw [← hAe]; exact Or.inr h
  have hS : va_S A s.heap s.heap [] := va_S.rf
  clear hAe
  unfold wp_X3_requireColouring at hF
  refine lv_iload_n hx hb dX3_requireColouring_0 rfl (lv_at hl 0 rfl) ?_
  refine lv_if_lt (tgt := 9) hx hb dX3_requireColouring_1 (by decide) (fun cz => ?_) (fun cz => ?_)
  · have hF := hF.1 cz
    exact thrSW (u := ()) (wn := fun (_ : Unit) => ([] : va_W)) (X := fun E _ => X E) ⟨hx, hb, hr, hml, hown, hts, hlocks⟩ hno hl9 hK.2 rfl hXS hXZ hS hl.1 hP hD 16 rfl at_37_41 dX3_requireColouring_9 dX3_requireColouring_12 dX3_requireColouring_13 dX3_requireColouring_16 dX3_requireColouring_19 (Nat.le_of_ble_eq_true rfl) (Nat.le_of_ble_eq_true rfl) (Nat.le_of_ble_eq_true rfl) (Nat.le_of_ble_eq_true rfl) (Nat.le_of_ble_eq_true rfl) (Nat.le_of_ble_eq_true rfl) hF
  · have hF := hF.2 cz
    refine lv_iload_n hx hb dX3_requireColouring_4 rfl (lv_at hl 0 rfl) ?_
    refine lv_iconst (v := 2) hx hb dX3_requireColouring_5 (by decide) ?_
    refine lv_icmp_lt (tgt := 20) hx hb dX3_requireColouring_6 (by decide) (fun cz => ?_) (fun cz => ?_)
    · have hF := hF.1 cz
      refine vx_ret (W.widen (k := 1) (n := 6) (Nat.le_of_ble_eq_true rfl) (Nat.le_of_ble_eq_true rfl) ?_)
      exact W.vret hx hb hr (fun t ht hW => ⟨⟨(), rfl, hF, by rw [ht]; exact hP, hD⟩, hS.F ht⟩) hS.2.2 dX3_requireColouring_20
    · have hF := hF.2 cz
      exact thrSW (u := ()) (wn := fun (_ : Unit) => ([] : va_W)) (X := fun E _ => X E) ⟨hx, hb, hr, hml, hown, hts, hlocks⟩ hno hl9 hK.2 rfl hXS hXZ hS hl.1 hP hD 16 rfl at_37_41 dX3_requireColouring_9 dX3_requireColouring_12 dX3_requireColouring_13 dX3_requireColouring_16 dX3_requireColouring_19 (Nat.le_of_ble_eq_true rfl) (Nat.le_of_ble_eq_true rfl) (Nat.le_of_ble_eq_true rfl) (Nat.le_of_ble_eq_true rfl) (Nat.le_of_ble_eq_true rfl) (Nat.le_of_ble_eq_true rfl) hF
theorem dX3_colour_0 : decode cX3_colour 0 = .ok (.aload_n 0, 1) := by decide +kernel
theorem dX3_colour_1 : decode cX3_colour 1 = .ok (.iload_n 1, 1) := by decide +kernel
theorem dX3_colour_2 : decode cX3_colour 2 = .ok (.invokevirtual 98, 3) := by decide +kernel
theorem dX3_colour_5 : decode cX3_colour 5 = .ok (.iload_n 2, 1) := by decide +kernel
theorem dX3_colour_6 : decode cX3_colour 6 = .ok (.invokestatic 230, 3) := by decide +kernel
theorem dX3_colour_9 : decode cX3_colour 9 = .ok (.aload_n 0, 1) := by decide +kernel
theorem dX3_colour_10 : decode cX3_colour 10 = .ok (.getfield 10, 3) := by decide +kernel
theorem dX3_colour_13 : decode cX3_colour 13 = .ok (.iload_n 1, 1) := by decide +kernel
theorem dX3_colour_14 : decode cX3_colour 14 = .ok (.iload_n 2, 1) := by decide +kernel
theorem dX3_colour_15 : decode cX3_colour 15 = .ok (.invokevirtual 233, 3) := by decide +kernel
theorem dX3_colour_18 : decode cX3_colour 18 = .ok (.ireturn, 1) := by decide +kernel
def wp_X3_colour (σ : SX) (x1 : Int32) (x2 : Int32) (P : Int32 → SX → Prop) (X : String → SX → Prop) : Prop := (wp_X3_requireHole σ x1 (fun s2 => (wp_X3_requireColouring x2 (wp_X0_colourOf s2 x1 x2 (fun r15 => (P r15 s2))) (fun E => X E s2))) X)
theorem k_X3_colour : KV RX3 yX3_colour cX3_colour 3 (some .int) 2 := ⟨q810, q811, q1, q812, by decide +kernel⟩
set_option maxHeartbeats 4000000 in
set_option maxRecDepth 100000 in
theorem m_X3_colour (l : Launch) (hl9 : l.stackTraces = false) (dC : Nat → ClassId) (dI : Nat → Nat → Nat) (h : Nat → Nat) (cy : Nat → ClassId) (sa : Nat → Nat) (sz : Nat) (σ : SX) (x1 : Int32) (x2 : Int32) (P : Int32 → SX → Prop) (X : String → SX → Prop) (hF : wp_X3_colour σ x1 x2 P X) : vx_Met l yX3_colour (ws_ yX3_colour cX3_colour 3 (some .int)) ({ frames := 7, cells := 2, slots := 12, locals := 111 } : Room) (va_Pc [.ref (h 16), .int x1, .int x2] (PcT dC dI cy sa (wH h cy σ) sz)) (va_Qi (fun r u => P r u) (fun (u : SX) t => va_P (dC, dI) classes (wH h cy u) t.heap ∧ va_D (va_A (wH h cy σ) sz) (wH h cy u)) (va_A (wH h cy σ) sz)) (QxT dC dI (fun (u : SX) => wH h cy u) X (va_A (wH h cy σ) sz)) 2 12 (va_A (wH h cy σ) sz) := by
  refine vx_Met.ofCx (own := RX3) (by decide) rfl (Nat.le_of_ble_eq_true rfl) ?_
  intro p e s m below meth c hC hno hv ls hl
  obtain ⟨hx, hb, hr, hml, hown, hts, hlocks⟩ := hC
  have hl : lv_has ls 3 [(0, .ref (h 16)), (1, .int x1), (2, .int x2)] := hl
  obtain ⟨hsz, hP, hK, hD0, hXS, hXZ⟩ := hv
  subst hsz
  have hD := hD0.self (sz := s.heap.size)
  generalize hAe : va_A (wH h cy σ) s.heap.size = A at hD hXZ ⊢
  have hA : ∀ q : Nat, s.heap.size ≤ q → A q := fun q h => by rw [← hAe]; exact Or.inr h
  have hS : va_S A s.heap s.heap [] := va_S.rf
  clear hAe
  unfold wp_X3_colour at hF
  refine lv_aload_n hx hb dX3_colour_0 rfl (lv_at hl 0 rfl) ?_
  refine lv_iload_n hx hb dX3_colour_1 rfl (lv_at hl 1 rfl) ?_
  have hFc := va_free (wc := wH h cy σ) hD hS hA [0, 1, 2, 3, 4, 5, 6, 7, 8, 9, 10, 11, 12, 13, 14, 15, 16, 17, 18, 19, 20] rfl
  refine cxVv (q0 := 16) (As := [.int x1]) (rest := []) ⟨hx, hb, hr, hml, hown, hts, hlocks⟩ hno hK hXS hXZ hP hD rfl rfl hS hFc (m_X3_requireHole l hl9 dC dI h cy sa _ σ x1 _ X hF) k_X3_requireHole q620 ⟨rfl, rfl⟩ ⟨Nat.le_of_ble_eq_true rfl, Nat.le_of_ble_eq_true rfl⟩ hl.1 rfl rfl (Nat.le_of_ble_eq_true rfl) dX3_colour_2 ⟨Nat.le_of_ble_eq_true rfl, Nat.le_of_ble_eq_true rfl⟩ ⟨Nat.le_of_ble_eq_true rfl, Nat.le_of_ble_eq_true rfl⟩ (fun u H1 locs hF hP1 hD1 hS => ?_)
  obtain ⟨s2, rfl⟩ : ∃ z, z = u := ⟨_, rfl⟩
  have hP := hP1
  have hD := hD1
  generalize H1 = H at hP hS ⊢
  have hP : va_P (dC, dI) classes (wH h cy s2) H := hP
  have hD : va_D A (wH h cy s2) := hD
  refine lv_iload_n hx hb dX3_colour_5 rfl (lv_at hl 2 rfl) ?_
  refine cxSv (u := s2) (wn := fun u => wH h cy u) (As := [.int x2]) (rest := []) ⟨hx, hb, hr, hml, hown, hts, hlocks⟩ hno hK hXS hXZ hP hD hS hA (m_X3_requireColouring l hl9 dC dI cy sa _ x2 _ (fun E => X E s2) hF) k_X3_requireColouring q813 ⟨rfl, rfl⟩ ⟨Nat.le_of_ble_eq_true rfl, Nat.le_of_ble_eq_true rfl⟩ hl.1 rfl rfl (Nat.le_of_ble_eq_true rfl) dX3_colour_6 ⟨Nat.le_of_ble_eq_true rfl, Nat.le_of_ble_eq_true rfl⟩ ⟨Nat.le_of_ble_eq_true rfl, Nat.le_of_ble_eq_true rfl⟩ (fun H1 locs hF hP1 hS => ?_)
  have hP := hP1
  generalize H1 = H at hP hS ⊢
  have hP : va_P (dC, dI) classes (wH h cy s2) H := hP
  refine lv_aload_n hx hb dX3_colour_9 rfl (lv_at hl 0 rfl) ?_
  refine va_get (D := (dC, dI)) (ci := 3) (v := .ref (h 0)) (C := RX3) (T := TX3) (N := 6) hx hb hts in_X3 hown hK.1 hP 16 rfl rfl 0 (by decide) (hts _ q141) (fun _ h9 => h9) rfl dX3_colour_10 ?_
  refine lv_iload_n hx hb dX3_colour_13 rfl (lv_at hl 1 rfl) ?_
  refine lv_iload_n hx hb dX3_colour_14 rfl (lv_at hl 2 rfl) ?_
  have hPc := hP.sub (ws' := wB h cy s2) [0, 1, 2, 3, 4, 5, 6, 7, 8, 9, 10, 11] rfl
  refine cpVi (q0 := 0) (As := [.int x1, .int x2]) (rest := []) ⟨hx, hb, hr, hml, hown, hts, hlocks⟩ hK hPc rfl rfl (m_X0_colourOf l dC dI h cy s2 x1 x2 _ hF) k_X0_colourOf q817 ⟨rfl, rfl⟩ ⟨Nat.le_of_ble_eq_true rfl, Nat.le_of_ble_eq_true rfl⟩ hl.1 rfl rfl (Nat.le_of_ble_eq_true rfl) dX3_colour_15 ⟨Nat.le_of_ble_eq_true rfl, Nat.le_of_ble_eq_true rfl⟩ (fun r15 hF => ?_)
  refine vx_ret (W.widen (k := 2) (n := 12) (Nat.le_of_ble_eq_true rfl) (Nat.le_of_ble_eq_true rfl) ?_)
  exact W.iret (v := r15) hx hb hr (fun t ht hW => ⟨⟨r15, s2, rfl, hF, by rw [ht]; exact hP, hD⟩, hS.F ht⟩) hS.2.2 dX3_colour_18
theorem dX3_requireCell_0 : decode cX3_requireCell 0 = .ok (.iload_n 0, 1) := by decide +kernel
theorem dX3_requireCell_1 : decode cX3_requireCell 1 = .ok (.ifCond .lt 9, 3) := by decide +kernel
theorem dX3_requireCell_4 : decode cX3_requireCell 4 = .ok (.iload_n 0, 1) := by decide +kernel
theorem dX3_requireCell_5 : decode cX3_requireCell 5 = .ok (.bipush 25, 2) := by decide +kernel
theorem dX3_requireCell_7 : decode cX3_requireCell 7 = .ok (.if_icmp .lt 14, 3) := by decide +kernel
theorem dX3_requireCell_10 : decode cX3_requireCell 10 = .ok (.new 37, 3) := by decide +kernel
theorem dX3_requireCell_13 : decode cX3_requireCell 13 = .ok (.dup, 1) := by decide +kernel
theorem dX3_requireCell_14 : decode cX3_requireCell 14 = .ok (.ldc_w 279, 3) := by decide +kernel
theorem dX3_requireCell_17 : decode cX3_requireCell 17 = .ok (.invokespecial 41, 3) := by decide +kernel
theorem dX3_requireCell_20 : decode cX3_requireCell 20 = .ok (.athrow, 1) := by decide +kernel
theorem dX3_requireCell_21 : decode cX3_requireCell 21 = .ok (.return_, 1) := by decide +kernel
def wp_X3_requireCell (x0 : Int32) (P : Prop) (X : String → Prop) : Prop := ((x0 < 0 → (X "java/lang/IllegalArgumentException")) ∧ (¬ x0 < 0 → ((x0 < 25 → (P)) ∧ (¬ x0 < 25 → (X "java/lang/IllegalArgumentException")))))
theorem k_X3_requireCell : KS yX3_requireCell cX3_requireCell 1 none 1 := ⟨q509, q1, q510, by decide +kernel⟩
set_option maxHeartbeats 4000000 in
set_option maxRecDepth 100000 in
theorem m_X3_requireCell (l : Launch) (hl9 : l.stackTraces = false) (dC : Nat → ClassId) (dI : Nat → Nat → Nat) (cy : Nat → ClassId) (sa : Nat → Nat) (sz : Nat) (x0 : Int32) (P : Prop) (X : String → Prop) (hF : wp_X3_requireCell x0 P X) : vx_Met l yX3_requireCell (ws_ yX3_requireCell cX3_requireCell 1 none) ({ frames := 6, cells := 1, slots := 6, locals := 90 } : Room) (va_Pc [.int x0] (PcT dC dI cy sa (([] : va_W)) sz)) (va_Qv (fun u => P ) (fun (u : Unit) t => va_P (dC, dI) classes (([] : va_W)) t.heap ∧ va_D (va_A (([] : va_W)) sz) (([] : va_W))) (va_A (([] : va_W)) sz)) (QxT dC dI (fun (u : Unit) => ([] : va_W)) (fun E _ => X E) (va_A (([] : va_W)) sz)) 1 6 (va_A (([] : va_W)) sz) := by
  refine vx_Met.ofCx (own := RX3) (by decide) rfl (Nat.le_of_ble_eq_true rfl) ?_
  intro p e s m below meth c hC hno hv ls hl
  obtain ⟨hx, hb, hr, hml, hown, hts, hlocks⟩ := hC
  have hl : lv_has ls 1 [(0, .int x0)] := hl
  obtain ⟨hsz, hP, hK, hD0, hXS, hXZ⟩ := hv
  subst hsz
  have hD := hD0.self (sz := s.heap.size)
  generalize hAe : va_A (([] : va_W)) s.heap.size = A at hD hXZ ⊢
  have hA : ∀ q : Nat, s.heap.size ≤ q → A q := fun q h => by rw [← hAe]; exact Or.inr h
  have hS : va_S A s.heap s.heap [] := va_S.rf
  clear hAe
  unfold wp_X3_requireCell at hF
  refine lv_iload_n hx hb dX3_requireCell_0 rfl (lv_at hl 0 rfl) ?_
  refine lv_if_lt (tgt := 10) hx hb dX3_requireCell_1 (by decide) (fun cz => ?_) (fun cz => ?_)
  · have hF := hF.1 cz
    exact thrSW (u := ()) (wn := fun (_ : Unit) => ([] : va_W)) (X := fun E _ => X E) ⟨hx, hb, hr, hml, hown, hts, hlocks⟩ hno hl9 hK.2 rfl hXS hXZ hS hl.1 hP hD 1 rfl at_37_41 dX3_requireCell_10 dX3_requireCell_13 dX3_requireCell_14 dX3_requireCell_17 dX3_requireCell_20 (Nat.le_of_ble_eq_true rfl) (Nat.le_of_ble_eq_true rfl) (Nat.le_of_ble_eq_true rfl) (Nat.le_of_ble_eq_true rfl) (Nat.le_of_ble_eq_true rfl) (Nat.le_of_ble_eq_true rfl) hF
  · have hF := hF.2 cz
    refine lv_iload_n hx hb dX3_requireCell_4 rfl (lv_at hl 0 rfl) ?_
    refine lv_bipush (v := 25) hx hb dX3_requireCell_5 (by decide) ?_
    refine lv_icmp_lt (tgt := 21) hx hb dX3_requireCell_7 (by decide) (fun cz => ?_) (fun cz => ?_)
    · have hF := hF.1 cz
      refine vx_ret (W.widen (k := 1) (n := 6) (Nat.le_of_ble_eq_true rfl) (Nat.le_of_ble_eq_true rfl) ?_)
      exact W.vret hx hb hr (fun t ht hW => ⟨⟨(), rfl, hF, by rw [ht]; exact hP, hD⟩, hS.F ht⟩) hS.2.2 dX3_requireCell_21
    · have hF := hF.2 cz
      exact thrSW (u := ()) (wn := fun (_ : Unit) => ([] : va_W)) (X := fun E _ => X E) ⟨hx, hb, hr, hml, hown, hts, hlocks⟩ hno hl9 hK.2 rfl hXS hXZ hS hl.1 hP hD 1 rfl at_37_41 dX3_requireCell_10 dX3_requireCell_13 dX3_requireCell_14 dX3_requireCell_17 dX3_requireCell_20 (Nat.le_of_ble_eq_true rfl) (Nat.le_of_ble_eq_true rfl) (Nat.le_of_ble_eq_true rfl) (Nat.le_of_ble_eq_true rfl) (Nat.le_of_ble_eq_true rfl) (Nat.le_of_ble_eq_true rfl) hF
theorem dX3_drill_0 : decode cX3_drill 0 = .ok (.iload_n 1, 1) := by decide +kernel
theorem dX3_drill_1 : decode cX3_drill 1 = .ok (.invokestatic 55, 3) := by decide +kernel
theorem dX3_drill_4 : decode cX3_drill 4 = .ok (.aload_n 0, 1) := by decide +kernel
theorem dX3_drill_5 : decode cX3_drill 5 = .ok (.getfield 10, 3) := by decide +kernel
theorem dX3_drill_8 : decode cX3_drill 8 = .ok (.iload_n 1, 1) := by decide +kernel
theorem dX3_drill_9 : decode cX3_drill 9 = .ok (.invokevirtual 58, 3) := by decide +kernel
theorem dX3_drill_12 : decode cX3_drill 12 = .ok (.ifCond .eq 13, 3) := by decide +kernel
theorem dX3_drill_15 : decode cX3_drill 15 = .ok (.new 62, 3) := by decide +kernel
theorem dX3_drill_18 : decode cX3_drill 18 = .ok (.dup, 1) := by decide +kernel
theorem dX3_drill_19 : decode cX3_drill 19 = .ok (.ldc 64, 2) := by decide +kernel
theorem dX3_drill_21 : decode cX3_drill 21 = .ok (.invokespecial 66, 3) := by decide +kernel
theorem dX3_drill_24 : decode cX3_drill 24 = .ok (.athrow, 1) := by decide +kernel
theorem dX3_drill_25 : decode cX3_drill 25 = .ok (.aload_n 0, 1) := by decide +kernel
theorem dX3_drill_26 : decode cX3_drill 26 = .ok (.getfield 10, 3) := by decide +kernel
theorem dX3_drill_29 : decode cX3_drill 29 = .ok (.invokevirtual 67, 3) := by decide +kernel
theorem dX3_drill_32 : decode cX3_drill 32 = .ok (.bipush 13, 2) := by decide +kernel
theorem dX3_drill_34 : decode cX3_drill 34 = .ok (.if_icmp .lt 13, 3) := by decide +kernel
theorem dX3_drill_37 : decode cX3_drill 37 = .ok (.new 71, 3) := by decide +kernel
theorem dX3_drill_40 : decode cX3_drill 40 = .ok (.dup, 1) := by decide +kernel
theorem dX3_drill_41 : decode cX3_drill 41 = .ok (.ldc 73, 2) := by decide +kernel
theorem dX3_drill_43 : decode cX3_drill 43 = .ok (.invokespecial 75, 3) := by decide +kernel
theorem dX3_drill_46 : decode cX3_drill 46 = .ok (.athrow, 1) := by decide +kernel
theorem dX3_drill_47 : decode cX3_drill 47 = .ok (.aload_n 0, 1) := by decide +kernel
theorem dX3_drill_48 : decode cX3_drill 48 = .ok (.getfield 10, 3) := by decide +kernel
theorem dX3_drill_51 : decode cX3_drill 51 = .ok (.iload_n 1, 1) := by decide +kernel
theorem dX3_drill_52 : decode cX3_drill 52 = .ok (.invokevirtual 76, 3) := by decide +kernel
theorem dX3_drill_55 : decode cX3_drill 55 = .ok (.aload_n 0, 1) := by decide +kernel
theorem dX3_drill_56 : decode cX3_drill 56 = .ok (.getfield 10, 3) := by decide +kernel
theorem dX3_drill_59 : decode cX3_drill 59 = .ok (.iload_n 1, 1) := by decide +kernel
theorem dX3_drill_60 : decode cX3_drill 60 = .ok (.invokevirtual 79, 3) := by decide +kernel
theorem dX3_drill_63 : decode cX3_drill 63 = .ok (.istore_n 2, 1) := by decide +kernel
theorem dX3_drill_64 : decode cX3_drill 64 = .ok (.aload_n 0, 1) := by decide +kernel
theorem dX3_drill_65 : decode cX3_drill 65 = .ok (.getfield 83, 3) := by decide +kernel
theorem dX3_drill_68 : decode cX3_drill 68 = .ok (.iconst 1, 1) := by decide +kernel
theorem dX3_drill_69 : decode cX3_drill 69 = .ok (.iload_n 2, 1) := by decide +kernel
theorem dX3_drill_70 : decode cX3_drill 70 = .ok (.ishl, 1) := by decide +kernel
theorem dX3_drill_71 : decode cX3_drill 71 = .ok (.iconst 1, 1) := by decide +kernel
theorem dX3_drill_72 : decode cX3_drill 72 = .ok (.isub, 1) := by decide +kernel
theorem dX3_drill_73 : decode cX3_drill 73 = .ok (.iand, 1) := by decide +kernel
theorem dX3_drill_74 : decode cX3_drill 74 = .ok (.istore_n 3, 1) := by decide +kernel
theorem dX3_drill_75 : decode cX3_drill 75 = .ok (.aload_n 0, 1) := by decide +kernel
theorem dX3_drill_76 : decode cX3_drill 76 = .ok (.iload_n 3, 1) := by decide +kernel
theorem dX3_drill_77 : decode cX3_drill 77 = .ok (.aload_n 0, 1) := by decide +kernel
theorem dX3_drill_78 : decode cX3_drill 78 = .ok (.getfield 83, 3) := by decide +kernel
theorem dX3_drill_81 : decode cX3_drill 81 = .ok (.iload_n 3, 1) := by decide +kernel
theorem dX3_drill_82 : decode cX3_drill 82 = .ok (.isub, 1) := by decide +kernel
theorem dX3_drill_83 : decode cX3_drill 83 = .ok (.iconst 1, 1) := by decide +kernel
theorem dX3_drill_84 : decode cX3_drill 84 = .ok (.ishl, 1) := by decide +kernel
theorem dX3_drill_85 : decode cX3_drill 85 = .ok (.ior, 1) := by decide +kernel
theorem dX3_drill_86 : decode cX3_drill 86 = .ok (.putfield 83, 3) := by decide +kernel
theorem dX3_drill_89 : decode cX3_drill 89 = .ok (.aload_n 0, 1) := by decide +kernel
theorem dX3_drill_90 : decode cX3_drill 90 = .ok (.iconst 0, 1) := by decide +kernel
theorem dX3_drill_91 : decode cX3_drill 91 = .ok (.putfield 87, 3) := by decide +kernel
theorem dX3_drill_94 : decode cX3_drill 94 = .ok (.aload_n 0, 1) := by decide +kernel
theorem dX3_drill_95 : decode cX3_drill 95 = .ok (.invokevirtual 52, 3) := by decide +kernel
theorem dX3_drill_98 : decode cX3_drill 98 = .ok (.aload_n 0, 1) := by decide +kernel
theorem dX3_drill_99 : decode cX3_drill 99 = .ok (.getfield 10, 3) := by decide +kernel
theorem dX3_drill_102 : decode cX3_drill 102 = .ok (.invokevirtual 67, 3) := by decide +kernel
theorem dX3_drill_105 : decode cX3_drill 105 = .ok (.ireturn, 1) := by decide +kernel
def wp_X3_drill (fu : Nat) (σ : SX) (x1 : Int32) (P : Int32 → SX → Prop) (X : String → SX → Prop) : Prop := (wp_X3_requireCell x1 (wp_X0_isHole σ x1 (fun r9 => ((r9 = 0 → (wp_X0_holes σ  (fun r29 => ((r29 < 13 → (wp_X0_open fu σ x1 (fun s52 => (wp_X0_numberOf (mgX0 σ s52) x1 (fun r60 => (wp_X3_forgetAll (sI (sI (mgX0 σ s52) 15 (((σ.1 15) &&& (((1 : Int32) <<< (r60 &&& 31)) - 1)) ||| (((σ.1 15) - ((σ.1 15) &&& (((1 : Int32) <<< (r60 &&& 31)) - 1))) <<< ((1 : Int32) &&& 31)))) 16 0)  (fun s95 => (wp_X0_holes s95  (fun r102 => (P r102 s95)))))))))) ∧ (¬ r29 < 13 → (X "java/lang/IllegalStateException" σ)))))) ∧ (¬ r9 = 0 → (X "java/lang/UnsupportedOperationException" σ))))) (fun E => X E σ))
theorem k_X3_drill : KV RX3 yX3_drill cX3_drill 4 (some .int) 1 := ⟨q505, q506, q1, q507, by decide +kernel⟩
set_option maxHeartbeats 4000000 in
set_option maxRecDepth 100000 in
theorem m_X3_drill (l : Launch) (hl9 : l.stackTraces = false) (dC : Nat → ClassId) (dI : Nat → Nat → Nat) (h : Nat → Nat) (cy : Nat → ClassId) (sa : Nat → Nat) (sz : Nat) (fu : Nat) (σ : SX) (x1 : Int32) (P : Int32 → SX → Prop) (X : String → SX → Prop) (hF : wp_X3_drill fu σ x1 P X) : vx_Met l yX3_drill (ws_ yX3_drill cX3_drill 4 (some .int)) ({ frames := 7, cells := 2, slots := 12, locals := 131 } : Room) (va_Pc [.ref (h 16), .int x1] (PcT dC dI cy sa (wH h cy σ) sz)) (va_Qi (fun r u => P r u) (fun (u : SX) t => va_P (dC, dI) classes (wH h cy u) t.heap ∧ va_D (va_A (wH h cy σ) sz) (wH h cy u)) (va_A (wH h cy σ) sz)) (QxT dC dI (fun (u : SX) => wH h cy u) X (va_A (wH h cy σ) sz)) 2 12 (va_A (wH h cy σ) sz) := by
  refine vx_Met.ofCx (own := RX3) (by decide) rfl (Nat.le_of_ble_eq_true rfl) ?_
  intro p e s m below meth c hC hno hv ls hl
  obtain ⟨hx, hb, hr, hml, hown, hts, hlocks⟩ := hC
  have hl : lv_has ls 4 [(0, .ref (h 16)), (1, .int x1)] := hl
  obtain ⟨hsz, hP, hK, hD0, hXS, hXZ⟩ := hv
  subst hsz
  have hD := hD0.self (sz := s.heap.size)
  generalize hAe : va_A (wH h cy σ) s.heap.size = A at hD hXZ ⊢
  have hA : ∀ q : Nat, s.heap.size ≤ q → A q := fun q h => by rw [← hAe]; exact Or.inr h
  have hS : va_S A s.heap s.heap [] := va_S.rf
  clear hAe
  unfold wp_X3_drill at hF
  refine lv_iload_n hx hb dX3_drill_0 rfl (lv_at hl 1 rfl) ?_
  refine cxSv (u := σ) (wn := fun u => wH h cy u) (As := [.int x1]) (rest := []) ⟨hx, hb, hr, hml, hown, hts, hlocks⟩ hno hK hXS hXZ hP hD hS hA (m_X3_requireCell l hl9 dC dI cy sa _ x1 _ (fun E => X E σ) hF) k_X3_requireCell q508 ⟨rfl, rfl⟩ ⟨Nat.le_of_ble_eq_true rfl, Nat.le_of_ble_eq_true rfl⟩ hl.1 rfl rfl (Nat.le_of_ble_eq_true rfl) dX3_drill_1 ⟨Nat.le_of_ble_eq_true rfl, Nat.le_of_ble_eq_true rfl⟩ ⟨Nat.le_of_ble_eq_true rfl, Nat.le_of_ble_eq_true rfl⟩ (fun H1 locs hF hP1 hS => ?_)
  have hP := hP1
  generalize H1 = H at hP hS ⊢
  have hP : va_P (dC, dI) classes (wH h cy σ) H := hP
  refine lv_aload_n hx hb dX3_drill_4 rfl (lv_at hl 0 rfl) ?_
  refine va_get (D := (dC, dI)) (ci := 3) (v := .ref (h 0)) (C := RX3) (T := TX3) (N := 6) hx hb hts in_X3 hown hK.1 hP 16 rfl rfl 0 (by decide) (hts _ q141) (fun _ h9 => h9) rfl dX3_drill_5 ?_
  refine lv_iload_n hx hb dX3_drill_8 rfl (lv_at hl 1 rfl) ?_
  have hPc := hP.sub (ws' := wB h cy σ) [0, 1, 2, 3, 4, 5, 6, 7, 8, 9, 10, 11] rfl
  refine cpVi (q0 := 0) (As := [.int x1]) (rest := []) ⟨hx, hb, hr, hml, hown, hts, hlocks⟩ hK hPc rfl rfl (m_X0_isHole l dC dI h cy σ x1 _ hF) k_X0_isHole q512 ⟨rfl, rfl⟩ ⟨Nat.le_of_ble_eq_true rfl, Nat.le_of_ble_eq_true rfl⟩ hl.1 rfl rfl (Nat.le_of_ble_eq_true rfl) dX3_drill_9 ⟨Nat.le_of_ble_eq_true rfl, Nat.le_of_ble_eq_true rfl⟩ (fun r9 hF => ?_)
  refine lv_if_eq (tgt := 25) hx hb dX3_drill_12 (by decide) (fun cz => ?_) (fun cz => ?_)
  · have hF := hF.1 cz
    refine lv_aload_n hx hb dX3_drill_25 rfl (lv_at hl 0 rfl) ?_
    refine va_get (D := (dC, dI)) (ci := 3) (v := .ref (h 0)) (C := RX3) (T := TX3) (N := 6) hx hb hts in_X3 hown hK.1 hP 16 rfl rfl 0 (by decide) (hts _ q141) (fun _ h9 => h9) rfl dX3_drill_26 ?_
    have hPc := hP.sub (ws' := wB h cy σ) [0, 1, 2, 3, 4, 5, 6, 7, 8, 9, 10, 11] rfl
    refine cpVi (q0 := 0) (As := []) (rest := []) ⟨hx, hb, hr, hml, hown, hts, hlocks⟩ hK hPc rfl rfl (m_X0_holes l dC dI h cy σ  _ hF) k_X0_holes q350 ⟨rfl, rfl⟩ ⟨Nat.le_of_ble_eq_true rfl, Nat.le_of_ble_eq_true rfl⟩ hl.1 rfl rfl (Nat.le_of_ble_eq_true rfl) dX3_drill_29 ⟨Nat.le_of_ble_eq_true rfl, Nat.le_of_ble_eq_true rfl⟩ (fun r29 hF => ?_)
    refine lv_bipush (v := 13) hx hb dX3_drill_32 (by decide) ?_
    refine lv_icmp_lt (tgt := 47) hx hb dX3_drill_34 (by decide) (fun cz => ?_) (fun cz => ?_)
    · have hF := hF.1 cz
      refine lv_aload_n hx hb dX3_drill_47 rfl (lv_at hl 0 rfl) ?_
      refine va_get (D := (dC, dI)) (ci := 3) (v := .ref (h 0)) (C := RX3) (T := TX3) (N := 6) hx hb hts in_X3 hown hK.1 hP 16 rfl rfl 0 (by decide) (hts _ q141) (fun _ h9 => h9) rfl dX3_drill_48 ?_
      refine lv_iload_n hx hb dX3_drill_51 rfl (lv_at hl 1 rfl) ?_
      have hPc := hP.sub (ws' := wB h cy σ) [0, 1, 2, 3, 4, 5, 6, 7, 8, 9, 10, 11] rfl
      have hDc := hD.sub (ws' := wB h cy σ) [0, 1, 2, 3, 4, 5, 6, 7, 8, 9, 10, 11] (by decide) rfl
      have hFc := va_free (wc := wB h cy σ) hD hS hA [0, 1, 2, 3, 4, 5, 6, 7, 8, 9, 10, 11] rfl
      refine cwVv (q0 := 0) (As := [.int x1]) (rest := []) ⟨hx, hb, hr, hml, hown, hts, hlocks⟩ hK hPc hDc rfl rfl hS hFc (m_X0_open l dC dI h cy _ fu σ x1 _ hF) k_X0_open q545 ⟨rfl, rfl⟩ ⟨Nat.le_of_ble_eq_true rfl, Nat.le_of_ble_eq_true rfl⟩ hl.1 rfl rfl (Nat.le_of_ble_eq_true rfl) dX3_drill_52 ⟨Nat.le_of_ble_eq_true rfl, Nat.le_of_ble_eq_true rfl⟩ (fun u H1 locs hF hP1 hD1 hk1 hS => ?_)
      obtain ⟨s52, rfl⟩ : ∃ z, z = u := ⟨_, rfl⟩
      obtain ⟨hP, hD⟩ := va_join (wr := [(h 12, .inr (2, [.ref (h 0), .ref (h 13), .ref (h 14), .ref (h 15), .int (σ.1 7), .int (σ.1 8), .int (σ.1 9), .int (σ.1 10), .int (σ.1 11), .int (σ.1 12), .int (σ.1 13), .int (σ.1 14)])), (h 13, .inl (cy 0, 8192, .inl (σ.2.1 6))), (h 14, .inl (cy 1, 8192, .inr (.inl (σ.2.2)))), (h 15, .inl (cy 0, 10240, .inl (σ.2.1 7))), (h 16, .inr (3, [.ref (h 0), .ref (h 12), .ref (h 17), .ref (h 19), .int (σ.1 15), .int (σ.1 16)])), (h 17, .inr (1, [.ref (h 18), .int (σ.1 17)])), (h 18, .inl (cy 0, 12, .inl (σ.2.1 8))), (h 19, .inr (1, [.ref (h 20), .int (σ.1 18)])), (h 20, .inl (cy 0, 12, .inl (σ.2.1 9)))]) (w1 := wB h cy s52) hP hD [0, 1, 2, 3, 4, 5, 6, 7, 8, 9, 10, 11] [12, 13, 14, 15, 16, 17, 18, 19, 20] rfl rfl (by decide) (by decide) hk1 hFc hP1 hD1
      have hP := hP.sub (ws' := wH h cy (mgX0 σ s52)) [9, 10, 11, 12, 13, 14, 15, 16, 17, 18, 19, 20, 0, 1, 2, 3, 4, 5, 6, 7, 8] rfl
      have hD := hD.sub (ws' := wH h cy (mgX0 σ s52)) [9, 10, 11, 12, 13, 14, 15, 16, 17, 18, 19, 20, 0, 1, 2, 3, 4, 5, 6, 7, 8] (by decide) rfl
      generalize H1 = H at hP hS ⊢
      have hP : va_P (dC, dI) classes (wH h cy (mgX0 σ s52)) H := hP
      have hD : va_D A (wH h cy (mgX0 σ s52)) := hD
      refine lv_aload_n hx hb dX3_drill_55 rfl (lv_at hl 0 rfl) ?_
      refine va_get (D := (dC, dI)) (ci := 3) (v := .ref (h 0)) (C := RX3) (T := TX3) (N := 6) hx hb hts in_X3 hown hK.1 hP 16 rfl rfl 0 (by decide) (hts _ q141) (fun _ h9 => h9) rfl dX3_drill_56 ?_
      refine lv_iload_n hx hb dX3_drill_59 rfl (lv_at hl 1 rfl) ?_
      have hPc := hP.sub (ws' := wB h cy (mgX0 σ s52)) [0, 1, 2, 3, 4, 5, 6, 7, 8, 9, 10, 11] rfl
      refine cpVi (q0 := 0) (As := [.int x1]) (rest := []) ⟨hx, hb, hr, hml, hown, hts, hlocks⟩ hK hPc rfl rfl (m_X0_numberOf l dC dI h cy (mgX0 σ s52) x1 _ hF) k_X0_numberOf q553 ⟨rfl, rfl⟩ ⟨Nat.le_of_ble_eq_true rfl, Nat.le_of_ble_eq_true rfl⟩ hl.1 rfl rfl (Nat.le_of_ble_eq_true rfl) dX3_drill_60 ⟨Nat.le_of_ble_eq_true rfl, Nat.le_of_ble_eq_true rfl⟩ (fun r60 hF => ?_)
      refine lv_istore_n (lv' := [(2, .int r60), (0, .ref (h 16)), (1, .int x1)]) hx hb dX3_drill_63 rfl hl (by decide) rfl (fun ls hl => ?_)
      refine lv_aload_n hx hb dX3_drill_64 rfl (lv_at hl 1 rfl) ?_
      refine va_get (D := (dC, dI)) (ci := 3) (v := .int (σ.1 15)) (C := RX3) (T := TX3) (N := 6) hx hb hts in_X3 hown hK.1 hP 16 rfl rfl 4 (by decide) (hts _ q145) (fun _ h9 => h9) rfl dX3_drill_65 ?_
      refine lv_iconst (v := 1) hx hb dX3_drill_68 (by decide) ?_
      refine lv_iload_n hx hb dX3_drill_69 rfl (lv_at hl 0 rfl) ?_
      refine lv_ishl hx hb dX3_drill_70 ?_
      refine lv_iconst (v := 1) hx hb dX3_drill_71 (by decide) ?_
      refine lv_isub hx hb dX3_drill_72 ?_
      refine lv_iand hx hb dX3_drill_73 ?_
      refine lv_istore_n (lv' := [(3, .int ((σ.1 15) &&& (((1 : Int32) <<< (r60 &&& 31)) - 1))), (2, .int r60), (0, .ref (h 16)), (1, .int x1)]) hx hb dX3_drill_74 rfl hl (by decide) rfl (fun ls hl => ?_)
      refine lv_aload_n hx hb dX3_drill_75 rfl (lv_at hl 2 rfl) ?_
      refine lv_iload_n hx hb dX3_drill_76 rfl (lv_at hl 0 rfl) ?_
      refine lv_aload_n hx hb dX3_drill_77 rfl (lv_at hl 2 rfl) ?_
      refine va_get (D := (dC, dI)) (ci := 3) (v := .int (σ.1 15)) (C := RX3) (T := TX3) (N := 6) hx hb hts in_X3 hown hK.1 hP 16 rfl rfl 4 (by decide) (hts _ q145) (fun _ h9 => h9) rfl dX3_drill_78 ?_
      refine lv_iload_n hx hb dX3_drill_81 rfl (lv_at hl 0 rfl) ?_
      refine lv_isub hx hb dX3_drill_82 ?_
      refine lv_iconst (v := 1) hx hb dX3_drill_83 (by decide) ?_
      refine lv_ishl hx hb dX3_drill_84 ?_
      refine lv_ior hx hb dX3_drill_85 ?_
      refine va_put (D := (dC, dI)) (ci := 3) (v := .int (((σ.1 15) &&& (((1 : Int32) <<< (r60 &&& 31)) - 1)) ||| (((σ.1 15) - ((σ.1 15) &&& (((1 : Int32) <<< (r60 &&& 31)) - 1))) <<< ((1 : Int32) &&& 31)))) (ty := .int) (C := RX3) (T := TX3) (N := 6) hx hb hts in_X3 tyX3 tyX3_ok nmX3 hown hK.1 hP hD hS 16 rfl rfl 4 (by decide) (hts _ q145) (fun _ h9 => h9) rfl (by decide +kernel) rfl rfl (Nat.le_of_ble_eq_true rfl) dX3_drill_86 (fun H locs hP hD hS => ?_)
      have hP : va_P (dC, dI) classes (wH h cy (sI (mgX0 σ s52) 15 (((σ.1 15) &&& (((1 : Int32) <<< (r60 &&& 31)) - 1)) ||| (((σ.1 15) - ((σ.1 15) &&& (((1 : Int32) <<< (r60 &&& 31)) - 1))) <<< ((1 : Int32) &&& 31))))) H := hP
      have hD : va_D A (wH h cy (sI (mgX0 σ s52) 15 (((σ.1 15) &&& (((1 : Int32) <<< (r60 &&& 31)) - 1)) ||| (((σ.1 15) - ((σ.1 15) &&& (((1 : Int32) <<< (r60 &&& 31)) - 1))) <<< ((1 : Int32) &&& 31))))) := hD
      refine lv_aload_n hx hb dX3_drill_89 rfl (lv_at hl 2 rfl) ?_
      refine lv_iconst (v := 0) hx hb dX3_drill_90 (by decide) ?_
      refine va_put (D := (dC, dI)) (ci := 3) (v := .int 0) (ty := .int) (C := RX3) (T := TX3) (N := 6) hx hb hts in_X3 tyX3 tyX3_ok nmX3 hown hK.1 hP hD hS 16 rfl rfl 5 (by decide) (hts _ q146) (fun _ h9 => h9) rfl (by decide +kernel) rfl rfl (Nat.le_of_ble_eq_true rfl) dX3_drill_91 (fun H locs hP hD hS => ?_)
      have hP : va_P (dC, dI) classes (wH h cy (sI (sI (mgX0 σ s52) 15 (((σ.1 15) &&& (((1 : Int32) <<< (r60 &&& 31)) - 1)) ||| (((σ.1 15) - ((σ.1 15) &&& (((1 : Int32) <<< (r60 &&& 31)) - 1))) <<< ((1 : Int32) &&& 31)))) 16 0)) H := hP
      have hD : va_D A (wH h cy (sI (sI (mgX0 σ s52) 15 (((σ.1 15) &&& (((1 : Int32) <<< (r60 &&& 31)) - 1)) ||| (((σ.1 15) - ((σ.1 15) &&& (((1 : Int32) <<< (r60 &&& 31)) - 1))) <<< ((1 : Int32) &&& 31)))) 16 0)) := hD
      refine lv_aload_n hx hb dX3_drill_94 rfl (lv_at hl 2 rfl) ?_
      have hFc := va_free (wc := wH h cy (sI (sI (mgX0 σ s52) 15 (((σ.1 15) &&& (((1 : Int32) <<< (r60 &&& 31)) - 1)) ||| (((σ.1 15) - ((σ.1 15) &&& (((1 : Int32) <<< (r60 &&& 31)) - 1))) <<< ((1 : Int32) &&& 31)))) 16 0)) hD hS hA [0, 1, 2, 3, 4, 5, 6, 7, 8, 9, 10, 11, 12, 13, 14, 15, 16, 17, 18, 19, 20] rfl
      refine cwVv (q0 := 16) (As := []) (rest := []) ⟨hx, hb, hr, hml, hown, hts, hlocks⟩ hK hP hD rfl rfl hS hFc (m_X3_forgetAll l dC dI h cy _ (sI (sI (mgX0 σ s52) 15 (((σ.1 15) &&& (((1 : Int32) <<< (r60 &&& 31)) - 1)) ||| (((σ.1 15) - ((σ.1 15) &&& (((1 : Int32) <<< (r60 &&& 31)) - 1))) <<< ((1 : Int32) &&& 31)))) 16 0)  _ hF) k_X3_forgetAll q491 ⟨rfl, rfl⟩ ⟨Nat.le_of_ble_eq_true rfl, Nat.le_of_ble_eq_true rfl⟩ hl.1 rfl rfl (Nat.le_of_ble_eq_true rfl) dX3_drill_95 ⟨Nat.le_of_ble_eq_true rfl, Nat.le_of_ble_eq_true rfl⟩ (fun u H1 locs hF hP1 hD1 hk1 hS => ?_)
      obtain ⟨s95, rfl⟩ : ∃ z, z = u := ⟨_, rfl⟩
      have hP := hP1
      have hD := hD1.weaken (fun _ q _ h => hFc q.1 h)
      generalize H1 = H at hP hS ⊢
      have hP : va_P (dC, dI) classes (wH h cy s95) H := hP
      have hD : va_D A (wH h cy s95) := hD
      refine lv_aload_n hx hb dX3_drill_98 rfl (lv_at hl 2 rfl) ?_
      refine va_get (D := (dC, dI)) (ci := 3) (v := .ref (h 0)) (C := RX3) (T := TX3) (N := 6) hx hb hts in_X3 hown hK.1 hP 16 rfl rfl 0 (by decide) (hts _ q141) (fun _ h9 => h9) rfl dX3_drill_99 ?_
      have hPc := hP.sub (ws' := wB h cy s95) [0, 1, 2, 3, 4, 5, 6, 7, 8, 9, 10, 11] rfl
      refine cpVi (q0 := 0) (As := []) (rest := []) ⟨hx, hb, hr, hml, hown, hts, hlocks⟩ hK hPc rfl rfl (m_X0_holes l dC dI h cy s95  _ hF) k_X0_holes q350 ⟨rfl, rfl⟩ ⟨Nat.le_of_ble_eq_true rfl, Nat.le_of_ble_eq_true rfl⟩ hl.1 rfl rfl (Nat.le_of_ble_eq_true rfl) dX3_drill_102 ⟨Nat.le_of_ble_eq_true rfl, Nat.le_of_ble_eq_true rfl⟩ (fun r102 hF => ?_)
      refine vx_ret (W.widen (k := 2) (n := 12) (Nat.le_of_ble_eq_true rfl) (Nat.le_of_ble_eq_true rfl) ?_)
      exact W.iret (v := r102) hx hb hr (fun t ht hW => ⟨⟨r102, s95, rfl, hF, by rw [ht]; exact hP, hD⟩, hS.F ht⟩) hS.2.2 dX3_drill_105
    · have hF := hF.2 cz
      exact thrS (u := σ) (wn := fun (u : SX) => wH h cy u) (X := X) ⟨hx, hb, hr, hml, hown, hts, hlocks⟩ hno hl9 hK.2 rfl hXS hXZ hS hl.1 hP hD 3 rfl at_71_75 dX3_drill_37 dX3_drill_40 dX3_drill_41 dX3_drill_43 dX3_drill_46 (Nat.le_of_ble_eq_true rfl) (Nat.le_of_ble_eq_true rfl) (Nat.le_of_ble_eq_true rfl) (Nat.le_of_ble_eq_true rfl) (Nat.le_of_ble_eq_true rfl) (Nat.le_of_ble_eq_true rfl) hF
  · have hF := hF.2 cz
    exact thrS (u := σ) (wn := fun (u : SX) => wH h cy u) (X := X) ⟨hx, hb, hr, hml, hown, hts, hlocks⟩ hno hl9 hK.2 rfl hXS hXZ hS hl.1 hP hD 2 rfl at_62_66 dX3_drill_15 dX3_drill_18 dX3_drill_19 dX3_drill_21 dX3_drill_24 (Nat.le_of_ble_eq_true rfl) (Nat.le_of_ble_eq_true rfl) (Nat.le_of_ble_eq_true rfl) (Nat.le_of_ble_eq_true rfl) (Nat.le_of_ble_eq_true rfl) (Nat.le_of_ble_eq_true rfl) hF
theorem dX3_fault_0 : decode cX3_fault 0 = .ok (.aload_n 0, 1) := by decide +kernel
theorem dX3_fault_1 : decode cX3_fault 1 = .ok (.getfield 10, 3) := by decide +kernel
theorem dX3_fault_4 : decode cX3_fault 4 = .ok (.invokevirtual 219, 3) := by decide +kernel
theorem dX3_fault_7 : decode cX3_fault 7 = .ok (.istore_n 1, 1) := by decide +kernel
theorem dX3_fault_8 : decode cX3_fault 8 = .ok (.iload_n 1, 1) := by decide +kernel
theorem dX3_fault_9 : decode cX3_fault 9 = .ok (.iconst (-1), 1) := by decide +kernel
theorem dX3_fault_10 : decode cX3_fault 10 = .ok (.if_icmp .ne 13, 3) := by decide +kernel
theorem dX3_fault_13 : decode cX3_fault 13 = .ok (.new 95, 3) := by decide +kernel
theorem dX3_fault_16 : decode cX3_fault 16 = .ok (.dup, 1) := by decide +kernel
theorem dX3_fault_17 : decode cX3_fault 17 = .ok (.ldc 222, 2) := by decide +kernel
theorem dX3_fault_19 : decode cX3_fault 19 = .ok (.invokespecial 97, 3) := by decide +kernel
theorem dX3_fault_22 : decode cX3_fault 22 = .ok (.athrow, 1) := by decide +kernel
theorem dX3_fault_23 : decode cX3_fault 23 = .ok (.aload_n 0, 1) := by decide +kernel
theorem dX3_fault_24 : decode cX3_fault 24 = .ok (.getfield 10, 3) := by decide +kernel
theorem dX3_fault_27 : decode cX3_fault 27 = .ok (.iload_n 1, 1) := by decide +kernel
theorem dX3_fault_28 : decode cX3_fault 28 = .ok (.invokevirtual 139, 3) := by decide +kernel
theorem dX3_fault_31 : decode cX3_fault 31 = .ok (.ireturn, 1) := by decide +kernel
def wp_X3_fault (fu : Nat) (σ : SX) (P : Int32 → SX → Prop) (X : String → SX → Prop) : Prop := (wp_X0_faultLine fu σ  (fun r4 => ((¬ r4 = (-1) → (wp_X0_codeOf σ r4 (fun r28 => (P r28 σ)))) ∧ (r4 = (-1) → (X "java/util/NoSuchElementException" σ)))))
theorem k_X3_fault : KV RX3 yX3_fault cX3_fault 2 (some .int) 0 := ⟨q802, q803, q1, q804, by decide +kernel⟩
set_option maxHeartbeats 4000000 in
set_option maxRecDepth 100000 in
theorem m_X3_fault (l : Launch) (hl9 : l.stackTraces = false) (dC : Nat → ClassId) (dI : Nat → Nat → Nat) (h : Nat → Nat) (cy : Nat → ClassId) (sa : Nat → Nat) (sz : Nat) (fu : Nat) (σ : SX) (P : Int32 → SX → Prop) (X : String → SX → Prop) (hF : wp_X3_fault fu σ P X) : vx_Met l yX3_fault (ws_ yX3_fault cX3_fault 2 (some .int)) ({ frames := 6, cells := 1, slots := 6, locals := 90 } : Room) (va_Pc [.ref (h 16)] (PcT dC dI cy sa (wH h cy σ) sz)) (va_Qi (fun r u => P r u) (fun (u : SX) t => va_P (dC, dI) classes (wH h cy u) t.heap ∧ va_D (va_A (wH h cy σ) sz) (wH h cy u)) (va_A (wH h cy σ) sz)) (QxT dC dI (fun (u : SX) => wH h cy u) X (va_A (wH h cy σ) sz)) 1 6 (va_A (wH h cy σ) sz) := by
  refine vx_Met.ofCx (own := RX3) (by decide) rfl (Nat.le_of_ble_eq_true rfl) ?_
  intro p e s m below meth c hC hno hv ls hl
  obtain ⟨hx, hb, hr, hml, hown, hts, hlocks⟩ := hC
  have hl : lv_has ls 2 [(0, .ref (h 16))] := hl
  obtain ⟨hsz, hP, hK, hD0, hXS, hXZ⟩ := hv
  subst hsz
  have hD := hD0.self (sz := s.heap.size)
  generalize hAe : va_A (wH h cy σ) s.heap.size = A at hD hXZ ⊢
  have hA : ∀ q : Nat, s.heap.size ≤ q → A q := fun q h => by rw [← hAe]; exact Or.inr h
  have hS : va_S A s.heap s.heap [] := va_S.rf
  clear hAe
  unfold wp_X3_fault at hF
  refine lv_aload_n hx hb dX3_fault_0 rfl (lv_at hl 0 rfl) ?_
  refine va_get (D := (dC, dI)) (ci := 3) (v := .ref (h 0)) (C := RX3) (T := TX3) (N := 6) hx hb hts in_X3 hown hK.1 hP 16 rfl rfl 0 (by decide) (hts _ q141) (fun _ h9 => h9) rfl dX3_fault_1 ?_
  have hPc := hP.sub (ws' := wB h cy σ) [0, 1, 2, 3, 4, 5, 6, 7, 8, 9, 10, 11] rfl
  refine cpVi (q0 := 0) (As := []) (rest := []) ⟨hx, hb, hr, hml, hown, hts, hlocks⟩ hK hPc rfl rfl (m_X0_faultLine l dC dI h cy fu σ  _ hF) k_X0_faultLine q284 ⟨rfl, rfl⟩ ⟨Nat.le_of_ble_eq_true rfl, Nat.le_of_ble_eq_true rfl⟩ hl.1 rfl rfl (Nat.le_of_ble_eq_true rfl) dX3_fault_4 ⟨Nat.le_of_ble_eq_true rfl, Nat.le_of_ble_eq_true rfl⟩ (fun r4 hF => ?_)
  refine lv_istore_n (lv' := [(1, .int r4), (0, .ref (h 16))]) hx hb dX3_fault_7 rfl hl (by decide) rfl (fun ls hl => ?_)
  refine lv_iload_n hx hb dX3_fault_8 rfl (lv_at hl 0 rfl) ?_
  refine lv_iconst (v := (-1)) hx hb dX3_fault_9 (by decide) ?_
  refine lv_icmp_ne (tgt := 23) hx hb dX3_fault_10 (by decide) (fun cz => ?_) (fun cz => ?_)
  · have hF := hF.1 cz
    refine lv_aload_n hx hb dX3_fault_23 rfl (lv_at hl 1 rfl) ?_
    refine va_get (D := (dC, dI)) (ci := 3) (v := .ref (h 0)) (C := RX3) (T := TX3) (N := 6) hx hb hts in_X3 hown hK.1 hP 16 rfl rfl 0 (by decide) (hts _ q141) (fun _ h9 => h9) rfl dX3_fault_24 ?_
    refine lv_iload_n hx hb dX3_fault_27 rfl (lv_at hl 0 rfl) ?_
    have hPc := hP.sub (ws' := wB h cy σ) [0, 1, 2, 3, 4, 5, 6, 7, 8, 9, 10, 11] rfl
    refine cpVi (q0 := 0) (As := [.int r4]) (rest := []) ⟨hx, hb, hr, hml, hown, hts, hlocks⟩ hK hPc rfl rfl (m_X0_codeOf l dC dI h cy σ r4 _ hF) k_X0_codeOf q685 ⟨rfl, rfl⟩ ⟨Nat.le_of_ble_eq_true rfl, Nat.le_of_ble_eq_true rfl⟩ hl.1 rfl rfl (Nat.le_of_ble_eq_true rfl) dX3_fault_28 ⟨Nat.le_of_ble_eq_true rfl, Nat.le_of_ble_eq_true rfl⟩ (fun r28 hF => ?_)
    refine vx_ret (W.widen (k := 1) (n := 6) (Nat.le_of_ble_eq_true rfl) (Nat.le_of_ble_eq_true rfl) ?_)
    exact W.iret (v := r28) hx hb hr (fun t ht hW => ⟨⟨r28, σ, rfl, hF, by rw [ht]; exact hP, hD⟩, hS.F ht⟩) hS.2.2 dX3_fault_31
  · have hF := hF.2 cz
    exact thrN (u := σ) (wn := fun (u : SX) => wH h cy u) (X := X) ⟨hx, hb, hr, hml, hown, hts, hlocks⟩ hno hl9 hK.2 rfl hXS hXZ hS hl.1 hP hD 15 rfl at_95_97 dX3_fault_13 dX3_fault_16 dX3_fault_17 dX3_fault_19 dX3_fault_22 (Nat.le_of_ble_eq_true rfl) (Nat.le_of_ble_eq_true rfl) (Nat.le_of_ble_eq_true rfl) (Nat.le_of_ble_eq_true rfl) (Nat.le_of_ble_eq_true rfl) (Nat.le_of_ble_eq_true rfl) hF
theorem dX3_faultAt_0 : decode cX3_faultAt 0 = .ok (.aload_n 0, 1) := by decide +kernel
theorem dX3_faultAt_1 : decode cX3_faultAt 1 = .ok (.invokevirtual 246, 3) := by decide +kernel
theorem dX3_faultAt_4 : decode cX3_faultAt 4 = .ok (.istore_n 1, 1) := by decide +kernel
theorem dX3_faultAt_5 : decode cX3_faultAt 5 = .ok (.iload_n 1, 1) := by decide +kernel
theorem dX3_faultAt_6 : decode cX3_faultAt 6 = .ok (.iconst (-1), 1) := by decide +kernel
theorem dX3_faultAt_7 : decode cX3_faultAt 7 = .ok (.if_icmp .ne 13, 3) := by decide +kernel
theorem dX3_faultAt_10 : decode cX3_faultAt 10 = .ok (.new 95, 3) := by decide +kernel
theorem dX3_faultAt_13 : decode cX3_faultAt 13 = .ok (.dup, 1) := by decide +kernel
theorem dX3_faultAt_14 : decode cX3_faultAt 14 = .ok (.ldc 251, 2) := by decide +kernel
theorem dX3_faultAt_16 : decode cX3_faultAt 16 = .ok (.invokespecial 97, 3) := by decide +kernel
theorem dX3_faultAt_19 : decode cX3_faultAt 19 = .ok (.athrow, 1) := by decide +kernel
theorem dX3_faultAt_20 : decode cX3_faultAt 20 = .ok (.iload_n 1, 1) := by decide +kernel
theorem dX3_faultAt_21 : decode cX3_faultAt 21 = .ok (.ireturn, 1) := by decide +kernel
def wp_X3_faultAt (fu : Nat) (σ : SX) (P : Int32 → SX → Prop) (X : String → SX → Prop) : Prop := (wp_X3_rowFault fu σ  (fun r1 => ((¬ r1 = (-1) → (P r1 σ)) ∧ (r1 = (-1) → (X "java/util/NoSuchElementException" σ)))))
theorem k_X3_faultAt : KV RX3 yX3_faultAt cX3_faultAt 2 (some .int) 0 := ⟨q857, q858, q1, q859, by decide +kernel⟩
set_option maxHeartbeats 4000000 in
set_option maxRecDepth 100000 in
theorem m_X3_faultAt (l : Launch) (hl9 : l.stackTraces = false) (dC : Nat → ClassId) (dI : Nat → Nat → Nat) (h : Nat → Nat) (cy : Nat → ClassId) (sa : Nat → Nat) (sz : Nat) (fu : Nat) (σ : SX) (P : Int32 → SX → Prop) (X : String → SX → Prop) (hF : wp_X3_faultAt fu σ P X) : vx_Met l yX3_faultAt (ws_ yX3_faultAt cX3_faultAt 2 (some .int)) ({ frames := 6, cells := 1, slots := 6, locals := 90 } : Room) (va_Pc [.ref (h 16)] (PcT dC dI cy sa (wH h cy σ) sz)) (va_Qi (fun r u => P r u) (fun (u : SX) t => va_P (dC, dI) classes (wH h cy u) t.heap ∧ va_D (va_A (wH h cy σ) sz) (wH h cy u)) (va_A (wH h cy σ) sz)) (QxT dC dI (fun (u : SX) => wH h cy u) X (va_A (wH h cy σ) sz)) 1 6 (va_A (wH h cy σ) sz) := by
  refine vx_Met.ofCx (own := RX3) (by decide) rfl (Nat.le_of_ble_eq_true rfl) ?_
  intro p e s m below meth c hC hno hv ls hl
  obtain ⟨hx, hb, hr, hml, hown, hts, hlocks⟩ := hC
  have hl : lv_has ls 2 [(0, .ref (h 16))] := hl
  obtain ⟨hsz, hP, hK, hD0, hXS, hXZ⟩ := hv
  subst hsz
  have hD := hD0.self (sz := s.heap.size)
  generalize hAe : va_A (wH h cy σ) s.heap.size = A at hD hXZ ⊢
  have hA : ∀ q : Nat, s.heap.size ≤ q → A q := fun q h => by rw [← hAe]; exact Or.inr h
  have hS : va_S A s.heap s.heap [] := va_S.rf
  clear hAe
  unfold wp_X3_faultAt at hF
  refine lv_aload_n hx hb dX3_faultAt_0 rfl (lv_at hl 0 rfl) ?_
  refine cpVi (q0 := 16) (As := []) (rest := []) ⟨hx, hb, hr, hml, hown, hts, hlocks⟩ hK hP rfl rfl (m_X3_rowFault l dC dI h cy fu σ  _ hF) k_X3_rowFault q848 ⟨rfl, rfl⟩ ⟨Nat.le_of_ble_eq_true rfl, Nat.le_of_ble_eq_true rfl⟩ hl.1 rfl rfl (Nat.le_of_ble_eq_true rfl) dX3_faultAt_1 ⟨Nat.le_of_ble_eq_true rfl, Nat.le_of_ble_eq_true rfl⟩ (fun r1 hF => ?_)
  refine lv_istore_n (lv' := [(1, .int r1), (0, .ref (h 16))]) hx hb dX3_faultAt_4 rfl hl (by decide) rfl (fun ls hl => ?_)
  refine lv_iload_n hx hb dX3_faultAt_5 rfl (lv_at hl 0 rfl) ?_
  refine lv_iconst (v := (-1)) hx hb dX3_faultAt_6 (by decide) ?_
  refine lv_icmp_ne (tgt := 20) hx hb dX3_faultAt_7 (by decide) (fun cz => ?_) (fun cz => ?_)
  · have hF := hF.1 cz
    refine lv_iload_n hx hb dX3_faultAt_20 rfl (lv_at hl 0 rfl) ?_
    refine vx_ret (W.widen (k := 1) (n := 6) (Nat.le_of_ble_eq_true rfl) (Nat.le_of_ble_eq_true rfl) ?_)
    exact W.iret (v := r1) hx hb hr (fun t ht hW => ⟨⟨r1, σ, rfl, hF, by rw [ht]; exact hP, hD⟩, hS.F ht⟩) hS.2.2 dX3_faultAt_21
  · have hF := hF.2 cz
    exact thrN (u := σ) (wn := fun (u : SX) => wH h cy u) (X := X) ⟨hx, hb, hr, hml, hown, hts, hlocks⟩ hno hl9 hK.2 rfl hXS hXZ hS hl.1 hP hD 20 rfl at_95_97 dX3_faultAt_10 dX3_faultAt_13 dX3_faultAt_14 dX3_faultAt_16 dX3_faultAt_19 (Nat.le_of_ble_eq_true rfl) (Nat.le_of_ble_eq_true rfl) (Nat.le_of_ble_eq_true rfl) (Nat.le_of_ble_eq_true rfl) (Nat.le_of_ble_eq_true rfl) (Nat.le_of_ble_eq_true rfl) hF
theorem dX3_fill_0 : decode cX3_fill 0 = .ok (.iload_n 1, 1) := by decide +kernel
theorem dX3_fill_1 : decode cX3_fill 1 = .ok (.invokestatic 55, 3) := by decide +kernel
theorem dX3_fill_4 : decode cX3_fill 4 = .ok (.aload_n 0, 1) := by decide +kernel
theorem dX3_fill_5 : decode cX3_fill 5 = .ok (.getfield 10, 3) := by decide +kernel
theorem dX3_fill_8 : decode cX3_fill 8 = .ok (.iload_n 1, 1) := by decide +kernel
theorem dX3_fill_9 : decode cX3_fill 9 = .ok (.invokevirtual 58, 3) := by decide +kernel
theorem dX3_fill_12 : decode cX3_fill 12 = .ok (.ifCond .ne 13, 3) := by decide +kernel
theorem dX3_fill_15 : decode cX3_fill 15 = .ok (.new 62, 3) := by decide +kernel
theorem dX3_fill_18 : decode cX3_fill 18 = .ok (.dup, 1) := by decide +kernel
theorem dX3_fill_19 : decode cX3_fill 19 = .ok (.ldc 90, 2) := by decide +kernel
theorem dX3_fill_21 : decode cX3_fill 21 = .ok (.invokespecial 66, 3) := by decide +kernel
theorem dX3_fill_24 : decode cX3_fill 24 = .ok (.athrow, 1) := by decide +kernel
theorem dX3_fill_25 : decode cX3_fill 25 = .ok (.aload_n 0, 1) := by decide +kernel
theorem dX3_fill_26 : decode cX3_fill 26 = .ok (.getfield 10, 3) := by decide +kernel
theorem dX3_fill_29 : decode cX3_fill 29 = .ok (.iload_n 1, 1) := by decide +kernel
theorem dX3_fill_30 : decode cX3_fill 30 = .ok (.invokevirtual 79, 3) := by decide +kernel
theorem dX3_fill_33 : decode cX3_fill 33 = .ok (.istore_n 2, 1) := by decide +kernel
theorem dX3_fill_34 : decode cX3_fill 34 = .ok (.aload_n 0, 1) := by decide +kernel
theorem dX3_fill_35 : decode cX3_fill 35 = .ok (.getfield 10, 3) := by decide +kernel
theorem dX3_fill_38 : decode cX3_fill 38 = .ok (.iload_n 1, 1) := by decide +kernel
theorem dX3_fill_39 : decode cX3_fill 39 = .ok (.invokevirtual 92, 3) := by decide +kernel
theorem dX3_fill_42 : decode cX3_fill 42 = .ok (.aload_n 0, 1) := by decide +kernel
theorem dX3_fill_43 : decode cX3_fill 43 = .ok (.getfield 83, 3) := by decide +kernel
theorem dX3_fill_46 : decode cX3_fill 46 = .ok (.iconst 1, 1) := by decide +kernel
theorem dX3_fill_47 : decode cX3_fill 47 = .ok (.iload_n 2, 1) := by decide +kernel
theorem dX3_fill_48 : decode cX3_fill 48 = .ok (.ishl, 1) := by decide +kernel
theorem dX3_fill_49 : decode cX3_fill 49 = .ok (.iconst 1, 1) := by decide +kernel
theorem dX3_fill_50 : decode cX3_fill 50 = .ok (.isub, 1) := by decide +kernel
theorem dX3_fill_51 : decode cX3_fill 51 = .ok (.iand, 1) := by decide +kernel
theorem dX3_fill_52 : decode cX3_fill 52 = .ok (.istore_n 3, 1) := by decide +kernel
theorem dX3_fill_53 : decode cX3_fill 53 = .ok (.aload_n 0, 1) := by decide +kernel
theorem dX3_fill_54 : decode cX3_fill 54 = .ok (.iload_n 3, 1) := by decide +kernel
theorem dX3_fill_55 : decode cX3_fill 55 = .ok (.aload_n 0, 1) := by decide +kernel
theorem dX3_fill_56 : decode cX3_fill 56 = .ok (.getfield 83, 3) := by decide +kernel
theorem dX3_fill_59 : decode cX3_fill 59 = .ok (.iload_n 2, 1) := by decide +kernel
theorem dX3_fill_60 : decode cX3_fill 60 = .ok (.iconst 1, 1) := by decide +kernel
theorem dX3_fill_61 : decode cX3_fill 61 = .ok (.iadd, 1) := by decide +kernel
theorem dX3_fill_62 : decode cX3_fill 62 = .ok (.ishr, 1) := by decide +kernel
theorem dX3_fill_63 : decode cX3_fill 63 = .ok (.iload_n 2, 1) := by decide +kernel
theorem dX3_fill_64 : decode cX3_fill 64 = .ok (.ishl, 1) := by decide +kernel
theorem dX3_fill_65 : decode cX3_fill 65 = .ok (.ior, 1) := by decide +kernel
theorem dX3_fill_66 : decode cX3_fill 66 = .ok (.putfield 83, 3) := by decide +kernel
theorem dX3_fill_69 : decode cX3_fill 69 = .ok (.aload_n 0, 1) := by decide +kernel
theorem dX3_fill_70 : decode cX3_fill 70 = .ok (.iconst 0, 1) := by decide +kernel
theorem dX3_fill_71 : decode cX3_fill 71 = .ok (.putfield 87, 3) := by decide +kernel
theorem dX3_fill_74 : decode cX3_fill 74 = .ok (.aload_n 0, 1) := by decide +kernel
theorem dX3_fill_75 : decode cX3_fill 75 = .ok (.invokevirtual 52, 3) := by decide +kernel
theorem dX3_fill_78 : decode cX3_fill 78 = .ok (.aload_n 0, 1) := by decide +kernel
theorem dX3_fill_79 : decode cX3_fill 79 = .ok (.getfield 10, 3) := by decide +kernel
theorem dX3_fill_82 : decode cX3_fill 82 = .ok (.invokevirtual 67, 3) := by decide +kernel
theorem dX3_fill_85 : decode cX3_fill 85 = .ok (.ireturn, 1) := by decide +kernel
def wp_X3_fill (fu : Nat) (σ : SX) (x1 : Int32) (P : Int32 → SX → Prop) (X : String → SX → Prop) : Prop := (wp_X3_requireCell x1 (wp_X0_isHole σ x1 (fun r9 => ((¬ r9 = 0 → (wp_X0_numberOf σ x1 (fun r30 => (wp_X0_close fu σ x1 (fun s39 => (wp_X3_forgetAll (sI (sI (mgX0 σ s39) 15 (((σ.1 15) &&& (((1 : Int32) <<< (r30 &&& 31)) - 1)) ||| (((σ.1 15) >>> ((r30 + 1) &&& 31)) <<< (r30 &&& 31)))) 16 0)  (fun s75 => (wp_X0_holes s75  (fun r82 => (P r82 s75)))))))))) ∧ (r9 = 0 → (X "java/lang/UnsupportedOperationException" σ))))) (fun E => X E σ))
theorem k_X3_fill : KV RX3 yX3_fill cX3_fill 4 (some .int) 1 := ⟨q558, q559, q1, q560, by decide +kernel⟩
set_option maxHeartbeats 4000000 in
set_option maxRecDepth 100000 in
theorem m_X3_fill (l : Launch) (hl9 : l.stackTraces = false) (dC : Nat → ClassId) (dI : Nat → Nat → Nat) (h : Nat → Nat) (cy : Nat → ClassId) (sa : Nat → Nat) (sz : Nat) (fu : Nat) (σ : SX) (x1 : Int32) (P : Int32 → SX → Prop) (X : String → SX → Prop) (hF : wp_X3_fill fu σ x1 P X) : vx_Met l yX3_fill (ws_ yX3_fill cX3_fill 4 (some .int)) ({ frames := 7, cells := 2, slots := 12, locals := 131 } : Room) (va_Pc [.ref (h 16), .int x1] (PcT dC dI cy sa (wH h cy σ) sz)) (va_Qi (fun r u => P r u) (fun (u : SX) t => va_P (dC, dI) classes (wH h cy u) t.heap ∧ va_D (va_A (wH h cy σ) sz) (wH h cy u)) (va_A (wH h cy σ) sz)) (QxT dC dI (fun (u : SX) => wH h cy u) X (va_A (wH h cy σ) sz)) 2 12 (va_A (wH h cy σ) sz) := by
  refine vx_Met.ofCx (own := RX3) (by decide) rfl (Nat.le_of_ble_eq_true rfl) ?_
  intro p e s m below meth c hC hno hv ls hl
  obtain ⟨hx, hb, hr, hml, hown, hts, hlocks⟩ := hC
  have hl : lv_has ls 4 [(0, .ref (h 16)), (1, .int x1)] := hl
  obtain ⟨hsz, hP, hK, hD0, hXS, hXZ⟩ := hv
  subst hsz
  have hD := hD0.self (sz := s.heap.size)
  generalize hAe : va_A (wH h cy σ) s.heap.size = A at hD hXZ ⊢
  have hA : ∀ q : Nat, s.heap.size ≤ q → A q := fun q h => by rw [← hAe]; exact Or.inr h
  have hS : va_S A s.heap s.heap [] := va_S.rf
  clear hAe
  unfold wp_X3_fill at hF
  refine lv_iload_n hx hb dX3_fill_0 rfl (lv_at hl 1 rfl) ?_
  refine cxSv (u := σ) (wn := fun u => wH h cy u) (As := [.int x1]) (rest := []) ⟨hx, hb, hr, hml, hown, hts, hlocks⟩ hno hK hXS hXZ hP hD hS hA (m_X3_requireCell l hl9 dC dI cy sa _ x1 _ (fun E => X E σ) hF) k_X3_requireCell q508 ⟨rfl, rfl⟩ ⟨Nat.le_of_ble_eq_true rfl, Nat.le_of_ble_eq_true rfl⟩ hl.1 rfl rfl (Nat.le_of_ble_eq_true rfl) dX3_fill_1 ⟨Nat.le_of_ble_eq_true rfl, Nat.le_of_ble_eq_true rfl⟩ ⟨Nat.le_of_ble_eq_true rfl, Nat.le_of_ble_eq_true rfl⟩ (fun H1 locs hF hP1 hS => ?_)
  have hP := hP1
  generalize H1 = H at hP hS ⊢
  have hP : va_P (dC, dI) classes (wH h cy σ) H := hP
  refine lv_aload_n hx hb dX3_fill_4 rfl (lv_at hl 0 rfl) ?_
  refine va_get (D := (dC, dI)) (ci := 3) (v := .ref (h 0)) (C := RX3) (T := TX3) (N := 6) hx hb hts in_X3 hown hK.1 hP 16 rfl rfl 0 (by decide) (hts _ q141) (fun _ h9 => h9) rfl dX3_fill_5 ?_
  refine lv_iload_n hx hb dX3_fill_8 rfl (lv_at hl 1 rfl) ?_
  have hPc := hP.sub (ws' := wB h cy σ) [0, 1, 2, 3, 4, 5, 6, 7, 8, 9, 10, 11] rfl
  refine cpVi (q0 := 0) (As := [.int x1]) (rest := []) ⟨hx, hb, hr, hml, hown, hts, hlocks⟩ hK hPc rfl rfl (m_X0_isHole l dC dI h cy σ x1 _ hF) k_X0_isHole q512 ⟨rfl, rfl⟩ ⟨Nat.le_of_ble_eq_true rfl, Nat.le_of_ble_eq_true rfl⟩ hl.1 rfl rfl (Nat.le_of_ble_eq_true rfl) dX3_fill_9 ⟨Nat.le_of_ble_eq_true rfl, Nat.le_of_ble_eq_true rfl⟩ (fun r9 hF => ?_)
  refine lv_if_ne (tgt := 25) hx hb dX3_fill_12 (by decide) (fun cz => ?_) (fun cz => ?_)
  · have hF := hF.1 cz
    refine lv_aload_n hx hb dX3_fill_25 rfl (lv_at hl 0 rfl) ?_
    refine va_get (D := (dC, dI)) (ci := 3) (v := .ref (h 0)) (C := RX3) (T := TX3) (N := 6) hx hb hts in_X3 hown hK.1 hP 16 rfl rfl 0 (by decide) (hts _ q141) (fun _ h9 => h9) rfl dX3_fill_26 ?_
    refine lv_iload_n hx hb dX3_fill_29 rfl (lv_at hl 1 rfl) ?_
    have hPc := hP.sub (ws' := wB h cy σ) [0, 1, 2, 3, 4, 5, 6, 7, 8, 9, 10, 11] rfl
    refine cpVi (q0 := 0) (As := [.int x1]) (rest := []) ⟨hx, hb, hr, hml, hown, hts, hlocks⟩ hK hPc rfl rfl (m_X0_numberOf l dC dI h cy σ x1 _ hF) k_X0_numberOf q553 ⟨rfl, rfl⟩ ⟨Nat.le_of_ble_eq_true rfl, Nat.le_of_ble_eq_true rfl⟩ hl.1 rfl rfl (Nat.le_of_ble_eq_true rfl) dX3_fill_30 ⟨Nat.le_of_ble_eq_true rfl, Nat.le_of_ble_eq_true rfl⟩ (fun r30 hF => ?_)
    refine lv_istore_n (lv' := [(2, .int r30), (0, .ref (h 16)), (1, .int x1)]) hx hb dX3_fill_33 rfl hl (by decide) rfl (fun ls hl => ?_)
    refine lv_aload_n hx hb dX3_fill_34 rfl (lv_at hl 1 rfl) ?_
    refine va_get (D := (dC, dI)) (ci := 3) (v := .ref (h 0)) (C := RX3) (T := TX3) (N := 6) hx hb hts in_X3 hown hK.1 hP 16 rfl rfl 0 (by decide) (hts _ q141) (fun _ h9 => h9) rfl dX3_fill_35 ?_
    refine lv_iload_n hx hb dX3_fill_38 rfl (lv_at hl 2 rfl) ?_
    have hPc := hP.sub (ws' := wB h cy σ) [0, 1, 2, 3, 4, 5, 6, 7, 8, 9, 10, 11] rfl
    have hDc := hD.sub (ws' := wB h cy σ) [0, 1, 2, 3, 4, 5, 6, 7, 8, 9, 10, 11] (by decide) rfl
    have hFc := va_free (wc := wB h cy σ) hD hS hA [0, 1, 2, 3, 4, 5, 6, 7, 8, 9, 10, 11] rfl
    refine cwVv (q0 := 0) (As := [.int x1]) (rest := []) ⟨hx, hb, hr, hml, hown, hts, hlocks⟩ hK hPc hDc rfl rfl hS hFc (m_X0_close l dC dI h cy _ fu σ x1 _ hF) k_X0_close q562 ⟨rfl, rfl⟩ ⟨Nat.le_of_ble_eq_true rfl, Nat.le_of_ble_eq_true rfl⟩ hl.1 rfl rfl (Nat.le_of_ble_eq_true rfl) dX3_fill_39 ⟨Nat.le_of_ble_eq_true rfl, Nat.le_of_ble_eq_true rfl⟩ (fun u H1 locs hF hP1 hD1 hk1 hS => ?_)
    obtain ⟨s39, rfl⟩ : ∃ z, z = u := ⟨_, rfl⟩
    obtain ⟨hP, hD⟩ := va_join (wr := [(h 12, .inr (2, [.ref (h 0), .ref (h 13), .ref (h 14), .ref (h 15), .int (σ.1 7), .int (σ.1 8), .int (σ.1 9), .int (σ.1 10), .int (σ.1 11), .int (σ.1 12), .int (σ.1 13), .int (σ.1 14)])), (h 13, .inl (cy 0, 8192, .inl (σ.2.1 6))), (h 14, .inl (cy 1, 8192, .inr (.inl (σ.2.2)))), (h 15, .inl (cy 0, 10240, .inl (σ.2.1 7))), (h 16, .inr (3, [.ref (h 0), .ref (h 12), .ref (h 17), .ref (h 19), .int (σ.1 15), .int (σ.1 16)])), (h 17, .inr (1, [.ref (h 18), .int (σ.1 17)])), (h 18, .inl (cy 0, 12, .inl (σ.2.1 8))), (h 19, .inr (1, [.ref (h 20), .int (σ.1 18)])), (h 20, .inl (cy 0, 12, .inl (σ.2.1 9)))]) (w1 := wB h cy s39) hP hD [0, 1, 2, 3, 4, 5, 6, 7, 8, 9, 10, 11] [12, 13, 14, 15, 16, 17, 18, 19, 20] rfl rfl (by decide) (by decide) hk1 hFc hP1 hD1
    have hP := hP.sub (ws' := wH h cy (mgX0 σ s39)) [9, 10, 11, 12, 13, 14, 15, 16, 17, 18, 19, 20, 0, 1, 2, 3, 4, 5, 6, 7, 8] rfl
    have hD := hD.sub (ws' := wH h cy (mgX0 σ s39)) [9, 10, 11, 12, 13, 14, 15, 16, 17, 18, 19, 20, 0, 1, 2, 3, 4, 5, 6, 7, 8] (by decide) rfl
    generalize H1 = H at hP hS ⊢
    have hP : va_P (dC, dI) classes (wH h cy (mgX0 σ s39)) H := hP
    have hD : va_D A (wH h cy (mgX0 σ s39)) := hD
    refine lv_aload_n hx hb dX3_fill_42 rfl (lv_at hl 1 rfl) ?_
    refine va_get (D := (dC, dI)) (ci := 3) (v := .int (σ.1 15)) (C := RX3) (T := TX3) (N := 6) hx hb hts in_X3 hown hK.1 hP 16 rfl rfl 4 (by decide) (hts _ q145) (fun _ h9 => h9) rfl dX3_fill_43 ?_
    refine lv_iconst (v := 1) hx hb dX3_fill_46 (by decide) ?_
    refine lv_iload_n hx hb dX3_fill_47 rfl (lv_at hl 0 rfl) ?_
    refine lv_ishl hx hb dX3_fill_48 ?_
    refine lv_iconst (v := 1) hx hb dX3_fill_49 (by decide) ?_
    refine lv_isub hx hb dX3_fill_50 ?_
    refine lv_iand hx hb dX3_fill_51 ?_
    refine lv_istore_n (lv' := [(3, .int ((σ.1 15) &&& (((1 : Int32) <<< (r30 &&& 31)) - 1))), (2, .int r30), (0, .ref (h 16)), (1, .int x1)]) hx hb dX3_fill_52 rfl hl (by decide) rfl (fun ls hl => ?_)
    refine lv_aload_n hx hb dX3_fill_53 rfl (lv_at hl 2 rfl) ?_
    refine lv_iload_n hx hb dX3_fill_54 rfl (lv_at hl 0 rfl) ?_
    refine lv_aload_n hx hb dX3_fill_55 rfl (lv_at hl 2 rfl) ?_
    refine va_get (D := (dC, dI)) (ci := 3) (v := .int (σ.1 15)) (C := RX3) (T := TX3) (N := 6) hx hb hts in_X3 hown hK.1 hP 16 rfl rfl 4 (by decide) (hts _ q145) (fun _ h9 => h9) rfl dX3_fill_56 ?_
    refine lv_iload_n hx hb dX3_fill_59 rfl (lv_at hl 1 rfl) ?_
    refine lv_iconst (v := 1) hx hb dX3_fill_60 (by decide) ?_
    refine lv_iadd hx hb dX3_fill_61 ?_
    refine lv_ishr hx hb dX3_fill_62 ?_
    refine lv_iload_n hx hb dX3_fill_63 rfl (lv_at hl 1 rfl) ?_
    refine lv_ishl hx hb dX3_fill_64 ?_
    refine lv_ior hx hb dX3_fill_65 ?_
    refine va_put (D := (dC, dI)) (ci := 3) (v := .int (((σ.1 15) &&& (((1 : Int32) <<< (r30 &&& 31)) - 1)) ||| (((σ.1 15) >>> ((r30 + 1) &&& 31)) <<< (r30 &&& 31)))) (ty := .int) (C := RX3) (T := TX3) (N := 6) hx hb hts in_X3 tyX3 tyX3_ok nmX3 hown hK.1 hP hD hS 16 rfl rfl 4 (by decide) (hts _ q145) (fun _ h9 => h9) rfl (by decide +kernel) rfl rfl (Nat.le_of_ble_eq_true rfl) dX3_fill_66 (fun H locs hP hD hS => ?_)
    have hP : va_P (dC, dI) classes (wH h cy (sI (mgX0 σ s39) 15 (((σ.1 15) &&& (((1 : Int32) <<< (r30 &&& 31)) - 1)) ||| (((σ.1 15) >>> ((r30 + 1) &&& 31)) <<< (r30 &&& 31))))) H := hP
    have hD : va_D A (wH h cy (sI (mgX0 σ s39) 15 (((σ.1 15) &&& (((1 : Int32) <<< (r30 &&& 31)) - 1)) ||| (((σ.1 15) >>> ((r30 + 1) &&& 31)) <<< (r30 &&& 31))))) := hD
    refine lv_aload_n hx hb dX3_fill_69 rfl (lv_at hl 2 rfl) ?_
    refine lv_iconst (v := 0) hx hb dX3_fill_70 (by decide) ?_
    refine va_put (D := (dC, dI)) (ci := 3) (v := .int 0) (ty := .int) (C := RX3) (T := TX3) (N := 6) hx hb hts in_X3 tyX3 tyX3_ok nmX3 hown hK.1 hP hD hS 16 rfl rfl 5 (by decide) (hts _ q146) (fun _ h9 => h9) rfl (by decide +kernel) rfl rfl (Nat.le_of_ble_eq_true rfl) dX3_fill_71 (fun H locs hP hD hS => ?_)
    have hP : va_P (dC, dI) classes (wH h cy (sI (sI (mgX0 σ s39) 15 (((σ.1 15) &&& (((1 : Int32) <<< (r30 &&& 31)) - 1)) ||| (((σ.1 15) >>> ((r30 + 1) &&& 31)) <<< (r30 &&& 31)))) 16 0)) H := hP
    have hD : va_D A (wH h cy (sI (sI (mgX0 σ s39) 15 (((σ.1 15) &&& (((1 : Int32) <<< (r30 &&& 31)) - 1)) ||| (((σ.1 15) >>> ((r30 + 1) &&& 31)) <<< (r30 &&& 31)))) 16 0)) := hD
    refine lv_aload_n hx hb dX3_fill_74 rfl (lv_at hl 2 rfl) ?_
    have hFc := va_free (wc := wH h cy (sI (sI (mgX0 σ s39) 15 (((σ.1 15) &&& (((1 : Int32) <<< (r30 &&& 31)) - 1)) ||| (((σ.1 15) >>> ((r30 + 1) &&& 31)) <<< (r30 &&& 31)))) 16 0)) hD hS hA [0, 1, 2, 3, 4, 5, 6, 7, 8, 9, 10, 11, 12, 13, 14, 15, 16, 17, 18, 19, 20] rfl
    refine cwVv (q0 := 16) (As := []) (rest := []) ⟨hx, hb, hr, hml, hown, hts, hlocks⟩ hK hP hD rfl rfl hS hFc (m_X3_forgetAll l dC dI h cy _ (sI (sI (mgX0 σ s39) 15 (((σ.1 15) &&& (((1 : Int32) <<< (r30 &&& 31)) - 1)) ||| (((σ.1 15) >>> ((r30 + 1) &&& 31)) <<< (r30 &&& 31)))) 16 0)  _ hF) k_X3_forgetAll q491 ⟨rfl, rfl⟩ ⟨Nat.le_of_ble_eq_true rfl, Nat.le_of_ble_eq_true rfl⟩ hl.1 rfl rfl (Nat.le_of_ble_eq_true rfl) dX3_fill_75 ⟨Nat.le_of_ble_eq_true rfl, Nat.le_of_ble_eq_true rfl⟩ (fun u H1 locs hF hP1 hD1 hk1 hS => ?_)
    obtain ⟨s75, rfl⟩ : ∃ z, z = u := ⟨_, rfl⟩
    have hP := hP1
    have hD := hD1.weaken (fun _ q _ h => hFc q.1 h)
    generalize H1 = H at hP hS ⊢
    have hP : va_P (dC, dI) classes (wH h cy s75) H := hP
    have hD : va_D A (wH h cy s75) := hD
    refine lv_aload_n hx hb dX3_fill_78 rfl (lv_at hl 2 rfl) ?_
    refine va_get (D := (dC, dI)) (ci := 3) (v := .ref (h 0)) (C := RX3) (T := TX3) (N := 6) hx hb hts in_X3 hown hK.1 hP 16 rfl rfl 0 (by decide) (hts _ q141) (fun _ h9 => h9) rfl dX3_fill_79 ?_
    have hPc := hP.sub (ws' := wB h cy s75) [0, 1, 2, 3, 4, 5, 6, 7, 8, 9, 10, 11] rfl
    refine cpVi (q0 := 0) (As := []) (rest := []) ⟨hx, hb, hr, hml, hown, hts, hlocks⟩ hK hPc rfl rfl (m_X0_holes l dC dI h cy s75  _ hF) k_X0_holes q350 ⟨rfl, rfl⟩ ⟨Nat.le_of_ble_eq_true rfl, Nat.le_of_ble_eq_true rfl⟩ hl.1 rfl rfl (Nat.le_of_ble_eq_true rfl) dX3_fill_82 ⟨Nat.le_of_ble_eq_true rfl, Nat.le_of_ble_eq_true rfl⟩ (fun r82 hF => ?_)
    refine vx_ret (W.widen (k := 2) (n := 12) (Nat.le_of_ble_eq_true rfl) (Nat.le_of_ble_eq_true rfl) ?_)
    exact W.iret (v := r82) hx hb hr (fun t ht hW => ⟨⟨r82, s75, rfl, hF, by rw [ht]; exact hP, hD⟩, hS.F ht⟩) hS.2.2 dX3_fill_85
  · have hF := hF.2 cz
    exact thrS (u := σ) (wn := fun (u : SX) => wH h cy u) (X := X) ⟨hx, hb, hr, hml, hown, hts, hlocks⟩ hno hl9 hK.2 rfl hXS hXZ hS hl.1 hP hD 4 rfl at_62_66 dX3_fill_15 dX3_fill_18 dX3_fill_19 dX3_fill_21 dX3_fill_24 (Nat.le_of_ble_eq_true rfl) (Nat.le_of_ble_eq_true rfl) (Nat.le_of_ble_eq_true rfl) (Nat.le_of_ble_eq_true rfl) (Nat.le_of_ble_eq_true rfl) (Nat.le_of_ble_eq_true rfl) hF
theorem dX3_highest_0 : decode cX3_highest 0 = .ok (.aload_n 0, 1) := by decide +kernel
theorem dX3_highest_1 : decode cX3_highest 1 = .ok (.getfield 21, 3) := by decide +kernel
theorem dX3_highest_4 : decode cX3_highest 4 = .ok (.aload_n 0, 1) := by decide +kernel
theorem dX3_highest_5 : decode cX3_highest 5 = .ok (.getfield 83, 3) := by decide +kernel
theorem dX3_highest_8 : decode cX3_highest 8 = .ok (.invokevirtual 169, 3) := by decide +kernel
theorem dX3_highest_11 : decode cX3_highest 11 = .ok (.iconst 0, 1) := by decide +kernel
theorem dX3_highest_12 : decode cX3_highest 12 = .ok (.istore_n 1, 1) := by decide +kernel
theorem dX3_highest_13 : decode cX3_highest 13 = .ok (.iload_n 1, 1) := by decide +kernel
theorem dX3_highest_14 : decode cX3_highest 14 = .ok (.aload_n 0, 1) := by decide +kernel
theorem dX3_highest_15 : decode cX3_highest 15 = .ok (.getfield 10, 3) := by decide +kernel
theorem dX3_highest_18 : decode cX3_highest 18 = .ok (.invokevirtual 67, 3) := by decide +kernel
theorem dX3_highest_21 : decode cX3_highest 21 = .ok (.if_icmp .ge 35, 3) := by decide +kernel
theorem dX3_highest_24 : decode cX3_highest 24 = .ok (.aload_n 0, 1) := by decide +kernel
theorem dX3_highest_25 : decode cX3_highest 25 = .ok (.getfield 21, 3) := by decide +kernel
theorem dX3_highest_28 : decode cX3_highest 28 = .ok (.getfield 202, 3) := by decide +kernel
theorem dX3_highest_31 : decode cX3_highest 31 = .ok (.iload_n 1, 1) := by decide +kernel
theorem dX3_highest_32 : decode cX3_highest 32 = .ok (.ishr, 1) := by decide +kernel
theorem dX3_highest_33 : decode cX3_highest 33 = .ok (.iconst 1, 1) := by decide +kernel
theorem dX3_highest_34 : decode cX3_highest 34 = .ok (.iand, 1) := by decide +kernel
theorem dX3_highest_35 : decode cX3_highest 35 = .ok (.iconst 1, 1) := by decide +kernel
theorem dX3_highest_36 : decode cX3_highest 36 = .ok (.if_icmp .ne 14, 3) := by decide +kernel
theorem dX3_highest_39 : decode cX3_highest 39 = .ok (.aload_n 0, 1) := by decide +kernel
theorem dX3_highest_40 : decode cX3_highest 40 = .ok (.getfield 10, 3) := by decide +kernel
theorem dX3_highest_43 : decode cX3_highest 43 = .ok (.iload_n 1, 1) := by decide +kernel
theorem dX3_highest_44 : decode cX3_highest 44 = .ok (.invokevirtual 101, 3) := by decide +kernel
theorem dX3_highest_47 : decode cX3_highest 47 = .ok (.iconst 5, 1) := by decide +kernel
theorem dX3_highest_48 : decode cX3_highest 48 = .ok (.idiv, 1) := by decide +kernel
theorem dX3_highest_49 : decode cX3_highest 49 = .ok (.ireturn, 1) := by decide +kernel
theorem dX3_highest_50 : decode cX3_highest 50 = .ok (.iinc 1 1, 3) := by decide +kernel
theorem dX3_highest_53 : decode cX3_highest 53 = .ok (.goto (-40), 3) := by decide +kernel
theorem dX3_highest_56 : decode cX3_highest 56 = .ok (.new 95, 3) := by decide +kernel
theorem dX3_highest_59 : decode cX3_highest 59 = .ok (.dup, 1) := by decide +kernel
theorem dX3_highest_60 : decode cX3_highest 60 = .ok (.ldc 205, 2) := by decide +kernel
theorem dX3_highest_62 : decode cX3_highest 62 = .ok (.invokespecial 97, 3) := by decide +kernel
theorem dX3_highest_65 : decode cX3_highest 65 = .ok (.athrow, 1) := by decide +kernel
def wp_X3_highest_B13 (σ : SX) (P : Int32 → SX → Prop) (s8 : SX) (K13 : Prop) (rec13 : Int32 → Prop) (v1_13 : Int32) : Prop := (wp_X0_holes (mgX2 σ s8)  (fun r18 => ((r18 ≤ v1_13 → K13) ∧ (¬ r18 ≤ v1_13 → ((¬ (((s8.1 11) >>> (v1_13 &&& 31)) &&& 1) = 1 → (rec13 (v1_13 + 1))) ∧ ((((s8.1 11) >>> (v1_13 &&& 31)) &&& 1) = 1 → (wp_X0_cellOf (mgX2 σ s8) v1_13 (fun r44 => (P (r44 / 5) (mgX2 σ s8))))))))))
def wp_X3_highest_L13 (σ : SX) (P : Int32 → SX → Prop) (s8 : SX) (K13 : Prop) : Nat → Int32 → Prop
  | 0, _ => False
  | nn + 1, v1_13 => wp_X3_highest_B13 σ P s8 K13 (wp_X3_highest_L13 σ P s8 K13 nn) v1_13
def wp_X3_highest (fu : Nat) (σ : SX) (P : Int32 → SX → Prop) (X : String → SX → Prop) : Prop := (wp_X2_begin fu σ (σ.1 15) (fun s8 => (wp_X3_highest_L13 σ P s8 (X "java/util/NoSuchElementException" (mgX2 σ s8)) fu 0)))
theorem k_X3_highest : KV RX3 yX3_highest cX3_highest 2 (some .int) 0 := ⟨q775, q776, q1, q777, by decide +kernel⟩
set_option maxHeartbeats 4000000 in
set_option maxRecDepth 100000 in
theorem m_X3_highest (l : Launch) (hl9 : l.stackTraces = false) (dC : Nat → ClassId) (dI : Nat → Nat → Nat) (h : Nat → Nat) (cy : Nat → ClassId) (sa : Nat → Nat) (sz : Nat) (fu : Nat) (σ : SX) (P : Int32 → SX → Prop) (X : String → SX → Prop) (hF : wp_X3_highest fu σ P X) : vx_Met l yX3_highest (ws_ yX3_highest cX3_highest 2 (some .int)) ({ frames := 6, cells := 1, slots := 6, locals := 90 } : Room) (va_Pc [.ref (h 16)] (PcT dC dI cy sa (wH h cy σ) sz)) (va_Qi (fun r u => P r u) (fun (u : SX) t => va_P (dC, dI) classes (wH h cy u) t.heap ∧ va_D (va_A (wH h cy σ) sz) (wH h cy u)) (va_A (wH h cy σ) sz)) (QxT dC dI (fun (u : SX) => wH h cy u) X (va_A (wH h cy σ) sz)) 1 6 (va_A (wH h cy σ) sz) := by
  refine vx_Met.ofCx (own := RX3) (by decide) rfl (Nat.le_of_ble_eq_true rfl) ?_
  intro p e s m below meth c hC hno hv ls hl
  obtain ⟨hx, hb, hr, hml, hown, hts, hlocks⟩ := hC
  have hl : lv_has ls 2 [(0, .ref (h 16))] := hl
  obtain ⟨hsz, hP, hK, hD0, hXS, hXZ⟩ := hv
  subst hsz
  have hD := hD0.self (sz := s.heap.size)
  generalize hAe : va_A (wH h cy σ) s.heap.size = A at hD hXZ ⊢
  have hA : ∀ q : Nat, s.heap.size ≤ q → A q := fun q h => by rw [← hAe]; exact Or.inr h
  have hS : va_S A s.heap s.heap [] := va_S.rf
  clear hAe
  unfold wp_X3_highest at hF
  refine lv_aload_n hx hb dX3_highest_0 rfl (lv_at hl 0 rfl) ?_
  refine va_get (D := (dC, dI)) (ci := 3) (v := .ref (h 12)) (C := RX3) (T := TX3) (N := 6) hx hb hts in_X3 hown hK.1 hP 16 rfl rfl 1 (by decide) (hts _ q142) (fun _ h9 => h9) rfl dX3_highest_1 ?_
  refine lv_aload_n hx hb dX3_highest_4 rfl (lv_at hl 0 rfl) ?_
  refine va_get (D := (dC, dI)) (ci := 3) (v := .int (σ.1 15)) (C := RX3) (T := TX3) (N := 6) hx hb hts in_X3 hown hK.1 hP 16 rfl rfl 4 (by decide) (hts _ q145) (fun _ h9 => h9) rfl dX3_highest_5 ?_
  have hPc := hP.sub (ws' := wW h cy σ) [0, 1, 2, 3, 4, 5, 6, 7, 8, 9, 10, 11, 12, 13, 14, 15] rfl
  have hDc := hD.sub (ws' := wW h cy σ) [0, 1, 2, 3, 4, 5, 6, 7, 8, 9, 10, 11, 12, 13, 14, 15] (by decide) rfl
  have hFc := va_free (wc := wW h cy σ) hD hS hA [0, 1, 2, 3, 4, 5, 6, 7, 8, 9, 10, 11, 12, 13, 14, 15] rfl
  refine cwVv (q0 := 12) (As := [.int (σ.1 15)]) (rest := []) ⟨hx, hb, hr, hml, hown, hts, hlocks⟩ hK hPc hDc rfl rfl hS hFc (m_X2_begin l dC dI h cy _ fu σ (σ.1 15) _ hF) k_X2_begin q232 ⟨rfl, rfl⟩ ⟨Nat.le_of_ble_eq_true rfl, Nat.le_of_ble_eq_true rfl⟩ hl.1 rfl rfl (Nat.le_of_ble_eq_true rfl) dX3_highest_8 ⟨Nat.le_of_ble_eq_true rfl, Nat.le_of_ble_eq_true rfl⟩ (fun u H1 locs hF hP1 hD1 hk1 hS => ?_)
  obtain ⟨s8, rfl⟩ : ∃ z, z = u := ⟨_, rfl⟩
  obtain ⟨hP, hD⟩ := va_join (wr := [(h 16, .inr (3, [.ref (h 0), .ref (h 12), .ref (h 17), .ref (h 19), .int (σ.1 15), .int (σ.1 16)])), (h 17, .inr (1, [.ref (h 18), .int (σ.1 17)])), (h 18, .inl (cy 0, 12, .inl (σ.2.1 8))), (h 19, .inr (1, [.ref (h 20), .int (σ.1 18)])), (h 20, .inl (cy 0, 12, .inl (σ.2.1 9)))]) (w1 := wW h cy s8) hP hD [0, 1, 2, 3, 4, 5, 6, 7, 8, 9, 10, 11, 12, 13, 14, 15] [16, 17, 18, 19, 20] rfl rfl (by decide) (by decide) hk1 hFc hP1 hD1
  have hP := hP.sub (ws' := wH h cy (mgX2 σ s8)) [5, 6, 7, 8, 9, 10, 11, 12, 13, 14, 15, 16, 17, 18, 19, 20, 0, 1, 2, 3, 4] rfl
  have hD := hD.sub (ws' := wH h cy (mgX2 σ s8)) [5, 6, 7, 8, 9, 10, 11, 12, 13, 14, 15, 16, 17, 18, 19, 20, 0, 1, 2, 3, 4] (by decide) rfl
  generalize H1 = H at hP hS ⊢
  have hP : va_P (dC, dI) classes (wH h cy (mgX2 σ s8)) H := hP
  have hD : va_D A (wH h cy (mgX2 σ s8)) := hD
  refine lv_iconst (v := 0) hx hb dX3_highest_11 (by decide) ?_
  refine lv_istore_n (lv' := [(1, .int 0), (0, .ref (h 16))]) hx hb dX3_highest_12 rfl hl (by decide) rfl (fun ls hl => ?_)
  have hX13 : (X "java/util/NoSuchElementException" (mgX2 σ s8)) → ∀ (H : Heap) (locs : List Loc), va_P (dC, dI) classes (wH h cy (mgX2 σ s8)) H → va_D A (wH h cy (mgX2 σ s8)) → va_S A s.heap H locs → ∀ (ls : Array Slot), lv_has ls 2 [] → W p l e ({ frames := 6, cells := 1, slots := 6, locals := 90 } : Room) s m ([.ref (h 16)] : List Value).toArray below meth c H locs 0 0 (vx_MQ below (va_Qi (fun r u => P r u) (fun (u : SX) t => va_P (dC, dI) classes (wH h cy u) t.heap ∧ va_D A (wH h cy u)) A) (QxT dC dI (fun (u : SX) => wH h cy u) X A) ([.ref (h 16)] : List Value).toArray s 1 6 A) (F0 m 56 ls []) := by
    intro hF H locs hP hD hS ls hl
    exact thrN (u := mgX2 σ s8) (wn := fun (u : SX) => wH h cy u) (X := X) ⟨hx, hb, hr, hml, hown, hts, hlocks⟩ hno hl9 hK.2 rfl hXS hXZ hS hl.1 hP hD 13 rfl at_95_97 dX3_highest_56 dX3_highest_59 dX3_highest_60 dX3_highest_62 dX3_highest_65 (Nat.le_of_ble_eq_true rfl) (Nat.le_of_ble_eq_true rfl) (Nat.le_of_ble_eq_true rfl) (Nat.le_of_ble_eq_true rfl) (Nat.le_of_ble_eq_true rfl) (Nat.le_of_ble_eq_true rfl) hF
  have hL13 : ∀ (K13 : Prop), (K13 → ∀ (H : Heap) (locs : List Loc), va_P (dC, dI) classes (wH h cy (mgX2 σ s8)) H → va_D A (wH h cy (mgX2 σ s8)) → va_S A s.heap H locs → ∀ (ls : Array Slot), lv_has ls 2 [] → W p l e ({ frames := 6, cells := 1, slots := 6, locals := 90 } : Room) s m ([.ref (h 16)] : List Value).toArray below meth c H locs 0 0 (vx_MQ below (va_Qi (fun r u => P r u) (fun (u : SX) t => va_P (dC, dI) classes (wH h cy u) t.heap ∧ va_D A (wH h cy u)) A) (QxT dC dI (fun (u : SX) => wH h cy u) X A) ([.ref (h 16)] : List Value).toArray s 1 6 A) (F0 m 56 ls [])) → ∀ (nn : Nat), ∀ (v1_13 : Int32), wp_X3_highest_L13 σ P s8 K13 nn v1_13 → ∀ (H : Heap) (locs : List Loc), va_P (dC, dI) classes (wH h cy (mgX2 σ s8)) H → va_D A (wH h cy (mgX2 σ s8)) → va_S A s.heap H locs → ∀ (ls : Array Slot), lv_has ls 2 [(1, .int v1_13), (0, .ref (h 16))] → W p l e ({ frames := 6, cells := 1, slots := 6, locals := 90 } : Room) s m ([.ref (h 16)] : List Value).toArray below meth c H locs 0 0 (vx_MQ below (va_Qi (fun r u => P r u) (fun (u : SX) t => va_P (dC, dI) classes (wH h cy u) t.heap ∧ va_D A (wH h cy u)) A) (QxT dC dI (fun (u : SX) => wH h cy u) X A) ([.ref (h 16)] : List Value).toArray s 1 6 A) (F0 m 13 ls []) := by
    intro K13 hX13 nn
    induction nn with
    | zero =>
      intro v1_13 hF
      exact hF.elim
    | succ nn ih =>
      intro v1_13 hF H locs hP hD hS ls hl
      obtain ⟨rec13, hrec⟩ : ∃ z : Int32 → Prop, z = wp_X3_highest_L13 σ P s8 K13 nn := ⟨_, rfl⟩
      have hF : wp_X3_highest_B13 σ P s8 K13 rec13 v1_13 := by rw [hrec]; exact hF
      rw [← hrec] at ih
      clear hrec
      unfold wp_X3_highest_B13 at hF
      refine lv_iload_n hx hb dX3_highest_13 rfl (lv_at hl 0 rfl) ?_
      refine lv_aload_n hx hb dX3_highest_14 rfl (lv_at hl 1 rfl) ?_
      refine va_get (D := (dC, dI)) (ci := 3) (v := .ref (h 0)) (C := RX3) (T := TX3) (N := 6) hx hb hts in_X3 hown hK.1 hP 16 rfl rfl 0 (by decide) (hts _ q141) (fun _ h9 => h9) rfl dX3_highest_15 ?_
      have hPc := hP.sub (ws' := wB h cy (mgX2 σ s8)) [0, 1, 2, 3, 4, 5, 6, 7, 8, 9, 10, 11] rfl
      refine cpVi (q0 := 0) (As := []) (rest := [.int v1_13]) ⟨hx, hb, hr, hml, hown, hts, hlocks⟩ hK hPc rfl rfl (m_X0_holes l dC dI h cy (mgX2 σ s8)  _ hF) k_X0_holes q350 ⟨rfl, rfl⟩ ⟨Nat.le_of_ble_eq_true rfl, Nat.le_of_ble_eq_true rfl⟩ hl.1 rfl rfl (Nat.le_of_ble_eq_true rfl) dX3_highest_18 ⟨Nat.le_of_ble_eq_true rfl, Nat.le_of_ble_eq_true rfl⟩ (fun r18 hF => ?_)
      refine lv_icmp_ge (tgt := 56) hx hb dX3_highest_21 (by decide) (fun cz => ?_) (fun cz => ?_)
      · have hF := hF.1 cz
        exact hX13 hF _ _ hP hD hS _ (lv_sub hl [] rfl)
      · have hF := hF.2 cz
        refine lv_aload_n hx hb dX3_highest_24 rfl (lv_at hl 1 rfl) ?_
        refine va_get (D := (dC, dI)) (ci := 3) (v := .ref (h 12)) (C := RX3) (T := TX3) (N := 6) hx hb hts in_X3 hown hK.1 hP 16 rfl rfl 1 (by decide) (hts _ q142) (fun _ h9 => h9) rfl dX3_highest_25 ?_
        refine va_getN (D := (dC, dI)) (ci := 2) (v := .int (s8.1 11)) (C := RX2) (T := TX2) (N := 12) hx hb hts in_X2 hown hK.1 hP 12 rfl rfl 8 (by decide) (va_Nw.use rfl hK.2.2.2.2.2.2.1) (fun _ h9 => h9) rfl dX3_highest_28 ?_
        refine lv_iload_n hx hb dX3_highest_31 rfl (lv_at hl 0 rfl) ?_
        refine lv_ishr hx hb dX3_highest_32 ?_
        refine lv_iconst (v := 1) hx hb dX3_highest_33 (by decide) ?_
        refine lv_iand hx hb dX3_highest_34 ?_
        refine lv_iconst (v := 1) hx hb dX3_highest_35 (by decide) ?_
        refine lv_icmp_ne (tgt := 50) hx hb dX3_highest_36 (by decide) (fun cz => ?_) (fun cz => ?_)
        · have hF := hF.1 cz
          refine lv_iinc (v := v1_13 + 1) (lv' := [(1, .int (v1_13 + 1)), (0, .ref (h 16))]) hx hb dX3_highest_50 hl (k := 0) rfl (by rfl) (by decide) rfl (fun ls hl => ?_)
          refine lv_goto (tgt := 13) hx hb dX3_highest_53 (by decide) ?_
          exact ih (v1_13 + 1) hF _ _ hP hD hS _ (lv_sub hl [0, 1] rfl)
        · have hF := hF.2 cz
          refine lv_aload_n hx hb dX3_highest_39 rfl (lv_at hl 1 rfl) ?_
          refine va_get (D := (dC, dI)) (ci := 3) (v := .ref (h 0)) (C := RX3) (T := TX3) (N := 6) hx hb hts in_X3 hown hK.1 hP 16 rfl rfl 0 (by decide) (hts _ q141) (fun _ h9 => h9) rfl dX3_highest_40 ?_
          refine lv_iload_n hx hb dX3_highest_43 rfl (lv_at hl 0 rfl) ?_
          have hPc := hP.sub (ws' := wB h cy (mgX2 σ s8)) [0, 1, 2, 3, 4, 5, 6, 7, 8, 9, 10, 11] rfl
          refine cpVi (q0 := 0) (As := [.int v1_13]) (rest := []) ⟨hx, hb, hr, hml, hown, hts, hlocks⟩ hK hPc rfl rfl (m_X0_cellOf l dC dI h cy (mgX2 σ s8) v1_13 _ hF) k_X0_cellOf q355 ⟨rfl, rfl⟩ ⟨Nat.le_of_ble_eq_true rfl, Nat.le_of_ble_eq_true rfl⟩ hl.1 rfl rfl (Nat.le_of_ble_eq_true rfl) dX3_highest_44 ⟨Nat.le_of_ble_eq_true rfl, Nat.le_of_ble_eq_true rfl⟩ (fun r44 hF => ?_)
          refine lv_iconst (v := 5) hx hb dX3_highest_47 (by decide) ?_
          refine lv_idiv hx hb dX3_highest_48 (by decide) ?_
          refine vx_ret (W.widen (k := 1) (n := 6) (Nat.le_of_ble_eq_true rfl) (Nat.le_of_ble_eq_true rfl) ?_)
          exact W.iret (v := r44 / 5) hx hb hr (fun t ht hW => ⟨⟨r44 / 5, mgX2 σ s8, rfl, hF, by rw [ht]; exact hP, hD⟩, hS.F ht⟩) hS.2.2 dX3_highest_49
  exact hL13 _ hX13 fu 0 hF _ _ hP hD hS _ (lv_sub hl [0, 1] rfl)
theorem dX3_hint_0 : decode cX3_hint 0 = .ok (.aload_n 0, 1) := by decide +kernel
theorem dX3_hint_1 : decode cX3_hint 1 = .ok (.getfield 21, 3) := by decide +kernel
theorem dX3_hint_4 : decode cX3_hint 4 = .ok (.aload_n 0, 1) := by decide +kernel
theorem dX3_hint_5 : decode cX3_hint 5 = .ok (.getfield 83, 3) := by decide +kernel
theorem dX3_hint_8 : decode cX3_hint 8 = .ok (.invokevirtual 169, 3) := by decide +kernel
theorem dX3_hint_11 : decode cX3_hint 11 = .ok (.aload_n 0, 1) := by decide +kernel
theorem dX3_hint_12 : decode cX3_hint 12 = .ok (.getfield 21, 3) := by decide +kernel
theorem dX3_hint_15 : decode cX3_hint 15 = .ok (.aload_n 0, 1) := by decide +kernel
theorem dX3_hint_16 : decode cX3_hint 16 = .ok (.getfield 87, 3) := by decide +kernel
theorem dX3_hint_19 : decode cX3_hint 19 = .ok (.invokevirtual 176, 3) := by decide +kernel
theorem dX3_hint_22 : decode cX3_hint 22 = .ok (.aload_n 0, 1) := by decide +kernel
theorem dX3_hint_23 : decode cX3_hint 23 = .ok (.iconst 1, 1) := by decide +kernel
theorem dX3_hint_24 : decode cX3_hint 24 = .ok (.invokevirtual 179, 3) := by decide +kernel
theorem dX3_hint_27 : decode cX3_hint 27 = .ok (.istore_n 1, 1) := by decide +kernel
theorem dX3_hint_28 : decode cX3_hint 28 = .ok (.iload_n 1, 1) := by decide +kernel
theorem dX3_hint_29 : decode cX3_hint 29 = .ok (.iconst (-1), 1) := by decide +kernel
theorem dX3_hint_30 : decode cX3_hint 30 = .ok (.if_icmp .ne 13, 3) := by decide +kernel
theorem dX3_hint_33 : decode cX3_hint 33 = .ok (.new 95, 3) := by decide +kernel
theorem dX3_hint_36 : decode cX3_hint 36 = .ok (.dup, 1) := by decide +kernel
theorem dX3_hint_37 : decode cX3_hint 37 = .ok (.ldc 182, 2) := by decide +kernel
theorem dX3_hint_39 : decode cX3_hint 39 = .ok (.invokespecial 97, 3) := by decide +kernel
theorem dX3_hint_42 : decode cX3_hint 42 = .ok (.athrow, 1) := by decide +kernel
theorem dX3_hint_43 : decode cX3_hint 43 = .ok (.aload_n 0, 1) := by decide +kernel
theorem dX3_hint_44 : decode cX3_hint 44 = .ok (.getfield 10, 3) := by decide +kernel
theorem dX3_hint_47 : decode cX3_hint 47 = .ok (.iload_n 1, 1) := by decide +kernel
theorem dX3_hint_48 : decode cX3_hint 48 = .ok (.invokevirtual 139, 3) := by decide +kernel
theorem dX3_hint_51 : decode cX3_hint 51 = .ok (.ireturn, 1) := by decide +kernel
def wp_X3_hint (fu : Nat) (σ : SX) (P : Int32 → SX → Prop) (X : String → SX → Prop) : Prop := (wp_X2_begin fu σ (σ.1 15) (fun s8 => (wp_X2_figureLeads fu (mgX2 σ s8) (σ.1 16) (fun s19 => (wp_X3_lineTo fu (mgX2 (mgX2 σ s8) s19) 1 (fun r24 => ((¬ r24 = (-1) → (wp_X0_codeOf (mgX2 (mgX2 σ s8) s19) r24 (fun r48 => (P r48 (mgX2 (mgX2 σ s8) s19))))) ∧ (r24 = (-1) → (X "java/util/NoSuchElementException" (mgX2 (mgX2 σ s8) s19))))))))))
theorem k_X3_hint : KV RX3 yX3_hint cX3_hint 2 (some .int) 0 := ⟨q726, q727, q1, q728, by decide +kernel⟩
set_option maxHeartbeats 4000000 in
set_option maxRecDepth 100000 in
theorem m_X3_hint (l : Launch) (hl9 : l.stackTraces = false) (dC : Nat → ClassId) (dI : Nat → Nat → Nat) (h : Nat → Nat) (cy : Nat → ClassId) (sa : Nat → Nat) (sz : Nat) (fu : Nat) (σ : SX) (P : Int32 → SX → Prop) (X : String → SX → Prop) (hF : wp_X3_hint fu σ P X) : vx_Met l yX3_hint (ws_ yX3_hint cX3_hint 2 (some .int)) ({ frames := 6, cells := 1, slots := 6, locals := 90 } : Room) (va_Pc [.ref (h 16)] (PcT dC dI cy sa (wH h cy σ) sz)) (va_Qi (fun r u => P r u) (fun (u : SX) t => va_P (dC, dI) classes (wH h cy u) t.heap ∧ va_D (va_A (wH h cy σ) sz) (wH h cy u)) (va_A (wH h cy σ) sz)) (QxT dC dI (fun (u : SX) => wH h cy u) X (va_A (wH h cy σ) sz)) 1 6 (va_A (wH h cy σ) sz) := by
  refine vx_Met.ofCx (own := RX3) (by decide) rfl (Nat.le_of_ble_eq_true rfl) ?_
  intro p e s m below meth c hC hno hv ls hl
  obtain ⟨hx, hb, hr, hml, hown, hts, hlocks⟩ := hC
  have hl : lv_has ls 2 [(0, .ref (h 16))] := hl
  obtain ⟨hsz, hP, hK, hD0, hXS, hXZ⟩ := hv
  subst hsz
  have hD := hD0.self (sz := s.heap.size)
  generalize hAe : va_A (wH h cy σ) s.heap.size = A at hD hXZ ⊢
  have hA : ∀ q : Nat, s.heap.size ≤ q → A q := fun q h => by rw [← hAe]; exact Or.inr h
  have hS : va_S A s.heap s.heap [] := va_S.rf
  clear hAe
  unfold wp_X3_hint at hF
  refine lv_aload_n hx hb dX3_hint_0 rfl (lv_at hl 0 rfl) ?_
  refine va_get (D := (dC, dI)) (ci := 3) (v := .ref (h 12)) (C := RX3) (T := TX3) (N := 6) hx hb hts in_X3 hown hK.1 hP 16 rfl rfl 1 (by decide) (hts _ q142) (fun _ h9 => h9) rfl dX3_hint_1 ?_
  refine lv_aload_n hx hb dX3_hint_4 rfl (lv_at hl 0 rfl) ?_
  refine va_get (D := (dC, dI)) (ci := 3) (v := .int (σ.1 15)) (C := RX3) (T := TX3) (N := 6) hx hb hts in_X3 hown hK.1 hP 16 rfl rfl 4 (by decide) (hts _ q145) (fun _ h9 => h9) rfl dX3_hint_5 ?_
  have hPc := hP.sub (ws' := wW h cy σ) [0, 1, 2, 3, 4, 5, 6, 7, 8, 9, 10, 11, 12, 13, 14, 15] rfl
  have hDc := hD.sub (ws' := wW h cy σ) [0, 1, 2, 3, 4, 5, 6, 7, 8, 9, 10, 11, 12, 13, 14, 15] (by decide) rfl
  have hFc := va_free (wc := wW h cy σ) hD hS hA [0, 1, 2, 3, 4, 5, 6, 7, 8, 9, 10, 11, 12, 13, 14, 15] rfl
  refine cwVv (q0 := 12) (As := [.int (σ.1 15)]) (rest := []) ⟨hx, hb, hr, hml, hown, hts, hlocks⟩ hK hPc hDc rfl rfl hS hFc (m_X2_begin l dC dI h cy _ fu σ (σ.1 15) _ hF) k_X2_begin q232 ⟨rfl, rfl⟩ ⟨Nat.le_of_ble_eq_true rfl, Nat.le_of_ble_eq_true rfl⟩ hl.1 rfl rfl (Nat.le_of_ble_eq_true rfl) dX3_hint_8 ⟨Nat.le_of_ble_eq_true rfl, Nat.le_of_ble_eq_true rfl⟩ (fun u H1 locs hF hP1 hD1 hk1 hS => ?_)
  obtain ⟨s8, rfl⟩ : ∃ z, z = u := ⟨_, rfl⟩
  obtain ⟨hP, hD⟩ := va_join (wr := [(h 16, .inr (3, [.ref (h 0), .ref (h 12), .ref (h 17), .ref (h 19), .int (σ.1 15), .int (σ.1 16)])), (h 17, .inr (1, [.ref (h 18), .int (σ.1 17)])), (h 18, .inl (cy 0, 12, .inl (σ.2.1 8))), (h 19, .inr (1, [.ref (h 20), .int (σ.1 18)])), (h 20, .inl (cy 0, 12, .inl (σ.2.1 9)))]) (w1 := wW h cy s8) hP hD [0, 1, 2, 3, 4, 5, 6, 7, 8, 9, 10, 11, 12, 13, 14, 15] [16, 17, 18, 19, 20] rfl rfl (by decide) (by decide) hk1 hFc hP1 hD1
  have hP := hP.sub (ws' := wH h cy (mgX2 σ s8)) [5, 6, 7, 8, 9, 10, 11, 12, 13, 14, 15, 16, 17, 18, 19, 20, 0, 1, 2, 3, 4] rfl
  have hD := hD.sub (ws' := wH h cy (mgX2 σ s8)) [5, 6, 7, 8, 9, 10, 11, 12, 13, 14, 15, 16, 17, 18, 19, 20, 0, 1, 2, 3, 4] (by decide) rfl
  generalize H1 = H at hP hS ⊢
  have hP : va_P (dC, dI) classes (wH h cy (mgX2 σ s8)) H := hP
  have hD : va_D A (wH h cy (mgX2 σ s8)) := hD
  refine lv_aload_n hx hb dX3_hint_11 rfl (lv_at hl 0 rfl) ?_
  refine va_get (D := (dC, dI)) (ci := 3) (v := .ref (h 12)) (C := RX3) (T := TX3) (N := 6) hx hb hts in_X3 hown hK.1 hP 16 rfl rfl 1 (by decide) (hts _ q142) (fun _ h9 => h9) rfl dX3_hint_12 ?_
  refine lv_aload_n hx hb dX3_hint_15 rfl (lv_at hl 0 rfl) ?_
  refine va_get (D := (dC, dI)) (ci := 3) (v := .int (σ.1 16)) (C := RX3) (T := TX3) (N := 6) hx hb hts in_X3 hown hK.1 hP 16 rfl rfl 5 (by decide) (hts _ q146) (fun _ h9 => h9) rfl dX3_hint_16 ?_
  have hPc := hP.sub (ws' := wW h cy (mgX2 σ s8)) [0, 1, 2, 3, 4, 5, 6, 7, 8, 9, 10, 11, 12, 13, 14, 15] rfl
  have hDc := hD.sub (ws' := wW h cy (mgX2 σ s8)) [0, 1, 2, 3, 4, 5, 6, 7, 8, 9, 10, 11, 12, 13, 14, 15] (by decide) rfl
  have hFc := va_free (wc := wW h cy (mgX2 σ s8)) hD hS hA [0, 1, 2, 3, 4, 5, 6, 7, 8, 9, 10, 11, 12, 13, 14, 15] rfl
  refine cwVv (q0 := 12) (As := [.int (σ.1 16)]) (rest := []) ⟨hx, hb, hr, hml, hown, hts, hlocks⟩ hK hPc hDc rfl rfl hS hFc (m_X2_figureLeads l dC dI h cy _ fu (mgX2 σ s8) (σ.1 16) _ hF) k_X2_figureLeads q729 ⟨rfl, rfl⟩ ⟨Nat.le_of_ble_eq_true rfl, Nat.le_of_ble_eq_true rfl⟩ hl.1 rfl rfl (Nat.le_of_ble_eq_true rfl) dX3_hint_19 ⟨Nat.le_of_ble_eq_true rfl, Nat.le_of_ble_eq_true rfl⟩ (fun u H1 locs hF hP1 hD1 hk1 hS => ?_)
  obtain ⟨s19, rfl⟩ : ∃ z, z = u := ⟨_, rfl⟩
  obtain ⟨hP, hD⟩ := va_join (wr := [(h 16, .inr (3, [.ref (h 0), .ref (h 12), .ref (h 17), .ref (h 19), .int (σ.1 15), .int (σ.1 16)])), (h 17, .inr (1, [.ref (h 18), .int (σ.1 17)])), (h 18, .inl (cy 0, 12, .inl (σ.2.1 8))), (h 19, .inr (1, [.ref (h 20), .int (σ.1 18)])), (h 20, .inl (cy 0, 12, .inl (σ.2.1 9)))]) (w1 := wW h cy s19) hP hD [0, 1, 2, 3, 4, 5, 6, 7, 8, 9, 10, 11, 12, 13, 14, 15] [16, 17, 18, 19, 20] rfl rfl (by decide) (by decide) hk1 hFc hP1 hD1
  have hP := hP.sub (ws' := wH h cy (mgX2 (mgX2 σ s8) s19)) [5, 6, 7, 8, 9, 10, 11, 12, 13, 14, 15, 16, 17, 18, 19, 20, 0, 1, 2, 3, 4] rfl
  have hD := hD.sub (ws' := wH h cy (mgX2 (mgX2 σ s8) s19)) [5, 6, 7, 8, 9, 10, 11, 12, 13, 14, 15, 16, 17, 18, 19, 20, 0, 1, 2, 3, 4] (by decide) rfl
  generalize H1 = H at hP hS ⊢
  have hP : va_P (dC, dI) classes (wH h cy (mgX2 (mgX2 σ s8) s19)) H := hP
  have hD : va_D A (wH h cy (mgX2 (mgX2 σ s8) s19)) := hD
  refine lv_aload_n hx hb dX3_hint_22 rfl (lv_at hl 0 rfl) ?_
  refine lv_iconst (v := 1) hx hb dX3_hint_23 (by decide) ?_
  refine cpVi (q0 := 16) (As := [.int 1]) (rest := []) ⟨hx, hb, hr, hml, hown, hts, hlocks⟩ hK hP rfl rfl (m_X3_lineTo l dC dI h cy fu (mgX2 (mgX2 σ s8) s19) 1 _ hF) k_X3_lineTo q737 ⟨rfl, rfl⟩ ⟨Nat.le_of_ble_eq_true rfl, Nat.le_of_ble_eq_true rfl⟩ hl.1 rfl rfl (Nat.le_of_ble_eq_true rfl) dX3_hint_24 ⟨Nat.le_of_ble_eq_true rfl, Nat.le_of_ble_eq_true rfl⟩ (fun r24 hF => ?_)
  refine lv_istore_n (lv' := [(1, .int r24), (0, .ref (h 16))]) hx hb dX3_hint_27 rfl hl (by decide) rfl (fun ls hl => ?_)
  refine lv_iload_n hx hb dX3_hint_28 rfl (lv_at hl 0 rfl) ?_
  refine lv_iconst (v := (-1)) hx hb dX3_hint_29 (by decide) ?_
  refine lv_icmp_ne (tgt := 43) hx hb dX3_hint_30 (by decide) (fun cz => ?_) (fun cz => ?_)
  · have hF := hF.1 cz
    refine lv_aload_n hx hb dX3_hint_43 rfl (lv_at hl 1 rfl) ?_
    refine va_get (D := (dC, dI)) (ci := 3) (v := .ref (h 0)) (C := RX3) (T := TX3) (N := 6) hx hb hts in_X3 hown hK.1 hP 16 rfl rfl 0 (by decide) (hts _ q141) (fun _ h9 => h9) rfl dX3_hint_44 ?_
    refine lv_iload_n hx hb dX3_hint_47 rfl (lv_at hl 0 rfl) ?_
    have hPc := hP.sub (ws' := wB h cy (mgX2 (mgX2 σ s8) s19)) [0, 1, 2, 3, 4, 5, 6, 7, 8, 9, 10, 11] rfl
    refine cpVi (q0 := 0) (As := [.int r24]) (rest := []) ⟨hx, hb, hr, hml, hown, hts, hlocks⟩ hK hPc rfl rfl (m_X0_codeOf l dC dI h cy (mgX2 (mgX2 σ s8) s19) r24 _ hF) k_X0_codeOf q685 ⟨rfl, rfl⟩ ⟨Nat.le_of_ble_eq_true rfl, Nat.le_of_ble_eq_true rfl⟩ hl.1 rfl rfl (Nat.le_of_ble_eq_true rfl) dX3_hint_48 ⟨Nat.le_of_ble_eq_true rfl, Nat.le_of_ble_eq_true rfl⟩ (fun r48 hF => ?_)
    refine vx_ret (W.widen (k := 1) (n := 6) (Nat.le_of_ble_eq_true rfl) (Nat.le_of_ble_eq_true rfl) ?_)
    exact W.iret (v := r48) hx hb hr (fun t ht hW => ⟨⟨r48, mgX2 (mgX2 σ s8) s19, rfl, hF, by rw [ht]; exact hP, hD⟩, hS.F ht⟩) hS.2.2 dX3_hint_51
  · have hF := hF.2 cz
    exact thrN (u := mgX2 (mgX2 σ s8) s19) (wn := fun (u : SX) => wH h cy u) (X := X) ⟨hx, hb, hr, hml, hown, hts, hlocks⟩ hno hl9 hK.2 rfl hXS hXZ hS hl.1 hP hD 10 rfl at_95_97 dX3_hint_33 dX3_hint_36 dX3_hint_37 dX3_hint_39 dX3_hint_42 (Nat.le_of_ble_eq_true rfl) (Nat.le_of_ble_eq_true rfl) (Nat.le_of_ble_eq_true rfl) (Nat.le_of_ble_eq_true rfl) (Nat.le_of_ble_eq_true rfl) (Nat.le_of_ble_eq_true rfl) hF
theorem dX3_hole_0 : decode cX3_hole 0 = .ok (.iload_n 1, 1) := by decide +kernel
theorem dX3_hole_1 : decode cX3_hole 1 = .ok (.invokestatic 55, 3) := by decide +kernel
theorem dX3_hole_4 : decode cX3_hole 4 = .ok (.aload_n 0, 1) := by decide +kernel
theorem dX3_hole_5 : decode cX3_hole 5 = .ok (.getfield 10, 3) := by decide +kernel
theorem dX3_hole_8 : decode cX3_hole 8 = .ok (.iload_n 1, 1) := by decide +kernel
theorem dX3_hole_9 : decode cX3_hole 9 = .ok (.invokevirtual 58, 3) := by decide +kernel
theorem dX3_hole_12 : decode cX3_hole 12 = .ok (.ifCond .ne 13, 3) := by decide +kernel
theorem dX3_hole_15 : decode cX3_hole 15 = .ok (.new 95, 3) := by decide +kernel
theorem dX3_hole_18 : decode cX3_hole 18 = .ok (.dup, 1) := by decide +kernel
theorem dX3_hole_19 : decode cX3_hole 19 = .ok (.ldc 90, 2) := by decide +kernel
theorem dX3_hole_21 : decode cX3_hole 21 = .ok (.invokespecial 97, 3) := by decide +kernel
theorem dX3_hole_24 : decode cX3_hole 24 = .ok (.athrow, 1) := by decide +kernel
theorem dX3_hole_25 : decode cX3_hole 25 = .ok (.aload_n 0, 1) := by decide +kernel
theorem dX3_hole_26 : decode cX3_hole 26 = .ok (.getfield 10, 3) := by decide +kernel
theorem dX3_hole_29 : decode cX3_hole 29 = .ok (.iload_n 1, 1) := by decide +kernel
theorem dX3_hole_30 : decode cX3_hole 30 = .ok (.invokevirtual 79, 3) := by decide +kernel
theorem dX3_hole_33 : decode cX3_hole 33 = .ok (.ireturn, 1) := by decide +kernel
def wp_X3_hole (σ : SX) (x1 : Int32) (P : Int32 → SX → Prop) (X : String → SX → Prop) : Prop := (wp_X3_requireCell x1 (wp_X0_isHole σ x1 (fun r9 => ((¬ r9 = 0 → (wp_X0_numberOf σ x1 (fun r30 => (P r30 σ)))) ∧ (r9 = 0 → (X "java/util/NoSuchElementException" σ))))) (fun E => X E σ))
theorem k_X3_hole : KV RX3 yX3_hole cX3_hole 2 (some .int) 1 := ⟨q571, q572, q1, q573, by decide +kernel⟩
set_option maxHeartbeats 4000000 in
set_option maxRecDepth 100000 in
theorem m_X3_hole (l : Launch) (hl9 : l.stackTraces = false) (dC : Nat → ClassId) (dI : Nat → Nat → Nat) (h : Nat → Nat) (cy : Nat → ClassId) (sa : Nat → Nat) (sz : Nat) (σ : SX) (x1 : Int32) (P : Int32 → SX → Prop) (X : String → SX → Prop) (hF : wp_X3_hole σ x1 P X) : vx_Met l yX3_hole (ws_ yX3_hole cX3_hole 2 (some .int)) ({ frames := 7, cells := 2, slots := 12, locals := 110 } : Room) (va_Pc [.ref (h 16), .int x1] (PcT dC dI cy sa (wH h cy σ) sz)) (va_Qi (fun r u => P r u) (fun (u : SX) t => va_P (dC, dI) classes (wH h cy u) t.heap ∧ va_D (va_A (wH h cy σ) sz) (wH h cy u)) (va_A (wH h cy σ) sz)) (QxT dC dI (fun (u : SX) => wH h cy u) X (va_A (wH h cy σ) sz)) 2 12 (va_A (wH h cy σ) sz) := by
  refine vx_Met.ofCx (own := RX3) (by decide) rfl (Nat.le_of_ble_eq_true rfl) ?_
  intro p e s m below meth c hC hno hv ls hl
  obtain ⟨hx, hb, hr, hml, hown, hts, hlocks⟩ := hC
  have hl : lv_has ls 2 [(0, .ref (h 16)), (1, .int x1)] := hl
  obtain ⟨hsz, hP, hK, hD0, hXS, hXZ⟩ := hv
  subst hsz
  have hD := hD0.self (sz := s.heap.size)
  generalize hAe : va_A (wH h cy σ) s.heap.size = A at hD hXZ ⊢
  have hA : ∀ q : Nat, s.heap.size ≤ q → A q := fun q h => by rw [← hAe]; exact Or.inr h
  have hS : va_S A s.heap s.heap [] := va_S.rf
  clear hAe
  unfold wp_X3_hole at hF
  refine lv_iload_n hx hb dX3_hole_0 rfl (lv_at hl 1 rfl) ?_
  refine cxSv (u := σ) (wn := fun u => wH h cy u) (As := [.int x1]) (rest := []) ⟨hx, hb, hr, hml, hown, hts, hlocks⟩ hno hK hXS hXZ hP hD hS hA (m_X3_requireCell l hl9 dC dI cy sa _ x1 _ (fun E => X E σ) hF) k_X3_requireCell q508 ⟨rfl, rfl⟩ ⟨Nat.le_of_ble_eq_true rfl, Nat.le_of_ble_eq_true rfl⟩ hl.1 rfl rfl (Nat.le_of_ble_eq_true rfl) dX3_hole_1 ⟨Nat.le_of_ble_eq_true rfl, Nat.le_of_ble_eq_true rfl⟩ ⟨Nat.le_of_ble_eq_true rfl, Nat.le_of_ble_eq_true rfl⟩ (fun H1 locs hF hP1 hS => ?_)
  have hP := hP1
  generalize H1 = H at hP hS ⊢
  have hP : va_P (dC, dI) classes (wH h cy σ) H := hP
  refine lv_aload_n hx hb dX3_hole_4 rfl (lv_at hl 0 rfl) ?_
  refine va_get (D := (dC, dI)) (ci := 3) (v := .ref (h 0)) (C := RX3) (T := TX3) (N := 6) hx hb hts in_X3 hown hK.1 hP 16 rfl rfl 0 (by decide) (hts _ q141) (fun _ h9 => h9) rfl dX3_hole_5 ?_
  refine lv_iload_n hx hb dX3_hole_8 rfl (lv_at hl 1 rfl) ?_
  have hPc := hP.sub (ws' := wB h cy σ) [0, 1, 2, 3, 4, 5, 6, 7, 8, 9, 10, 11] rfl
  refine cpVi (q0 := 0) (As := [.int x1]) (rest := []) ⟨hx, hb, hr, hml, hown, hts, hlocks⟩ hK hPc rfl rfl (m_X0_isHole l dC dI h cy σ x1 _ hF) k_X0_isHole q512 ⟨rfl, rfl⟩ ⟨Nat.le_of_ble_eq_true rfl, Nat.le_of_ble_eq_true rfl⟩ hl.1 rfl rfl (Nat.le_of_ble_eq_true rfl) dX3_hole_9 ⟨Nat.le_of_ble_eq_true rfl, Nat.le_of_ble_eq_true rfl⟩ (fun r9 hF => ?_)
  refine lv_if_ne (tgt := 25) hx hb dX3_hole_12 (by decide) (fun cz => ?_) (fun cz => ?_)
  · have hF := hF.1 cz
    refine lv_aload_n hx hb dX3_hole_25 rfl (lv_at hl 0 rfl) ?_
    refine va_get (D := (dC, dI)) (ci := 3) (v := .ref (h 0)) (C := RX3) (T := TX3) (N := 6) hx hb hts in_X3 hown hK.1 hP 16 rfl rfl 0 (by decide) (hts _ q141) (fun _ h9 => h9) rfl dX3_hole_26 ?_
    refine lv_iload_n hx hb dX3_hole_29 rfl (lv_at hl 1 rfl) ?_
    have hPc := hP.sub (ws' := wB h cy σ) [0, 1, 2, 3, 4, 5, 6, 7, 8, 9, 10, 11] rfl
    refine cpVi (q0 := 0) (As := [.int x1]) (rest := []) ⟨hx, hb, hr, hml, hown, hts, hlocks⟩ hK hPc rfl rfl (m_X0_numberOf l dC dI h cy σ x1 _ hF) k_X0_numberOf q553 ⟨rfl, rfl⟩ ⟨Nat.le_of_ble_eq_true rfl, Nat.le_of_ble_eq_true rfl⟩ hl.1 rfl rfl (Nat.le_of_ble_eq_true rfl) dX3_hole_30 ⟨Nat.le_of_ble_eq_true rfl, Nat.le_of_ble_eq_true rfl⟩ (fun r30 hF => ?_)
    refine vx_ret (W.widen (k := 2) (n := 12) (Nat.le_of_ble_eq_true rfl) (Nat.le_of_ble_eq_true rfl) ?_)
    exact W.iret (v := r30) hx hb hr (fun t ht hW => ⟨⟨r30, σ, rfl, hF, by rw [ht]; exact hP, hD⟩, hS.F ht⟩) hS.2.2 dX3_hole_33
  · have hF := hF.2 cz
    exact thrN (u := σ) (wn := fun (u : SX) => wH h cy u) (X := X) ⟨hx, hb, hr, hml, hown, hts, hlocks⟩ hno hl9 hK.2 rfl hXS hXZ hS hl.1 hP hD 4 rfl at_95_97 dX3_hole_15 dX3_hole_18 dX3_hole_19 dX3_hole_21 dX3_hole_24 (Nat.le_of_ble_eq_true rfl) (Nat.le_of_ble_eq_true rfl) (Nat.le_of_ble_eq_true rfl) (Nat.le_of_ble_eq_true rfl) (Nat.le_of_ble_eq_true rfl) (Nat.le_of_ble_eq_true rfl) hF
theorem dX3_isFit_0 : decode cX3_isFit 0 = .ok (.iload_n 1, 1) := by decide +kernel
theorem dX3_isFit_1 : decode cX3_isFit 1 = .ok (.invokestatic 230, 3) := by decide +kernel
theorem dX3_isFit_4 : decode cX3_isFit 4 = .ok (.aload_n 0, 1) := by decide +kernel
theorem dX3_isFit_5 : decode cX3_isFit 5 = .ok (.getfield 10, 3) := by decide +kernel
theorem dX3_isFit_8 : decode cX3_isFit 8 = .ok (.iload_n 1, 1) := by decide +kernel
theorem dX3_isFit_9 : decode cX3_isFit 9 = .ok (.invokevirtual 224, 3) := by decide +kernel
theorem dX3_isFit_12 : decode cX3_isFit 12 = .ok (.ireturn, 1) := by decide +kernel
def wp_X3_isFit (fu : Nat) (σ : SX) (x1 : Int32) (P : Int32 → SX → Prop) (X : String → SX → Prop) : Prop := (wp_X3_requireColouring x1 (wp_X0_isFitColouring fu σ x1 (fun r9 => (narrow .boolean (.int r9) = .int r9 ∧ (P r9 σ)))) (fun E => X E σ))
theorem k_X3_isFit : KV RX3 yX3_isFit cX3_isFit 2 (some .boolean) 1 := ⟨q822, q823, q1, q824, by decide +kernel⟩
set_option maxHeartbeats 4000000 in
set_option maxRecDepth 100000 in
theorem m_X3_isFit (l : Launch) (hl9 : l.stackTraces = false) (dC : Nat → ClassId) (dI : Nat → Nat → Nat) (h : Nat → Nat) (cy : Nat → ClassId) (sa : Nat → Nat) (sz : Nat) (fu : Nat) (σ : SX) (x1 : Int32) (P : Int32 → SX → Prop) (X : String → SX → Prop) (hF : wp_X3_isFit fu σ x1 P X) : vx_Met l yX3_isFit (ws_ yX3_isFit cX3_isFit 2 (some .boolean)) ({ frames := 7, cells := 1, slots := 6, locals := 110 } : Room) (va_Pc [.ref (h 16), .int x1] (PcT dC dI cy sa (wH h cy σ) sz)) (va_Qi (fun r u => P r u) (fun (u : SX) t => va_P (dC, dI) classes (wH h cy u) t.heap ∧ va_D (va_A (wH h cy σ) sz) (wH h cy u)) (va_A (wH h cy σ) sz)) (QxT dC dI (fun (u : SX) => wH h cy u) X (va_A (wH h cy σ) sz)) 1 6 (va_A (wH h cy σ) sz) := by
  refine vx_Met.ofCx (own := RX3) (by decide) rfl (Nat.le_of_ble_eq_true rfl) ?_
  intro p e s m below meth c hC hno hv ls hl
  obtain ⟨hx, hb, hr, hml, hown, hts, hlocks⟩ := hC
  have hl : lv_has ls 2 [(0, .ref (h 16)), (1, .int x1)] := hl
  obtain ⟨hsz, hP, hK, hD0, hXS, hXZ⟩ := hv
  subst hsz
  have hD := hD0.self (sz := s.heap.size)
  generalize hAe : va_A (wH h cy σ) s.heap.size = A at hD hXZ ⊢
  have hA : ∀ q : Nat, s.heap.size ≤ q → A q := fun q h => by rw [← hAe]; exact Or.inr h
  have hS : va_S A s.heap s.heap [] := va_S.rf
  clear hAe
  unfold wp_X3_isFit at hF
  refine lv_iload_n hx hb dX3_isFit_0 rfl (lv_at hl 1 rfl) ?_
  refine cxSv (u := σ) (wn := fun u => wH h cy u) (As := [.int x1]) (rest := []) ⟨hx, hb, hr, hml, hown, hts, hlocks⟩ hno hK hXS hXZ hP hD hS hA (m_X3_requireColouring l hl9 dC dI cy sa _ x1 _ (fun E => X E σ) hF) k_X3_requireColouring q813 ⟨rfl, rfl⟩ ⟨Nat.le_of_ble_eq_true rfl, Nat.le_of_ble_eq_true rfl⟩ hl.1 rfl rfl (Nat.le_of_ble_eq_true rfl) dX3_isFit_1 ⟨Nat.le_of_ble_eq_true rfl, Nat.le_of_ble_eq_true rfl⟩ ⟨Nat.le_of_ble_eq_true rfl, Nat.le_of_ble_eq_true rfl⟩ (fun H1 locs hF hP1 hS => ?_)
  have hP := hP1
  generalize H1 = H at hP hS ⊢
  have hP : va_P (dC, dI) classes (wH h cy σ) H := hP
  refine lv_aload_n hx hb dX3_isFit_4 rfl (lv_at hl 0 rfl) ?_
  refine va_get (D := (dC, dI)) (ci := 3) (v := .ref (h 0)) (C := RX3) (T := TX3) (N := 6) hx hb hts in_X3 hown hK.1 hP 16 rfl rfl 0 (by decide) (hts _ q141) (fun _ h9 => h9) rfl dX3_isFit_5 ?_
  refine lv_iload_n hx hb dX3_isFit_8 rfl (lv_at hl 1 rfl) ?_
  have hPc := hP.sub (ws' := wB h cy σ) [0, 1, 2, 3, 4, 5, 6, 7, 8, 9, 10, 11] rfl
  refine cpVi (q0 := 0) (As := [.int x1]) (rest := []) ⟨hx, hb, hr, hml, hown, hts, hlocks⟩ hK hPc rfl rfl (m_X0_isFitColouring l dC dI h cy fu σ x1 _ hF) k_X0_isFitColouring q300 ⟨rfl, rfl⟩ ⟨Nat.le_of_ble_eq_true rfl, Nat.le_of_ble_eq_true rfl⟩ hl.1 rfl rfl (Nat.le_of_ble_eq_true rfl) dX3_isFit_9 ⟨Nat.le_of_ble_eq_true rfl, Nat.le_of_ble_eq_true rfl⟩ (fun r9 hF => ?_)
  refine vx_ret (W.widen (k := 1) (n := 6) (Nat.le_of_ble_eq_true rfl) (Nat.le_of_ble_eq_true rfl) ?_)
  exact W.zret (v := r9) hx hb hr hF.1 (fun t ht hW => ⟨⟨r9, σ, rfl, hF.2, by rw [ht]; exact hP, hD⟩, hS.F ht⟩) hS.2.2 dX3_isFit_12
theorem dX3_requireJump_0 : decode cX3_requireJump 0 = .ok (.aload_n 0, 1) := by decide +kernel
theorem dX3_requireJump_1 : decode cX3_requireJump 1 = .ok (.iload_n 1, 1) := by decide +kernel
theorem dX3_requireJump_2 : decode cX3_requireJump 2 = .ok (.invokevirtual 98, 3) := by decide +kernel
theorem dX3_requireJump_5 : decode cX3_requireJump 5 = .ok (.aload_n 0, 1) := by decide +kernel
theorem dX3_requireJump_6 : decode cX3_requireJump 6 = .ok (.iload_n 2, 1) := by decide +kernel
theorem dX3_requireJump_7 : decode cX3_requireJump 7 = .ok (.invokevirtual 98, 3) := by decide +kernel
theorem dX3_requireJump_10 : decode cX3_requireJump 10 = .ok (.aload_n 0, 1) := by decide +kernel
theorem dX3_requireJump_11 : decode cX3_requireJump 11 = .ok (.aload_n 0, 1) := by decide +kernel
theorem dX3_requireJump_12 : decode cX3_requireJump 12 = .ok (.getfield 83, 3) := by decide +kernel
theorem dX3_requireJump_15 : decode cX3_requireJump 15 = .ok (.iload_n 1, 1) := by decide +kernel
theorem dX3_requireJump_16 : decode cX3_requireJump 16 = .ok (.iload_n 2, 1) := by decide +kernel
theorem dX3_requireJump_17 : decode cX3_requireJump 17 = .ok (.invokevirtual 116, 3) := by decide +kernel
theorem dX3_requireJump_20 : decode cX3_requireJump 20 = .ok (.istore_n 3, 1) := by decide +kernel
theorem dX3_requireJump_21 : decode cX3_requireJump 21 = .ok (.iload_n 3, 1) := by decide +kernel
theorem dX3_requireJump_22 : decode cX3_requireJump 22 = .ok (.iconst (-1), 1) := by decide +kernel
theorem dX3_requireJump_23 : decode cX3_requireJump 23 = .ok (.if_icmp .ne 14, 3) := by decide +kernel
theorem dX3_requireJump_26 : decode cX3_requireJump 26 = .ok (.new 62, 3) := by decide +kernel
theorem dX3_requireJump_29 : decode cX3_requireJump 29 = .ok (.dup, 1) := by decide +kernel
theorem dX3_requireJump_30 : decode cX3_requireJump 30 = .ok (.ldc_w 290, 3) := by decide +kernel
theorem dX3_requireJump_33 : decode cX3_requireJump 33 = .ok (.invokespecial 66, 3) := by decide +kernel
theorem dX3_requireJump_36 : decode cX3_requireJump 36 = .ok (.athrow, 1) := by decide +kernel
theorem dX3_requireJump_37 : decode cX3_requireJump 37 = .ok (.iload_n 3, 1) := by decide +kernel
theorem dX3_requireJump_38 : decode cX3_requireJump 38 = .ok (.ireturn, 1) := by decide +kernel
def wp_X3_requireJump (fu : Nat) (σ : SX) (x1 : Int32) (x2 : Int32) (P : Int32 → SX → Prop) (X : String → SX → Prop) : Prop := (wp_X3_requireHole σ x1 (fun s2 => (wp_X3_requireHole s2 x2 (fun s7 => (wp_X3_behindJump fu s7 (s7.1 15) x1 x2 (fun r17 => ((¬ r17 = (-1) → (P r17 s7)) ∧ (r17 = (-1) → (X "java/lang/UnsupportedOperationException" s7)))))) X)) X)
theorem k_X3_requireJump : KV RX3 yX3_requireJump cX3_requireJump 4 (some .int) 2 := ⟨q669, qs18, q1, q670, by decide +kernel⟩
set_option maxHeartbeats 4000000 in
set_option maxRecDepth 100000 in
theorem m_X3_requireJump (l : Launch) (hl9 : l.stackTraces = false) (dC : Nat → ClassId) (dI : Nat → Nat → Nat) (h : Nat → Nat) (cy : Nat → ClassId) (sa : Nat → Nat) (sz : Nat) (fu : Nat) (σ : SX) (x1 : Int32) (x2 : Int32) (P : Int32 → SX → Prop) (X : String → SX → Prop) (hF : wp_X3_requireJump fu σ x1 x2 P X) : vx_Met l yX3_requireJump (ws_ yX3_requireJump cX3_requireJump 4 (some .int)) ({ frames := 7, cells := 3, slots := 18, locals := 111 } : Room) (va_Pc [.ref (h 16), .int x1, .int x2] (PcT dC dI cy sa (wH h cy σ) sz)) (va_Qi (fun r u => P r u) (fun (u : SX) t => va_P (dC, dI) classes (wH h cy u) t.heap ∧ va_D (va_A (wH h cy σ) sz) (wH h cy u)) (va_A (wH h cy σ) sz)) (QxT dC dI (fun (u : SX) => wH h cy u) X (va_A (wH h cy σ) sz)) 3 18 (va_A (wH h cy σ) sz) := by
  refine vx_Met.ofCx (own := RX3) (by decide) rfl (Nat.le_of_ble_eq_true rfl) ?_
  intro p e s m below meth c hC hno hv ls hl
  obtain ⟨hx, hb, hr, hml, hown, hts, hlocks⟩ := hC
  have hl : lv_has ls 4 [(0, .ref (h 16)), (1, .int x1), (2, .int x2)] := hl
  obtain ⟨hsz, hP, hK, hD0, hXS, hXZ⟩ := hv
  subst hsz
  have hD := hD0.self (sz := s.heap.size)
  generalize hAe : va_A (wH h cy σ) s.heap.size = A at hD hXZ ⊢
  have hA : ∀ q : Nat, s.heap.size ≤ q → A q := fun q h => by rw [← hAe]; exact Or.inr h
  have hS : va_S A s.heap s.heap [] := va_S.rf
  clear hAe
  unfold wp_X3_requireJump at hF
  refine lv_aload_n hx hb dX3_requireJump_0 rfl (lv_at hl 0 rfl) ?_
  refine lv_iload_n hx hb dX3_requireJump_1 rfl (lv_at hl 1 rfl) ?_
  have hFc := va_free (wc := wH h cy σ) hD hS hA [0, 1, 2, 3, 4, 5, 6, 7, 8, 9, 10, 11, 12, 13, 14, 15, 16, 17, 18, 19, 20] rfl
  refine cxVv (q0 := 16) (As := [.int x1]) (rest := []) ⟨hx, hb, hr, hml, hown, hts, hlocks⟩ hno hK hXS hXZ hP hD rfl rfl hS hFc (m_X3_requireHole l hl9 dC dI h cy sa _ σ x1 _ X hF) k_X3_requireHole q620 ⟨rfl, rfl⟩ ⟨Nat.le_of_ble_eq_true rfl, Nat.le_of_ble_eq_true rfl⟩ hl.1 rfl rfl (Nat.le_of_ble_eq_true rfl) dX3_requireJump_2 ⟨Nat.le_of_ble_eq_true rfl, Nat.le_of_ble_eq_true rfl⟩ ⟨Nat.le_of_ble_eq_true rfl, Nat.le_of_ble_eq_true rfl⟩ (fun u H1 locs hF hP1 hD1 hS => ?_)
  obtain ⟨s2, rfl⟩ : ∃ z, z = u := ⟨_, rfl⟩
  have hP := hP1
  have hD := hD1
  generalize H1 = H at hP hS ⊢
  have hP : va_P (dC, dI) classes (wH h cy s2) H := hP
  have hD : va_D A (wH h cy s2) := hD
  refine lv_aload_n hx hb dX3_requireJump_5 rfl (lv_at hl 0 rfl) ?_
  refine lv_iload_n hx hb dX3_requireJump_6 rfl (lv_at hl 2 rfl) ?_
  have hFc := va_free (wc := wH h cy s2) hD hS hA [0, 1, 2, 3, 4, 5, 6, 7, 8, 9, 10, 11, 12, 13, 14, 15, 16, 17, 18, 19, 20] rfl
  refine cxVv (q0 := 16) (As := [.int x2]) (rest := []) ⟨hx, hb, hr, hml, hown, hts, hlocks⟩ hno hK hXS hXZ hP hD rfl rfl hS hFc (m_X3_requireHole l hl9 dC dI h cy sa _ s2 x2 _ X hF) k_X3_requireHole q620 ⟨rfl, rfl⟩ ⟨Nat.le_of_ble_eq_true rfl, Nat.le_of_ble_eq_true rfl⟩ hl.1 rfl rfl (Nat.le_of_ble_eq_true rfl) dX3_requireJump_7 ⟨Nat.le_of_ble_eq_true rfl, Nat.le_of_ble_eq_true rfl⟩ ⟨Nat.le_of_ble_eq_true rfl, Nat.le_of_ble_eq_true rfl⟩ (fun u H1 locs hF hP1 hD1 hS => ?_)
  obtain ⟨s7, rfl⟩ : ∃ z, z = u := ⟨_, rfl⟩
  have hP := hP1
  have hD := hD1
  generalize H1 = H at hP hS ⊢
  have hP : va_P (dC, dI) classes (wH h cy s7) H := hP
  have hD : va_D A (wH h cy s7) := hD
  refine lv_aload_n hx hb dX3_requireJump_10 rfl (lv_at hl 0 rfl) ?_
  refine lv_aload_n hx hb dX3_requireJump_11 rfl (lv_at hl 0 rfl) ?_
  refine va_get (D := (dC, dI)) (ci := 3) (v := .int (s7.1 15)) (C := RX3) (T := TX3) (N := 6) hx hb hts in_X3 hown hK.1 hP 16 rfl rfl 4 (by decide) (hts _ q145) (fun _ h9 => h9) rfl dX3_requireJump_12 ?_
  refine lv_iload_n hx hb dX3_requireJump_15 rfl (lv_at hl 1 rfl) ?_
  refine lv_iload_n hx hb dX3_requireJump_16 rfl (lv_at hl 2 rfl) ?_
  refine cpVi (q0 := 16) (As := [.int (s7.1 15), .int x1, .int x2]) (rest := []) ⟨hx, hb, hr, hml, hown, hts, hlocks⟩ hK hP rfl rfl (m_X3_behindJump l dC dI h cy fu s7 (s7.1 15) x1 x2 _ hF) k_X3_behindJump q656 ⟨rfl, rfl⟩ ⟨Nat.le_of_ble_eq_true rfl, Nat.le_of_ble_eq_true rfl⟩ hl.1 rfl rfl (Nat.le_of_ble_eq_true rfl) dX3_requireJump_17 ⟨Nat.le_of_ble_eq_true rfl, Nat.le_of_ble_eq_true rfl⟩ (fun r17 hF => ?_)
  refine lv_istore_n (lv' := [(3, .int r17), (0, .ref (h 16)), (1, .int x1), (2, .int x2)]) hx hb dX3_requireJump_20 rfl hl (by decide) rfl (fun ls hl => ?_)
  refine lv_iload_n hx hb dX3_requireJump_21 rfl (lv_at hl 0 rfl) ?_
  refine lv_iconst (v := (-1)) hx hb dX3_requireJump_22 (by decide) ?_
  refine lv_icmp_ne (tgt := 37) hx hb dX3_requireJump_23 (by decide) (fun cz => ?_) (fun cz => ?_)
  · have hF := hF.1 cz
    refine lv_iload_n hx hb dX3_requireJump_37 rfl (lv_at hl 0 rfl) ?_
    refine vx_ret (W.widen (k := 3) (n := 18) (Nat.le_of_ble_eq_true rfl) (Nat.le_of_ble_eq_true rfl) ?_)
    exact W.iret (v := r17) hx hb hr (fun t ht hW => ⟨⟨r17, s7, rfl, hF, by rw [ht]; exact hP, hD⟩, hS.F ht⟩) hS.2.2 dX3_requireJump_38
  · have hF := hF.2 cz
    exact thrSW (u := s7) (wn := fun (u : SX) => wH h cy u) (X := X) ⟨hx, hb, hr, hml, hown, hts, hlocks⟩ hno hl9 hK.2 rfl hXS hXZ hS hl.1 hP hD 7 rfl at_62_66 dX3_requireJump_26 dX3_requireJump_29 dX3_requireJump_30 dX3_requireJump_33 dX3_requireJump_36 (Nat.le_of_ble_eq_true rfl) (Nat.le_of_ble_eq_true rfl) (Nat.le_of_ble_eq_true rfl) (Nat.le_of_ble_eq_true rfl) (Nat.le_of_ble_eq_true rfl) (Nat.le_of_ble_eq_true rfl) hF
theorem dX3_jump_0 : decode cX3_jump 0 = .ok (.aload_n 0, 1) := by decide +kernel
theorem dX3_jump_1 : decode cX3_jump 1 = .ok (.iload_n 1, 1) := by decide +kernel
theorem dX3_jump_2 : decode cX3_jump 2 = .ok (.iload_n 2, 1) := by decide +kernel
theorem dX3_jump_3 : decode cX3_jump 3 = .ok (.aload_n 0, 1) := by decide +kernel
theorem dX3_jump_4 : decode cX3_jump 4 = .ok (.iload_n 1, 1) := by decide +kernel
theorem dX3_jump_5 : decode cX3_jump 5 = .ok (.iload_n 2, 1) := by decide +kernel
theorem dX3_jump_6 : decode cX3_jump 6 = .ok (.invokevirtual 120, 3) := by decide +kernel
theorem dX3_jump_9 : decode cX3_jump 9 = .ok (.invokevirtual 124, 3) := by decide +kernel
theorem dX3_jump_12 : decode cX3_jump 12 = .ok (.aload_n 0, 1) := by decide +kernel
theorem dX3_jump_13 : decode cX3_jump 13 = .ok (.getfield 83, 3) := by decide +kernel
theorem dX3_jump_16 : decode cX3_jump 16 = .ok (.invokestatic 128, 3) := by decide +kernel
theorem dX3_jump_19 : decode cX3_jump 19 = .ok (.ireturn, 1) := by decide +kernel
def wp_X3_jump (fu : Nat) (σ : SX) (x1 : Int32) (x2 : Int32) (P : Int32 → SX → Prop) (X : String → SX → Prop) : Prop := (wp_X3_requireJump fu σ x1 x2 (fun r6 s6 => (wp_X3_makeJump s6 x1 x2 r6 (fun s9 => (wp_J6_bitCount_0f7a4 (s9.1 15) (fun r16 => (P r16 s9)))))) X)
theorem k_X3_jump : KV RX3 yX3_jump cX3_jump 3 (some .int) 2 := ⟨q664, q665, q1, q666, by decide +kernel⟩
set_option maxHeartbeats 4000000 in
set_option maxRecDepth 100000 in
theorem m_X3_jump (l : Launch) (hl9 : l.stackTraces = false) (dC : Nat → ClassId) (dI : Nat → Nat → Nat) (h : Nat → Nat) (cy : Nat → ClassId) (sa : Nat → Nat) (sz : Nat) (fu : Nat) (σ : SX) (x1 : Int32) (x2 : Int32) (P : Int32 → SX → Prop) (X : String → SX → Prop) (hF : wp_X3_jump fu σ x1 x2 P X) : vx_Met l yX3_jump (ws_ yX3_jump cX3_jump 3 (some .int)) ({ frames := 8, cells := 3, slots := 18, locals := 134 } : Room) (va_Pc [.ref (h 16), .int x1, .int x2] (PcT dC dI cy sa (wH h cy σ) sz)) (va_Qi (fun r u => P r u) (fun (u : SX) t => va_P (dC, dI) classes (wH h cy u) t.heap ∧ va_D (va_A (wH h cy σ) sz) (wH h cy u)) (va_A (wH h cy σ) sz)) (QxT dC dI (fun (u : SX) => wH h cy u) X (va_A (wH h cy σ) sz)) 3 18 (va_A (wH h cy σ) sz) := by
  refine vx_Met.ofCx (own := RX3) (by decide) rfl (Nat.le_of_ble_eq_true rfl) ?_
  intro p e s m below meth c hC hno hv ls hl
  obtain ⟨hx, hb, hr, hml, hown, hts, hlocks⟩ := hC
  have hl : lv_has ls 3 [(0, .ref (h 16)), (1, .int x1), (2, .int x2)] := hl
  obtain ⟨hsz, hP, hK, hD0, hXS, hXZ⟩ := hv
  subst hsz
  have hD := hD0.self (sz := s.heap.size)
  generalize hAe : va_A (wH h cy σ) s.heap.size = A at hD hXZ ⊢
  have hA : ∀ q : Nat, s.heap.size ≤ q → A q := fun q h => by rw [← hAe]; exact Or.inr h
  have hS : va_S A s.heap s.heap [] := va_S.rf
  clear hAe
  unfold wp_X3_jump at hF
  refine lv_aload_n hx hb dX3_jump_0 rfl (lv_at hl 0 rfl) ?_
  refine lv_iload_n hx hb dX3_jump_1 rfl (lv_at hl 1 rfl) ?_
  refine lv_iload_n hx hb dX3_jump_2 rfl (lv_at hl 2 rfl) ?_
  refine lv_aload_n hx hb dX3_jump_3 rfl (lv_at hl 0 rfl) ?_
  refine lv_iload_n hx hb dX3_jump_4 rfl (lv_at hl 1 rfl) ?_
  refine lv_iload_n hx hb dX3_jump_5 rfl (lv_at hl 2 rfl) ?_
  have hFc := va_free (wc := wH h cy σ) hD hS hA [0, 1, 2, 3, 4, 5, 6, 7, 8, 9, 10, 11, 12, 13, 14, 15, 16, 17, 18, 19, 20] rfl
  refine cxVi (q0 := 16) (As := [.int x1, .int x2]) (rest := [.int x2, .int x1, .ref (h 16)]) ⟨hx, hb, hr, hml, hown, hts, hlocks⟩ hno hK hXS hXZ hP hD rfl rfl hS hFc (m_X3_requireJump l hl9 dC dI h cy sa _ fu σ x1 x2 _ X hF) k_X3_requireJump q667 ⟨rfl, rfl⟩ ⟨Nat.le_of_ble_eq_true rfl, Nat.le_of_ble_eq_true rfl⟩ hl.1 rfl rfl (Nat.le_of_ble_eq_true rfl) dX3_jump_6 ⟨Nat.le_of_ble_eq_true rfl, Nat.le_of_ble_eq_true rfl⟩ ⟨Nat.le_of_ble_eq_true rfl, Nat.le_of_ble_eq_true rfl⟩ (fun r6 u H1 locs hF hP1 hD1 hS => ?_)
  obtain ⟨s6, rfl⟩ : ∃ z, z = u := ⟨_, rfl⟩
  have hP := hP1
  have hD := hD1
  generalize H1 = H at hP hS ⊢
  have hP : va_P (dC, dI) classes (wH h cy s6) H := hP
  have hD : va_D A (wH h cy s6) := hD
  have hFc := va_free (wc := wH h cy s6) hD hS hA [0, 1, 2, 3, 4, 5, 6, 7, 8, 9, 10, 11, 12, 13, 14, 15, 16, 17, 18, 19, 20] rfl
  refine cwVv (q0 := 16) (As := [.int x1, .int x2, .int r6]) (rest := []) ⟨hx, hb, hr, hml, hown, hts, hlocks⟩ hK hP hD rfl rfl hS hFc (m_X3_makeJump l dC dI h cy _ s6 x1 x2 r6 _ hF) k_X3_makeJump q672 ⟨rfl, rfl⟩ ⟨Nat.le_of_ble_eq_true rfl, Nat.le_of_ble_eq_true rfl⟩ hl.1 rfl rfl (Nat.le_of_ble_eq_true rfl) dX3_jump_9 ⟨Nat.le_of_ble_eq_true rfl, Nat.le_of_ble_eq_true rfl⟩ (fun u H1 locs hF hP1 hD1 hk1 hS => ?_)
  obtain ⟨s9, rfl⟩ : ∃ z, z = u := ⟨_, rfl⟩
  have hP := hP1
  have hD := hD1.weaken (fun _ q _ h => hFc q.1 h)
  generalize H1 = H at hP hS ⊢
  have hP : va_P (dC, dI) classes (wH h cy s9) H := hP
  have hD : va_D A (wH h cy s9) := hD
  refine lv_aload_n hx hb dX3_jump_12 rfl (lv_at hl 0 rfl) ?_
  refine va_get (D := (dC, dI)) (ci := 3) (v := .int (s9.1 15)) (C := RX3) (T := TX3) (N := 6) hx hb hts in_X3 hown hK.1 hP 16 rfl rfl 4 (by decide) (hts _ q145) (fun _ h9 => h9) rfl dX3_jump_13 ?_
  refine cpSi (As := [.int (s9.1 15)]) (rest := []) ⟨hx, hb, hr, hml, hown, hts, hlocks⟩ (m_J6_bitCount_0f7a4 l (s9.1 15) _ hF) k_J6_bitCount_0f7a4 q677 ⟨rfl, rfl⟩ ⟨Nat.le_of_ble_eq_true rfl, Nat.le_of_ble_eq_true rfl⟩ hl.1 rfl rfl (Nat.le_of_ble_eq_true rfl) dX3_jump_16 ⟨Nat.le_of_ble_eq_true rfl, Nat.le_of_ble_eq_true rfl⟩ (fun r16 hF => ?_)
  refine vx_ret (W.widen (k := 3) (n := 18) (Nat.le_of_ble_eq_true rfl) (Nat.le_of_ble_eq_true rfl) ?_)
  exact W.iret (v := r16) hx hb hr (fun t ht hW => ⟨⟨r16, s9, rfl, hF, by rw [ht]; exact hP, hD⟩, hS.F ht⟩) hS.2.2 dX3_jump_19
theorem dX3_jumpAt_0 : decode cX3_jumpAt 0 = .ok (.iconst 0, 1) := by decide +kernel
theorem dX3_jumpAt_1 : decode cX3_jumpAt 1 = .ok (.istore_n 2, 1) := by decide +kernel
theorem dX3_jumpAt_2 : decode cX3_jumpAt 2 = .ok (.iconst 0, 1) := by decide +kernel
theorem dX3_jumpAt_3 : decode cX3_jumpAt 3 = .ok (.istore_n 3, 1) := by decide +kernel
theorem dX3_jumpAt_4 : decode cX3_jumpAt 4 = .ok (.iload_n 3, 1) := by decide +kernel
theorem dX3_jumpAt_5 : decode cX3_jumpAt 5 = .ok (.aload_n 0, 1) := by decide +kernel
theorem dX3_jumpAt_6 : decode cX3_jumpAt 6 = .ok (.getfield 10, 3) := by decide +kernel
theorem dX3_jumpAt_9 : decode cX3_jumpAt 9 = .ok (.invokevirtual 104, 3) := by decide +kernel
theorem dX3_jumpAt_12 : decode cX3_jumpAt 12 = .ok (.if_icmp .ge 42, 3) := by decide +kernel
theorem dX3_jumpAt_15 : decode cX3_jumpAt 15 = .ok (.aload_n 0, 1) := by decide +kernel
theorem dX3_jumpAt_16 : decode cX3_jumpAt 16 = .ok (.getfield 10, 3) := by decide +kernel
theorem dX3_jumpAt_19 : decode cX3_jumpAt 19 = .ok (.aload_n 0, 1) := by decide +kernel
theorem dX3_jumpAt_20 : decode cX3_jumpAt 20 = .ok (.getfield 83, 3) := by decide +kernel
theorem dX3_jumpAt_23 : decode cX3_jumpAt 23 = .ok (.iload_n 3, 1) := by decide +kernel
theorem dX3_jumpAt_24 : decode cX3_jumpAt 24 = .ok (.invokevirtual 136, 3) := by decide +kernel
theorem dX3_jumpAt_27 : decode cX3_jumpAt 27 = .ok (.iconst (-1), 1) := by decide +kernel
theorem dX3_jumpAt_28 : decode cX3_jumpAt 28 = .ok (.if_icmp .eq 20, 3) := by decide +kernel
theorem dX3_jumpAt_31 : decode cX3_jumpAt 31 = .ok (.iload_n 2, 1) := by decide +kernel
theorem dX3_jumpAt_32 : decode cX3_jumpAt 32 = .ok (.iload_n 1, 1) := by decide +kernel
theorem dX3_jumpAt_33 : decode cX3_jumpAt 33 = .ok (.if_icmp .ne 12, 3) := by decide +kernel
theorem dX3_jumpAt_36 : decode cX3_jumpAt 36 = .ok (.aload_n 0, 1) := by decide +kernel
theorem dX3_jumpAt_37 : decode cX3_jumpAt 37 = .ok (.getfield 10, 3) := by decide +kernel
theorem dX3_jumpAt_40 : decode cX3_jumpAt 40 = .ok (.iload_n 3, 1) := by decide +kernel
theorem dX3_jumpAt_41 : decode cX3_jumpAt 41 = .ok (.invokevirtual 139, 3) := by decide +kernel
theorem dX3_jumpAt_44 : decode cX3_jumpAt 44 = .ok (.ireturn, 1) := by decide +kernel
theorem dX3_jumpAt_45 : decode cX3_jumpAt 45 = .ok (.iinc 2 1, 3) := by decide +kernel
theorem dX3_jumpAt_48 : decode cX3_jumpAt 48 = .ok (.iinc 3 1, 3) := by decide +kernel
theorem dX3_jumpAt_51 : decode cX3_jumpAt 51 = .ok (.goto (-47), 3) := by decide +kernel
theorem dX3_jumpAt_54 : decode cX3_jumpAt 54 = .ok (.new 95, 3) := by decide +kernel
theorem dX3_jumpAt_57 : decode cX3_jumpAt 57 = .ok (.dup, 1) := by decide +kernel
theorem dX3_jumpAt_58 : decode cX3_jumpAt 58 = .ok (.ldc 142, 2) := by decide +kernel
theorem dX3_jumpAt_60 : decode cX3_jumpAt 60 = .ok (.invokespecial 97, 3) := by decide +kernel
theorem dX3_jumpAt_63 : decode cX3_jumpAt 63 = .ok (.athrow, 1) := by decide +kernel
def wp_X3_jumpAt_J48 (rec4 : Int32 → Int32 → Prop) (v3_4 : Int32) (v2_48 : Int32) : Prop := (rec4 (v3_4 + 1) v2_48)
def wp_X3_jumpAt_B4 (σ : SX) (x1 : Int32) (P : Int32 → SX → Prop) (K4 : Prop) (rec4 : Int32 → Int32 → Prop) (v3_4 : Int32) (v2_4 : Int32) : Prop := (wp_X0_lineCount σ  (fun r9 => ((r9 ≤ v3_4 → K4) ∧ (¬ r9 ≤ v3_4 → (wp_X0_behind σ (σ.1 15) v3_4 (fun r24 => ((r24 = (-1) → (wp_X3_jumpAt_J48 rec4 v3_4 v2_4)) ∧ (¬ r24 = (-1) → ((¬ v2_4 = x1 → (wp_X3_jumpAt_J48 rec4 v3_4 (v2_4 + 1))) ∧ (v2_4 = x1 → (wp_X0_codeOf σ v3_4 (fun r41 => (P r41 σ)))))))))))))
def wp_X3_jumpAt_L4 (σ : SX) (x1 : Int32) (P : Int32 → SX → Prop) (K4 : Prop) : Nat → Int32 → Int32 → Prop
  | 0, _, _ => False
  | nn + 1, v3_4, v2_4 => wp_X3_jumpAt_B4 σ x1 P K4 (wp_X3_jumpAt_L4 σ x1 P K4 nn) v3_4 v2_4
def wp_X3_jumpAt (fu : Nat) (σ : SX) (x1 : Int32) (P : Int32 → SX → Prop) (X : String → SX → Prop) : Prop := (wp_X3_jumpAt_L4 σ x1 P (X "java/util/NoSuchElementException" σ) fu 0 0)
theorem k_X3_jumpAt : KV RX3 yX3_jumpAt cX3_jumpAt 4 (some .int) 1 := ⟨q682, q683, q1, q684, by decide +kernel⟩
set_option maxHeartbeats 4000000 in
set_option maxRecDepth 100000 in
theorem m_X3_jumpAt (l : Launch) (hl9 : l.stackTraces = false) (dC : Nat → ClassId) (dI : Nat → Nat → Nat) (h : Nat → Nat) (cy : Nat → ClassId) (sa : Nat → Nat) (sz : Nat) (fu : Nat) (σ : SX) (x1 : Int32) (P : Int32 → SX → Prop) (X : String → SX → Prop) (hF : wp_X3_jumpAt fu σ x1 P X) : vx_Met l yX3_jumpAt (ws_ yX3_jumpAt cX3_jumpAt 4 (some .int)) ({ frames := 6, cells := 1, slots := 6, locals := 90 } : Room) (va_Pc [.ref (h 16), .int x1] (PcT dC dI cy sa (wH h cy σ) sz)) (va_Qi (fun r u => P r u) (fun (u : SX) t => va_P (dC, dI) classes (wH h cy u) t.heap ∧ va_D (va_A (wH h cy σ) sz) (wH h cy u)) (va_A (wH h cy σ) sz)) (QxT dC dI (fun (u : SX) => wH h cy u) X (va_A (wH h cy σ) sz)) 1 6 (va_A (wH h cy σ) sz) := by
  refine vx_Met.ofCx (own := RX3) (by decide) rfl (Nat.le_of_ble_eq_true rfl) ?_
  intro p e s m below meth c hC hno hv ls hl
  obtain ⟨hx, hb, hr, hml, hown, hts, hlocks⟩ := hC
  have hl : lv_has ls 4 [(0, .ref (h 16)), (1, .int x1)] := hl
  obtain ⟨hsz, hP, hK, hD0, hXS, hXZ⟩ := hv
  subst hsz
  have hD := hD0.self (sz := s.heap.size)
  generalize hAe : va_A (wH h cy σ) s.heap.size = A at hD hXZ ⊢
  have hA : ∀ q : Nat, s.heap.size ≤ q → A q := fun q h => by rw [← hAe]; exact Or.inr h
  have hS : va_S A s.heap s.heap [] := va_S.rf
  clear hAe
  unfold wp_X3_jumpAt at hF
  refine lv_iconst (v := 0) hx hb dX3_jumpAt_0 (by decide) ?_
  refine lv_istore_n (lv' := [(2, .int 0), (0, .ref (h 16)), (1, .int x1)]) hx hb dX3_jumpAt_1 rfl hl (by decide) rfl (fun ls hl => ?_)
  refine lv_iconst (v := 0) hx hb dX3_jumpAt_2 (by decide) ?_
  refine lv_istore_n (lv' := [(3, .int 0), (2, .int 0), (0, .ref (h 16)), (1, .int x1)]) hx hb dX3_jumpAt_3 rfl hl (by decide) rfl (fun ls hl => ?_)
  have hX4 : (X "java/util/NoSuchElementException" σ) → ∀ (H : Heap) (locs : List Loc), va_P (dC, dI) classes (wH h cy σ) H → va_D A (wH h cy σ) → va_S A s.heap H locs → ∀ (ls : Array Slot), lv_has ls 4 [] → W p l e ({ frames := 6, cells := 1, slots := 6, locals := 90 } : Room) s m ([.ref (h 16), .int x1] : List Value).toArray below meth c H locs 0 0 (vx_MQ below (va_Qi (fun r u => P r u) (fun (u : SX) t => va_P (dC, dI) classes (wH h cy u) t.heap ∧ va_D A (wH h cy u)) A) (QxT dC dI (fun (u : SX) => wH h cy u) X A) ([.ref (h 16), .int x1] : List Value).toArray s 1 6 A) (F0 m 54 ls []) := by
    intro hF H locs hP hD hS ls hl
    exact thrN (u := σ) (wn := fun (u : SX) => wH h cy u) (X := X) ⟨hx, hb, hr, hml, hown, hts, hlocks⟩ hno hl9 hK.2 rfl hXS hXZ hS hl.1 hP hD 8 rfl at_95_97 dX3_jumpAt_54 dX3_jumpAt_57 dX3_jumpAt_58 dX3_jumpAt_60 dX3_jumpAt_63 (Nat.le_of_ble_eq_true rfl) (Nat.le_of_ble_eq_true rfl) (Nat.le_of_ble_eq_true rfl) (Nat.le_of_ble_eq_true rfl) (Nat.le_of_ble_eq_true rfl) (Nat.le_of_ble_eq_true rfl) hF
  have hL4 : ∀ (K4 : Prop), (K4 → ∀ (H : Heap) (locs : List Loc), va_P (dC, dI) classes (wH h cy σ) H → va_D A (wH h cy σ) → va_S A s.heap H locs → ∀ (ls : Array Slot), lv_has ls 4 [] → W p l e ({ frames := 6, cells := 1, slots := 6, locals := 90 } : Room) s m ([.ref (h 16), .int x1] : List Value).toArray below meth c H locs 0 0 (vx_MQ below (va_Qi (fun r u => P r u) (fun (u : SX) t => va_P (dC, dI) classes (wH h cy u) t.heap ∧ va_D A (wH h cy u)) A) (QxT dC dI (fun (u : SX) => wH h cy u) X A) ([.ref (h 16), .int x1] : List Value).toArray s 1 6 A) (F0 m 54 ls [])) → ∀ (nn : Nat), ∀ (v3_4 : Int32), ∀ (v2_4 : Int32), wp_X3_jumpAt_L4 σ x1 P K4 nn v3_4 v2_4 → ∀ (H : Heap) (locs : List Loc), va_P (dC, dI) classes (wH h cy σ) H → va_D A (wH h cy σ) → va_S A s.heap H locs → ∀ (ls : Array Slot), lv_has ls 4 [(3, .int v3_4), (2, .int v2_4), (0, .ref (h 16)), (1, .int x1)] → W p l e ({ frames := 6, cells := 1, slots := 6, locals := 90 } : Room) s m ([.ref (h 16), .int x1] : List Value).toArray below meth c H locs 0 0 (vx_MQ below (va_Qi (fun r u => P r u) (fun (u : SX) t => va_P (dC, dI) classes (wH h cy u) t.heap ∧ va_D A (wH h cy u)) A) (QxT dC dI (fun (u : SX) => wH h cy u) X A) ([.ref (h 16), .int x1] : List Value).toArray s 1 6 A) (F0 m 4 ls []) := by
    intro K4 hX4 nn
    induction nn with
    | zero =>
      intro v3_4 v2_4 hF
      exact hF.elim
    | succ nn ih =>
      intro v3_4 v2_4 hF H locs hP hD hS ls hl
      obtain ⟨rec4, hrec⟩ : ∃ z : Int32 → Int32 → Prop, z = wp_X3_jumpAt_L4 σ x1 P K4 nn := ⟨_, rfl⟩
      have hF : wp_X3_jumpAt_B4 σ x1 P K4 rec4 v3_4 v2_4 := by rw [hrec]; exact hF
      rw [← hrec] at ih
      clear hrec
      unfold wp_X3_jumpAt_B4 at hF
      refine lv_iload_n hx hb dX3_jumpAt_4 rfl (lv_at hl 0 rfl) ?_
      refine lv_aload_n hx hb dX3_jumpAt_5 rfl (lv_at hl 2 rfl) ?_
      refine va_get (D := (dC, dI)) (ci := 3) (v := .ref (h 0)) (C := RX3) (T := TX3) (N := 6) hx hb hts in_X3 hown hK.1 hP 16 rfl rfl 0 (by decide) (hts _ q141) (fun _ h9 => h9) rfl dX3_jumpAt_6 ?_
      have hPc := hP.sub (ws' := wB h cy σ) [0, 1, 2, 3, 4, 5, 6, 7, 8, 9, 10, 11] rfl
      refine cpVi (q0 := 0) (As := []) (rest := [.int v3_4]) ⟨hx, hb, hr, hml, hown, hts, hlocks⟩ hK hPc rfl rfl (m_X0_lineCount l dC dI h cy σ  _ hF) k_X0_lineCount q164 ⟨rfl, rfl⟩ ⟨Nat.le_of_ble_eq_true rfl, Nat.le_of_ble_eq_true rfl⟩ hl.1 rfl rfl (Nat.le_of_ble_eq_true rfl) dX3_jumpAt_9 ⟨Nat.le_of_ble_eq_true rfl, Nat.le_of_ble_eq_true rfl⟩ (fun r9 hF => ?_)
      refine lv_icmp_ge (tgt := 54) hx hb dX3_jumpAt_12 (by decide) (fun cz => ?_) (fun cz => ?_)
      · have hF := hF.1 cz
        exact hX4 hF _ _ hP hD hS _ (lv_sub hl [] rfl)
      · have hF := hF.2 cz
        refine lv_aload_n hx hb dX3_jumpAt_15 rfl (lv_at hl 2 rfl) ?_
        refine va_get (D := (dC, dI)) (ci := 3) (v := .ref (h 0)) (C := RX3) (T := TX3) (N := 6) hx hb hts in_X3 hown hK.1 hP 16 rfl rfl 0 (by decide) (hts _ q141) (fun _ h9 => h9) rfl dX3_jumpAt_16 ?_
        refine lv_aload_n hx hb dX3_jumpAt_19 rfl (lv_at hl 2 rfl) ?_
        refine va_get (D := (dC, dI)) (ci := 3) (v := .int (σ.1 15)) (C := RX3) (T := TX3) (N := 6) hx hb hts in_X3 hown hK.1 hP 16 rfl rfl 4 (by decide) (hts _ q145) (fun _ h9 => h9) rfl dX3_jumpAt_20 ?_
        refine lv_iload_n hx hb dX3_jumpAt_23 rfl (lv_at hl 0 rfl) ?_
        have hPc := hP.sub (ws' := wB h cy σ) [0, 1, 2, 3, 4, 5, 6, 7, 8, 9, 10, 11] rfl
        refine cpVi (q0 := 0) (As := [.int (σ.1 15), .int v3_4]) (rest := []) ⟨hx, hb, hr, hml, hown, hts, hlocks⟩ hK hPc rfl rfl (m_X0_behind l dC dI h cy σ (σ.1 15) v3_4 _ hF) k_X0_behind q388 ⟨rfl, rfl⟩ ⟨Nat.le_of_ble_eq_true rfl, Nat.le_of_ble_eq_true rfl⟩ hl.1 rfl rfl (Nat.le_of_ble_eq_true rfl) dX3_jumpAt_24 ⟨Nat.le_of_ble_eq_true rfl, Nat.le_of_ble_eq_true rfl⟩ (fun r24 hF => ?_)
        refine lv_iconst (v := (-1)) hx hb dX3_jumpAt_27 (by decide) ?_
        have hJ48 : ∀ (v2_48 : Int32), wp_X3_jumpAt_J48 rec4 v3_4 v2_48 → ∀ (H : Heap) (locs : List Loc), va_P (dC, dI) classes (wH h cy σ) H → va_D A (wH h cy σ) → va_S A s.heap H locs → ∀ (ls : Array Slot), lv_has ls 4 [(3, .int v3_4), (2, .int v2_48), (0, .ref (h 16)), (1, .int x1)] → W p l e ({ frames := 6, cells := 1, slots := 6, locals := 90 } : Room) s m ([.ref (h 16), .int x1] : List Value).toArray below meth c H locs 0 0 (vx_MQ below (va_Qi (fun r u => P r u) (fun (u : SX) t => va_P (dC, dI) classes (wH h cy u) t.heap ∧ va_D A (wH h cy u)) A) (QxT dC dI (fun (u : SX) => wH h cy u) X A) ([.ref (h 16), .int x1] : List Value).toArray s 1 6 A) (F0 m 48 ls []) := by
          intro v2_48 hF H locs hP hD hS ls hl
          unfold wp_X3_jumpAt_J48 at hF
          refine lv_iinc (v := v3_4 + 1) (lv' := [(3, .int (v3_4 + 1)), (2, .int v2_48), (0, .ref (h 16)), (1, .int x1)]) hx hb dX3_jumpAt_48 hl (k := 0) rfl (by rfl) (by decide) rfl (fun ls hl => ?_)
          refine lv_goto (tgt := 4) hx hb dX3_jumpAt_51 (by decide) ?_
          exact ih (v3_4 + 1) v2_48 hF _ _ hP hD hS _ (lv_sub hl [0, 1, 2, 3] rfl)
        refine lv_icmp_eq (tgt := 48) hx hb dX3_jumpAt_28 (by decide) (fun cz => ?_) (fun cz => ?_)
        · have hF := hF.1 cz
          exact hJ48 v2_4 hF _ _ hP hD hS _ (lv_sub hl [0, 1, 2, 3] rfl)
        · have hF := hF.2 cz
          refine lv_iload_n hx hb dX3_jumpAt_31 rfl (lv_at hl 1 rfl) ?_
          refine lv_iload_n hx hb dX3_jumpAt_32 rfl (lv_at hl 3 rfl) ?_
          refine lv_icmp_ne (tgt := 45) hx hb dX3_jumpAt_33 (by decide) (fun cz => ?_) (fun cz => ?_)
          · have hF := hF.1 cz
            refine lv_iinc (v := v2_4 + 1) (lv' := [(2, .int (v2_4 + 1)), (3, .int v3_4), (0, .ref (h 16)), (1, .int x1)]) hx hb dX3_jumpAt_45 hl (k := 1) rfl (by rfl) (by decide) rfl (fun ls hl => ?_)
            exact hJ48 (v2_4 + 1) hF _ _ hP hD hS _ (lv_sub hl [1, 0, 2, 3] rfl)
          · have hF := hF.2 cz
            refine lv_aload_n hx hb dX3_jumpAt_36 rfl (lv_at hl 2 rfl) ?_
            refine va_get (D := (dC, dI)) (ci := 3) (v := .ref (h 0)) (C := RX3) (T := TX3) (N := 6) hx hb hts in_X3 hown hK.1 hP 16 rfl rfl 0 (by decide) (hts _ q141) (fun _ h9 => h9) rfl dX3_jumpAt_37 ?_
            refine lv_iload_n hx hb dX3_jumpAt_40 rfl (lv_at hl 0 rfl) ?_
            have hPc := hP.sub (ws' := wB h cy σ) [0, 1, 2, 3, 4, 5, 6, 7, 8, 9, 10, 11] rfl
            refine cpVi (q0 := 0) (As := [.int v3_4]) (rest := []) ⟨hx, hb, hr, hml, hown, hts, hlocks⟩ hK hPc rfl rfl (m_X0_codeOf l dC dI h cy σ v3_4 _ hF) k_X0_codeOf q685 ⟨rfl, rfl⟩ ⟨Nat.le_of_ble_eq_true rfl, Nat.le_of_ble_eq_true rfl⟩ hl.1 rfl rfl (Nat.le_of_ble_eq_true rfl) dX3_jumpAt_41 ⟨Nat.le_of_ble_eq_true rfl, Nat.le_of_ble_eq_true rfl⟩ (fun r41 hF => ?_)
            refine vx_ret (W.widen (k := 1) (n := 6) (Nat.le_of_ble_eq_true rfl) (Nat.le_of_ble_eq_true rfl) ?_)
            exact W.iret (v := r41) hx hb hr (fun t ht hW => ⟨⟨r41, σ, rfl, hF, by rw [ht]; exact hP, hD⟩, hS.F ht⟩) hS.2.2 dX3_jumpAt_44
  exact hL4 _ hX4 fu 0 0 hF _ _ hP hD hS _ (lv_sub hl [0, 1, 2, 3] rfl)
theorem dX3_requirePegs_0 : decode cX3_requirePegs 0 = .ok (.aload_n 0, 1) := by decide +kernel
theorem dX3_requirePegs_1 : decode cX3_requirePegs 1 = .ok (.getfield 10, 3) := by decide +kernel
theorem dX3_requirePegs_4 : decode cX3_requirePegs 4 = .ok (.iload_n 1, 1) := by decide +kernel
theorem dX3_requirePegs_5 : decode cX3_requirePegs 5 = .ok (.invokevirtual 269, 3) := by decide +kernel
theorem dX3_requirePegs_8 : decode cX3_requirePegs 8 = .ok (.ifCond .ne 14, 3) := by decide +kernel
theorem dX3_requirePegs_11 : decode cX3_requirePegs 11 = .ok (.new 281, 3) := by decide +kernel
theorem dX3_requirePegs_14 : decode cX3_requirePegs 14 = .ok (.dup, 1) := by decide +kernel
theorem dX3_requirePegs_15 : decode cX3_requirePegs 15 = .ok (.ldc_w 286, 3) := by decide +kernel
theorem dX3_requirePegs_18 : decode cX3_requirePegs 18 = .ok (.invokespecial 285, 3) := by decide +kernel
theorem dX3_requirePegs_21 : decode cX3_requirePegs 21 = .ok (.athrow, 1) := by decide +kernel
theorem dX3_requirePegs_22 : decode cX3_requirePegs 22 = .ok (.return_, 1) := by decide +kernel
def wp_X3_requirePegs (σ : SX) (x1 : Int32) (P : SX → Prop) (X : String → SX → Prop) : Prop := (wp_X0_hasPegs σ x1 (fun r5 => ((¬ r5 = 0 → (P σ)) ∧ (r5 = 0 → (X "java/lang/IndexOutOfBoundsException" σ)))))
theorem k_X3_requirePegs : KV RX3 yX3_requirePegs cX3_requirePegs 2 none 1 := ⟨q646, qs16, q1, q647, by decide +kernel⟩
set_option maxHeartbeats 4000000 in
set_option maxRecDepth 100000 in
theorem m_X3_requirePegs (l : Launch) (hl9 : l.stackTraces = false) (dC : Nat → ClassId) (dI : Nat → Nat → Nat) (h : Nat → Nat) (cy : Nat → ClassId) (sa : Nat → Nat) (sz : Nat) (σ : SX) (x1 : Int32) (P : SX → Prop) (X : String → SX → Prop) (hF : wp_X3_requirePegs σ x1 P X) : vx_Met l yX3_requirePegs (ws_ yX3_requirePegs cX3_requirePegs 2 none) ({ frames := 6, cells := 1, slots := 6, locals := 90 } : Room) (va_Pc [.ref (h 16), .int x1] (PcT dC dI cy sa (wH h cy σ) sz)) (va_Qv (fun u => P u) (fun (u : SX) t => va_P (dC, dI) classes (wH h cy u) t.heap ∧ va_D (va_A (wH h cy σ) sz) (wH h cy u)) (va_A (wH h cy σ) sz)) (QxT dC dI (fun (u : SX) => wH h cy u) X (va_A (wH h cy σ) sz)) 1 6 (va_A (wH h cy σ) sz) := by
  refine vx_Met.ofCx (own := RX3) (by decide) rfl (Nat.le_of_ble_eq_true rfl) ?_
  intro p e s m below meth c hC hno hv ls hl
  obtain ⟨hx, hb, hr, hml, hown, hts, hlocks⟩ := hC
  have hl : lv_has ls 2 [(0, .ref (h 16)), (1, .int x1)] := hl
  obtain ⟨hsz, hP, hK, hD0, hXS, hXZ⟩ := hv
  subst hsz
  have hD := hD0.self (sz := s.heap.size)
  generalize hAe : va_A (wH h cy σ) s.heap.size = A at hD hXZ ⊢
  have hA : ∀ q : Nat, s.heap.size ≤ q → A q := fun q h => by rw [← hAe]; exact Or.inr h
  have hS : va_S A s.heap s.heap [] := va_S.rf
  clear hAe
  unfold wp_X3_requirePegs at hF
  refine lv_aload_n hx hb dX3_requirePegs_0 rfl (lv_at hl 0 rfl) ?_
  refine va_get (D := (dC, dI)) (ci := 3) (v := .ref (h 0)) (C := RX3) (T := TX3) (N := 6) hx hb hts in_X3 hown hK.1 hP 16 rfl rfl 0 (by decide) (hts _ q141) (fun _ h9 => h9) rfl dX3_requirePegs_1 ?_
  refine lv_iload_n hx hb dX3_requirePegs_4 rfl (lv_at hl 1 rfl) ?_
  have hPc := hP.sub (ws' := wB h cy σ) [0, 1, 2, 3, 4, 5, 6, 7, 8, 9, 10, 11] rfl
  refine cpVi (q0 := 0) (As := [.int x1]) (rest := []) ⟨hx, hb, hr, hml, hown, hts, hlocks⟩ hK hPc rfl rfl (m_X0_hasPegs l dC dI h cy σ x1 _ hF) k_X0_hasPegs q368 ⟨rfl, rfl⟩ ⟨Nat.le_of_ble_eq_true rfl, Nat.le_of_ble_eq_true rfl⟩ hl.1 rfl rfl (Nat.le_of_ble_eq_true rfl) dX3_requirePegs_5 ⟨Nat.le_of_ble_eq_true rfl, Nat.le_of_ble_eq_true rfl⟩ (fun r5 hF => ?_)
  refine lv_if_ne (tgt := 22) hx hb dX3_requirePegs_8 (by decide) (fun cz => ?_) (fun cz => ?_)
  · have hF := hF.1 cz
    refine vx_ret (W.widen (k := 1) (n := 6) (Nat.le_of_ble_eq_true rfl) (Nat.le_of_ble_eq_true rfl) ?_)
    exact W.vret hx hb hr (fun t ht hW => ⟨⟨σ, rfl, hF, by rw [ht]; exact hP, hD⟩, hS.F ht⟩) hS.2.2 dX3_requirePegs_22
  · have hF := hF.2 cz
    exact thrSW (u := σ) (wn := fun (u : SX) => wH h cy u) (X := X) ⟨hx, hb, hr, hml, hown, hts, hlocks⟩ hno hl9 hK.2 rfl hXS hXZ hS hl.1 hP hD 6 rfl at_281_285 dX3_requirePegs_11 dX3_requirePegs_14 dX3_requirePegs_15 dX3_requirePegs_18 dX3_requirePegs_21 (Nat.le_of_ble_eq_true rfl) (Nat.le_of_ble_eq_true rfl) (Nat.le_of_ble_eq_true rfl) (Nat.le_of_ble_eq_true rfl) (Nat.le_of_ble_eq_true rfl) (Nat.le_of_ble_eq_true rfl) hF
theorem dX3_leastForm_0 : decode cX3_leastForm 0 = .ok (.aload_n 0, 1) := by decide +kernel
theorem dX3_leastForm_1 : decode cX3_leastForm 1 = .ok (.iload_n 1, 1) := by decide +kernel
theorem dX3_leastForm_2 : decode cX3_leastForm 2 = .ok (.invokevirtual 110, 3) := by decide +kernel
theorem dX3_leastForm_5 : decode cX3_leastForm 5 = .ok (.iload_n 1, 1) := by decide +kernel
theorem dX3_leastForm_6 : decode cX3_leastForm 6 = .ok (.istore_n 2, 1) := by decide +kernel
theorem dX3_leastForm_7 : decode cX3_leastForm 7 = .ok (.iconst 0, 1) := by decide +kernel
theorem dX3_leastForm_8 : decode cX3_leastForm 8 = .ok (.istore_n 3, 1) := by decide +kernel
theorem dX3_leastForm_9 : decode cX3_leastForm 9 = .ok (.iload_n 3, 1) := by decide +kernel
theorem dX3_leastForm_10 : decode cX3_leastForm 10 = .ok (.bipush 8, 2) := by decide +kernel
theorem dX3_leastForm_12 : decode cX3_leastForm 12 = .ok (.if_icmp .ge 34, 3) := by decide +kernel
theorem dX3_leastForm_15 : decode cX3_leastForm 15 = .ok (.aload_n 0, 1) := by decide +kernel
theorem dX3_leastForm_16 : decode cX3_leastForm 16 = .ok (.getfield 10, 3) := by decide +kernel
theorem dX3_leastForm_19 : decode cX3_leastForm 19 = .ok (.iload_n 3, 1) := by decide +kernel
theorem dX3_leastForm_20 : decode cX3_leastForm 20 = .ok (.invokevirtual 107, 3) := by decide +kernel
theorem dX3_leastForm_23 : decode cX3_leastForm 23 = .ok (.ifCond .eq 17, 3) := by decide +kernel
theorem dX3_leastForm_26 : decode cX3_leastForm 26 = .ok (.iload_n 2, 1) := by decide +kernel
theorem dX3_leastForm_27 : decode cX3_leastForm 27 = .ok (.aload_n 0, 1) := by decide +kernel
theorem dX3_leastForm_28 : decode cX3_leastForm 28 = .ok (.getfield 10, 3) := by decide +kernel
theorem dX3_leastForm_31 : decode cX3_leastForm 31 = .ok (.iload_n 1, 1) := by decide +kernel
theorem dX3_leastForm_32 : decode cX3_leastForm 32 = .ok (.iload_n 3, 1) := by decide +kernel
theorem dX3_leastForm_33 : decode cX3_leastForm 33 = .ok (.invokevirtual 161, 3) := by decide +kernel
theorem dX3_leastForm_36 : decode cX3_leastForm 36 = .ok (.invokestatic 164, 3) := by decide +kernel
theorem dX3_leastForm_39 : decode cX3_leastForm 39 = .ok (.istore_n 2, 1) := by decide +kernel
theorem dX3_leastForm_40 : decode cX3_leastForm 40 = .ok (.iinc 3 1, 3) := by decide +kernel
theorem dX3_leastForm_43 : decode cX3_leastForm 43 = .ok (.goto (-34), 3) := by decide +kernel
theorem dX3_leastForm_46 : decode cX3_leastForm 46 = .ok (.iload_n 2, 1) := by decide +kernel
theorem dX3_leastForm_47 : decode cX3_leastForm 47 = .ok (.ireturn, 1) := by decide +kernel
def wp_X3_leastForm_J40 (rec9 : Int32 → Int32 → Prop) (v3_9 : Int32) (v2_40 : Int32) : Prop := (rec9 (v3_9 + 1) v2_40)
def wp_X3_leastForm_B9 (fu : Nat) (x1 : Int32) (s2 : SX) (K9 : Int32 → Prop) (rec9 : Int32 → Int32 → Prop) (v3_9 : Int32) (v2_9 : Int32) : Prop := ((8 ≤ v3_9 → (K9 v2_9)) ∧ (¬ 8 ≤ v3_9 → (wp_X0_isSymmetry fu s2 v3_9 (fun r20 => ((r20 = 0 → (wp_X3_leastForm_J40 rec9 v3_9 v2_9)) ∧ (¬ r20 = 0 → (wp_X0_turnedPegs fu s2 x1 v3_9 (fun r33 => (wp_X3_leastForm_J40 rec9 v3_9 (jmin v2_9 r33))))))))))
def wp_X3_leastForm_L9 (fu : Nat) (x1 : Int32) (s2 : SX) (K9 : Int32 → Prop) : Nat → Int32 → Int32 → Prop
  | 0, _, _ => False
  | nn + 1, v3_9, v2_9 => wp_X3_leastForm_B9 fu x1 s2 K9 (wp_X3_leastForm_L9 fu x1 s2 K9 nn) v3_9 v2_9
def wp_X3_leastForm (fu : Nat) (σ : SX) (x1 : Int32) (P : Int32 → SX → Prop) (X : String → SX → Prop) : Prop := (wp_X3_requirePegs σ x1 (fun s2 => (wp_X3_leastForm_L9 fu x1 s2 (fun (v2_46 : Int32) => (P v2_46 s2)) fu 0 x1)) X)
theorem k_X3_leastForm : KV RX3 yX3_leastForm cX3_leastForm 4 (some .int) 1 := ⟨q707, q708, q1, q709, by decide +kernel⟩
set_option maxHeartbeats 4000000 in
set_option maxRecDepth 100000 in
theorem m_X3_leastForm (l : Launch) (hl9 : l.stackTraces = false) (dC : Nat → ClassId) (dI : Nat → Nat → Nat) (h : Nat → Nat) (cy : Nat → ClassId) (sa : Nat → Nat) (sz : Nat) (fu : Nat) (σ : SX) (x1 : Int32) (P : Int32 → SX → Prop) (X : String → SX → Prop) (hF : wp_X3_leastForm fu σ x1 P X) : vx_Met l yX3_leastForm (ws_ yX3_leastForm cX3_leastForm 4 (some .int)) ({ frames := 7, cells := 1, slots := 6, locals := 111 } : Room) (va_Pc [.ref (h 16), .int x1] (PcT dC dI cy sa (wH h cy σ) sz)) (va_Qi (fun r u => P r u) (fun (u : SX) t => va_P (dC, dI) classes (wH h cy u) t.heap ∧ va_D (va_A (wH h cy σ) sz) (wH h cy u)) (va_A (wH h cy σ) sz)) (QxT dC dI (fun (u : SX) => wH h cy u) X (va_A (wH h cy σ) sz)) 1 6 (va_A (wH h cy σ) sz) := by
  refine vx_Met.ofCx (own := RX3) (by decide) rfl (Nat.le_of_ble_eq_true rfl) ?_
  intro p e s m below meth c hC hno hv ls hl
  obtain ⟨hx, hb, hr, hml, hown, hts, hlocks⟩ := hC
  have hl : lv_has ls 4 [(0, .ref (h 16)), (1, .int x1)] := hl
  obtain ⟨hsz, hP, hK, hD0, hXS, hXZ⟩ := hv
  subst hsz
  have hD := hD0.self (sz := s.heap.size)
  generalize hAe : va_A (wH h cy σ) s.heap.size = A at hD hXZ ⊢
  have hA : ∀ q : Nat, s.heap.size ≤ q → A q := fun q h => by rw [← hAe]; exact Or.inr h
  have hS : va_S A s.heap s.heap [] := va_S.rf
  clear hAe
  unfold wp_X3_leastForm at hF
  refine lv_aload_n hx hb dX3_leastForm_0 rfl (lv_at hl 0 rfl) ?_
  refine lv_iload_n hx hb dX3_leastForm_1 rfl (lv_at hl 1 rfl) ?_
  have hFc := va_free (wc := wH h cy σ) hD hS hA [0, 1, 2, 3, 4, 5, 6, 7, 8, 9, 10, 11, 12, 13, 14, 15, 16, 17, 18, 19, 20] rfl
  refine cxVv (q0 := 16) (As := [.int x1]) (rest := []) ⟨hx, hb, hr, hml, hown, hts, hlocks⟩ hno hK hXS hXZ hP hD rfl rfl hS hFc (m_X3_requirePegs l hl9 dC dI h cy sa _ σ x1 _ X hF) k_X3_requirePegs q644 ⟨rfl, rfl⟩ ⟨Nat.le_of_ble_eq_true rfl, Nat.le_of_ble_eq_true rfl⟩ hl.1 rfl rfl (Nat.le_of_ble_eq_true rfl) dX3_leastForm_2 ⟨Nat.le_of_ble_eq_true rfl, Nat.le_of_ble_eq_true rfl⟩ ⟨Nat.le_of_ble_eq_true rfl, Nat.le_of_ble_eq_true rfl⟩ (fun u H1 locs hF hP1 hD1 hS => ?_)
  obtain ⟨s2, rfl⟩ : ∃ z, z = u := ⟨_, rfl⟩
  have hP := hP1
  have hD := hD1
  generalize H1 = H at hP hS ⊢
  have hP : va_P (dC, dI) classes (wH h cy s2) H := hP
  have hD : va_D A (wH h cy s2) := hD
  refine lv_iload_n hx hb dX3_leastForm_5 rfl (lv_at hl 1 rfl) ?_
  refine lv_istore_n (lv' := [(2, .int x1), (0, .ref (h 16)), (1, .int x1)]) hx hb dX3_leastForm_6 rfl hl (by decide) rfl (fun ls hl => ?_)
  refine lv_iconst (v := 0) hx hb dX3_leastForm_7 (by decide) ?_
  refine lv_istore_n (lv' := [(3, .int 0), (2, .int x1), (0, .ref (h 16)), (1, .int x1)]) hx hb dX3_leastForm_8 rfl hl (by decide) rfl (fun ls hl => ?_)
  have hX9 : ∀ (v2_46 : Int32), (fun (v2_46 : Int32) => (P v2_46 s2)) v2_46 → ∀ (H : Heap) (locs : List Loc), va_P (dC, dI) classes (wH h cy s2) H → va_D A (wH h cy s2) → va_S A s.heap H locs → ∀ (ls : Array Slot), lv_has ls 4 [(2, .int v2_46)] → W p l e ({ frames := 7, cells := 1, slots := 6, locals := 111 } : Room) s m ([.ref (h 16), .int x1] : List Value).toArray below meth c H locs 1 6 (vx_MQ below (va_Qi (fun r u => P r u) (fun (u : SX) t => va_P (dC, dI) classes (wH h cy u) t.heap ∧ va_D A (wH h cy u)) A) (QxT dC dI (fun (u : SX) => wH h cy u) X A) ([.ref (h 16), .int x1] : List Value).toArray s 1 6 A) (F0 m 46 ls []) := by
    intro v2_46 hF H locs hP hD hS ls hl
    refine lv_iload_n hx hb dX3_leastForm_46 rfl (lv_at hl 0 rfl) ?_
    refine vx_ret (W.widen (k := 1) (n := 6) (Nat.le_of_ble_eq_true rfl) (Nat.le_of_ble_eq_true rfl) ?_)
    exact W.iret (v := v2_46) hx hb hr (fun t ht hW => ⟨⟨v2_46, s2, rfl, hF, by rw [ht]; exact hP, hD⟩, hS.F ht⟩) hS.2.2 dX3_leastForm_47
  have hL9 : ∀ (K9 : Int32 → Prop), (∀ (v2_46 : Int32), K9 v2_46 → ∀ (H : Heap) (locs : List Loc), va_P (dC, dI) classes (wH h cy s2) H → va_D A (wH h cy s2) → va_S A s.heap H locs → ∀ (ls : Array Slot), lv_has ls 4 [(2, .int v2_46)] → W p l e ({ frames := 7, cells := 1, slots := 6, locals := 111 } : Room) s m ([.ref (h 16), .int x1] : List Value).toArray below meth c H locs 1 6 (vx_MQ below (va_Qi (fun r u => P r u) (fun (u : SX) t => va_P (dC, dI) classes (wH h cy u) t.heap ∧ va_D A (wH h cy u)) A) (QxT dC dI (fun (u : SX) => wH h cy u) X A) ([.ref (h 16), .int x1] : List Value).toArray s 1 6 A) (F0 m 46 ls [])) → ∀ (nn : Nat), ∀ (v3_9 : Int32), ∀ (v2_9 : Int32), wp_X3_leastForm_L9 fu x1 s2 K9 nn v3_9 v2_9 → ∀ (H : Heap) (locs : List Loc), va_P (dC, dI) classes (wH h cy s2) H → va_D A (wH h cy s2) → va_S A s.heap H locs → ∀ (ls : Array Slot), lv_has ls 4 [(3, .int v3_9), (2, .int v2_9), (0, .ref (h 16)), (1, .int x1)] → W p l e ({ frames := 7, cells := 1, slots := 6, locals := 111 } : Room) s m ([.ref (h 16), .int x1] : List Value).toArray below meth c H locs 1 6 (vx_MQ below (va_Qi (fun r u => P r u) (fun (u : SX) t => va_P (dC, dI) classes (wH h cy u) t.heap ∧ va_D A (wH h cy u)) A) (QxT dC dI (fun (u : SX) => wH h cy u) X A) ([.ref (h 16), .int x1] : List Value).toArray s 1 6 A) (F0 m 9 ls []) := by
    intro K9 hX9 nn
    induction nn with
    | zero =>
      intro v3_9 v2_9 hF
      exact hF.elim
    | succ nn ih =>
      intro v3_9 v2_9 hF H locs hP hD hS ls hl
      obtain ⟨rec9, hrec⟩ : ∃ z : Int32 → Int32 → Prop, z = wp_X3_leastForm_L9 fu x1 s2 K9 nn := ⟨_, rfl⟩
      have hF : wp_X3_leastForm_B9 fu x1 s2 K9 rec9 v3_9 v2_9 := by rw [hrec]; exact hF
      rw [← hrec] at ih
      clear hrec
      unfold wp_X3_leastForm_B9 at hF
      refine lv_iload_n hx hb dX3_leastForm_9 rfl (lv_at hl 0 rfl) ?_
      refine lv_bipush (v := 8) hx hb dX3_leastForm_10 (by decide) ?_
      refine lv_icmp_ge (tgt := 46) hx hb dX3_leastForm_12 (by decide) (fun cz => ?_) (fun cz => ?_)
      · have hF := hF.1 cz
        exact hX9 v2_9 hF _ _ hP hD hS _ (lv_sub hl [1] rfl)
      · have hF := hF.2 cz
        refine lv_aload_n hx hb dX3_leastForm_15 rfl (lv_at hl 2 rfl) ?_
        refine va_get (D := (dC, dI)) (ci := 3) (v := .ref (h 0)) (C := RX3) (T := TX3) (N := 6) hx hb hts in_X3 hown hK.1 hP 16 rfl rfl 0 (by decide) (hts _ q141) (fun _ h9 => h9) rfl dX3_leastForm_16 ?_
        refine lv_iload_n hx hb dX3_leastForm_19 rfl (lv_at hl 0 rfl) ?_
        have hPc := hP.sub (ws' := wB h cy s2) [0, 1, 2, 3, 4, 5, 6, 7, 8, 9, 10, 11] rfl
        refine cpVi (q0 := 0) (As := [.int v3_9]) (rest := []) ⟨hx, hb, hr, hml, hown, hts, hlocks⟩ hK hPc rfl rfl (m_X0_isSymmetry l dC dI h cy fu s2 v3_9 _ hF) k_X0_isSymmetry q176 ⟨rfl, rfl⟩ ⟨Nat.le_of_ble_eq_true rfl, Nat.le_of_ble_eq_true rfl⟩ hl.1 rfl rfl (Nat.le_of_ble_eq_true rfl) dX3_leastForm_20 ⟨Nat.le_of_ble_eq_true rfl, Nat.le_of_ble_eq_true rfl⟩ (fun r20 hF => ?_)
        have hJ40 : ∀ (v2_40 : Int32), wp_X3_leastForm_J40 rec9 v3_9 v2_40 → ∀ (H : Heap) (locs : List Loc), va_P (dC, dI) classes (wH h cy s2) H → va_D A (wH h cy s2) → va_S A s.heap H locs → ∀ (ls : Array Slot), lv_has ls 4 [(3, .int v3_9), (2, .int v2_40), (0, .ref (h 16)), (1, .int x1)] → W p l e ({ frames := 7, cells := 1, slots := 6, locals := 111 } : Room) s m ([.ref (h 16), .int x1] : List Value).toArray below meth c H locs 1 6 (vx_MQ below (va_Qi (fun r u => P r u) (fun (u : SX) t => va_P (dC, dI) classes (wH h cy u) t.heap ∧ va_D A (wH h cy u)) A) (QxT dC dI (fun (u : SX) => wH h cy u) X A) ([.ref (h 16), .int x1] : List Value).toArray s 1 6 A) (F0 m 40 ls []) := by
          intro v2_40 hF H locs hP hD hS ls hl
          unfold wp_X3_leastForm_J40 at hF
          refine lv_iinc (v := v3_9 + 1) (lv' := [(3, .int (v3_9 + 1)), (2, .int v2_40), (0, .ref (h 16)), (1, .int x1)]) hx hb dX3_leastForm_40 hl (k := 0) rfl (by rfl) (by decide) rfl (fun ls hl => ?_)
          refine lv_goto (tgt := 9) hx hb dX3_leastForm_43 (by decide) ?_
          exact ih (v3_9 + 1) v2_40 hF _ _ hP hD hS _ (lv_sub hl [0, 1, 2, 3] rfl)
        refine lv_if_eq (tgt := 40) hx hb dX3_leastForm_23 (by decide) (fun cz => ?_) (fun cz => ?_)
        · have hF := hF.1 cz
          exact hJ40 v2_9 hF _ _ hP hD hS _ (lv_sub hl [0, 1, 2, 3] rfl)
        · have hF := hF.2 cz
          refine lv_iload_n hx hb dX3_leastForm_26 rfl (lv_at hl 1 rfl) ?_
          refine lv_aload_n hx hb dX3_leastForm_27 rfl (lv_at hl 2 rfl) ?_
          refine va_get (D := (dC, dI)) (ci := 3) (v := .ref (h 0)) (C := RX3) (T := TX3) (N := 6) hx hb hts in_X3 hown hK.1 hP 16 rfl rfl 0 (by decide) (hts _ q141) (fun _ h9 => h9) rfl dX3_leastForm_28 ?_
          refine lv_iload_n hx hb dX3_leastForm_31 rfl (lv_at hl 3 rfl) ?_
          refine lv_iload_n hx hb dX3_leastForm_32 rfl (lv_at hl 0 rfl) ?_
          have hPc := hP.sub (ws' := wB h cy s2) [0, 1, 2, 3, 4, 5, 6, 7, 8, 9, 10, 11] rfl
          refine cpVi (q0 := 0) (As := [.int x1, .int v3_9]) (rest := [.int v2_9]) ⟨hx, hb, hr, hml, hown, hts, hlocks⟩ hK hPc rfl rfl (m_X0_turnedPegs l dC dI h cy fu s2 x1 v3_9 _ hF) k_X0_turnedPegs q710 ⟨rfl, rfl⟩ ⟨Nat.le_of_ble_eq_true rfl, Nat.le_of_ble_eq_true rfl⟩ hl.1 rfl rfl (Nat.le_of_ble_eq_true rfl) dX3_leastForm_33 ⟨Nat.le_of_ble_eq_true rfl, Nat.le_of_ble_eq_true rfl⟩ (fun r33 hF => ?_)
          refine va_mmin hx hb (by rw [hml]; exact hl.1.symm) hown (hts _ q714) (hts _ q261) (hts _ q13) (hts _ q262) (Nat.le_of_ble_eq_true rfl) (Nat.le_of_ble_eq_true rfl) (Nat.le_of_ble_eq_true rfl) (Nat.le_of_ble_eq_true rfl) dX3_leastForm_36 ?_
          refine lv_istore_n (lv' := [(2, .int (jmin v2_9 r33)), (3, .int v3_9), (0, .ref (h 16)), (1, .int x1)]) hx hb dX3_leastForm_39 rfl hl (by decide) rfl (fun ls hl => ?_)
          exact hJ40 (jmin v2_9 r33) hF _ _ hP hD hS _ (lv_sub hl [1, 0, 2, 3] rfl)
  exact hL9 _ hX9 fu 0 x1 hF _ _ hP hD hS _ (lv_sub hl [0, 1, 2, 3] rfl)
theorem dX3_leastSweeps_0 : decode cX3_leastSweeps 0 = .ok (.aload_n 0, 1) := by decide +kernel
theorem dX3_leastSweeps_1 : decode cX3_leastSweeps 1 = .ok (.getfield 10, 3) := by decide +kernel
theorem dX3_leastSweeps_4 : decode cX3_leastSweeps 4 = .ok (.invokevirtual 67, 3) := by decide +kernel
theorem dX3_leastSweeps_7 : decode cX3_leastSweeps 7 = .ok (.bipush 10, 2) := by decide +kernel
theorem dX3_leastSweeps_9 : decode cX3_leastSweeps 9 = .ok (.if_icmp .le 13, 3) := by decide +kernel
theorem dX3_leastSweeps_12 : decode cX3_leastSweeps 12 = .ok (.new 62, 3) := by decide +kernel
theorem dX3_leastSweeps_15 : decode cX3_leastSweeps 15 = .ok (.dup, 1) := by decide +kernel
theorem dX3_leastSweeps_16 : decode cX3_leastSweeps 16 = .ok (.ldc 195, 2) := by decide +kernel
theorem dX3_leastSweeps_18 : decode cX3_leastSweeps 18 = .ok (.invokespecial 66, 3) := by decide +kernel
theorem dX3_leastSweeps_21 : decode cX3_leastSweeps 21 = .ok (.athrow, 1) := by decide +kernel
theorem dX3_leastSweeps_22 : decode cX3_leastSweeps 22 = .ok (.aload_n 0, 1) := by decide +kernel
theorem dX3_leastSweeps_23 : decode cX3_leastSweeps 23 = .ok (.getfield 21, 3) := by decide +kernel
theorem dX3_leastSweeps_26 : decode cX3_leastSweeps 26 = .ok (.aload_n 0, 1) := by decide +kernel
theorem dX3_leastSweeps_27 : decode cX3_leastSweeps 27 = .ok (.getfield 83, 3) := by decide +kernel
theorem dX3_leastSweeps_30 : decode cX3_leastSweeps 30 = .ok (.invokevirtual 169, 3) := by decide +kernel
theorem dX3_leastSweeps_33 : decode cX3_leastSweeps 33 = .ok (.aload_n 0, 1) := by decide +kernel
theorem dX3_leastSweeps_34 : decode cX3_leastSweeps 34 = .ok (.getfield 21, 3) := by decide +kernel
theorem dX3_leastSweeps_37 : decode cX3_leastSweeps 37 = .ok (.aload_n 0, 1) := by decide +kernel
theorem dX3_leastSweeps_38 : decode cX3_leastSweeps 38 = .ok (.getfield 87, 3) := by decide +kernel
theorem dX3_leastSweeps_41 : decode cX3_leastSweeps 41 = .ok (.invokevirtual 197, 3) := by decide +kernel
theorem dX3_leastSweeps_44 : decode cX3_leastSweeps 44 = .ok (.istore_n 1, 1) := by decide +kernel
theorem dX3_leastSweeps_45 : decode cX3_leastSweeps 45 = .ok (.iload_n 1, 1) := by decide +kernel
theorem dX3_leastSweeps_46 : decode cX3_leastSweeps 46 = .ok (.sipush 1000, 3) := by decide +kernel
theorem dX3_leastSweeps_49 : decode cX3_leastSweeps 49 = .ok (.if_icmp .lt 13, 3) := by decide +kernel
theorem dX3_leastSweeps_52 : decode cX3_leastSweeps 52 = .ok (.new 95, 3) := by decide +kernel
theorem dX3_leastSweeps_55 : decode cX3_leastSweeps 55 = .ok (.dup, 1) := by decide +kernel
theorem dX3_leastSweeps_56 : decode cX3_leastSweeps 56 = .ok (.ldc 200, 2) := by decide +kernel
theorem dX3_leastSweeps_58 : decode cX3_leastSweeps 58 = .ok (.invokespecial 97, 3) := by decide +kernel
theorem dX3_leastSweeps_61 : decode cX3_leastSweeps 61 = .ok (.athrow, 1) := by decide +kernel
theorem dX3_leastSweeps_62 : decode cX3_leastSweeps 62 = .ok (.iload_n 1, 1) := by decide +kernel
theorem dX3_leastSweeps_63 : decode cX3_leastSweeps 63 = .ok (.ireturn, 1) := by decide +kernel
def wp_X3_leastSweeps (fu : Nat) (σ : SX) (P : Int32 → SX → Prop) (X : String → SX → Prop) : Prop := (wp_X0_holes σ  (fun r4 => ((r4 ≤ 10 → (wp_X2_begin fu σ (σ.1 15) (fun s30 => (wp_X2_leastSweepsTo fu (mgX2 σ s30) (σ.1 16) (fun r41 s41 => ((r41 < 1000 → (P r41 (mgX2 (mgX2 σ s30) s41))) ∧ (¬ r41 < 1000 → (X "java/util/NoSuchElementException" (mgX2 (mgX2 σ s30) s41))))))))) ∧ (¬ r4 ≤ 10 → (X "java/lang/UnsupportedOperationException" σ)))))
theorem k_X3_leastSweeps : KV RX3 yX3_leastSweeps cX3_leastSweeps 2 (some .int) 0 := ⟨q753, q754, q1, q755, by decide +kernel⟩
set_option maxHeartbeats 4000000 in
set_option maxRecDepth 100000 in
theorem m_X3_leastSweeps (l : Launch) (hl9 : l.stackTraces = false) (dC : Nat → ClassId) (dI : Nat → Nat → Nat) (h : Nat → Nat) (cy : Nat → ClassId) (sa : Nat → Nat) (sz : Nat) (fu : Nat) (σ : SX) (P : Int32 → SX → Prop) (X : String → SX → Prop) (hF : wp_X3_leastSweeps fu σ P X) : vx_Met l yX3_leastSweeps (ws_ yX3_leastSweeps cX3_leastSweeps 2 (some .int)) ({ frames := 6, cells := 1, slots := 6, locals := 95 } : Room) (va_Pc [.ref (h 16)] (PcT dC dI cy sa (wH h cy σ) sz)) (va_Qi (fun r u => P r u) (fun (u : SX) t => va_P (dC, dI) classes (wH h cy u) t.heap ∧ va_D (va_A (wH h cy σ) sz) (wH h cy u)) (va_A (wH h cy σ) sz)) (QxT dC dI (fun (u : SX) => wH h cy u) X (va_A (wH h cy σ) sz)) 1 6 (va_A (wH h cy σ) sz) := by
  refine vx_Met.ofCx (own := RX3) (by decide) rfl (Nat.le_of_ble_eq_true rfl) ?_
  intro p e s m below meth c hC hno hv ls hl
  obtain ⟨hx, hb, hr, hml, hown, hts, hlocks⟩ := hC
  have hl : lv_has ls 2 [(0, .ref (h 16))] := hl
  obtain ⟨hsz, hP, hK, hD0, hXS, hXZ⟩ := hv
  subst hsz
  have hD := hD0.self (sz := s.heap.size)
  generalize hAe : va_A (wH h cy σ) s.heap.size = A at hD hXZ ⊢
  have hA : ∀ q : Nat, s.heap.size ≤ q → A q := fun q h => by rw [← hAe]; exact Or.inr h
  have hS : va_S A s.heap s.heap [] := va_S.rf
  clear hAe
  unfold wp_X3_leastSweeps at hF
  refine lv_aload_n hx hb dX3_leastSweeps_0 rfl (lv_at hl 0 rfl) ?_
  refine va_get (D := (dC, dI)) (ci := 3) (v := .ref (h 0)) (C := RX3) (T := TX3) (N := 6) hx hb hts in_X3 hown hK.1 hP 16 rfl rfl 0 (by decide) (hts _ q141) (fun _ h9 => h9) rfl dX3_leastSweeps_1 ?_
  have hPc := hP.sub (ws' := wB h cy σ) [0, 1, 2, 3, 4, 5, 6, 7, 8, 9, 10, 11] rfl
  refine cpVi (q0 := 0) (As := []) (rest := []) ⟨hx, hb, hr, hml, hown, hts, hlocks⟩ hK hPc rfl rfl (m_X0_holes l dC dI h cy σ  _ hF) k_X0_holes q350 ⟨rfl, rfl⟩ ⟨Nat.le_of_ble_eq_true rfl, Nat.le_of_ble_eq_true rfl⟩ hl.1 rfl rfl (Nat.le_of_ble_eq_true rfl) dX3_leastSweeps_4 ⟨Nat.le_of_ble_eq_true rfl, Nat.le_of_ble_eq_true rfl⟩ (fun r4 hF => ?_)
  refine lv_bipush (v := 10) hx hb dX3_leastSweeps_7 (by decide) ?_
  refine lv_icmp_le (tgt := 22) hx hb dX3_leastSweeps_9 (by decide) (fun cz => ?_) (fun cz => ?_)
  · have hF := hF.1 cz
    refine lv_aload_n hx hb dX3_leastSweeps_22 rfl (lv_at hl 0 rfl) ?_
    refine va_get (D := (dC, dI)) (ci := 3) (v := .ref (h 12)) (C := RX3) (T := TX3) (N := 6) hx hb hts in_X3 hown hK.1 hP 16 rfl rfl 1 (by decide) (hts _ q142) (fun _ h9 => h9) rfl dX3_leastSweeps_23 ?_
    refine lv_aload_n hx hb dX3_leastSweeps_26 rfl (lv_at hl 0 rfl) ?_
    refine va_get (D := (dC, dI)) (ci := 3) (v := .int (σ.1 15)) (C := RX3) (T := TX3) (N := 6) hx hb hts in_X3 hown hK.1 hP 16 rfl rfl 4 (by decide) (hts _ q145) (fun _ h9 => h9) rfl dX3_leastSweeps_27 ?_
    have hPc := hP.sub (ws' := wW h cy σ) [0, 1, 2, 3, 4, 5, 6, 7, 8, 9, 10, 11, 12, 13, 14, 15] rfl
    have hDc := hD.sub (ws' := wW h cy σ) [0, 1, 2, 3, 4, 5, 6, 7, 8, 9, 10, 11, 12, 13, 14, 15] (by decide) rfl
    have hFc := va_free (wc := wW h cy σ) hD hS hA [0, 1, 2, 3, 4, 5, 6, 7, 8, 9, 10, 11, 12, 13, 14, 15] rfl
    refine cwVv (q0 := 12) (As := [.int (σ.1 15)]) (rest := []) ⟨hx, hb, hr, hml, hown, hts, hlocks⟩ hK hPc hDc rfl rfl hS hFc (m_X2_begin l dC dI h cy _ fu σ (σ.1 15) _ hF) k_X2_begin q232 ⟨rfl, rfl⟩ ⟨Nat.le_of_ble_eq_true rfl, Nat.le_of_ble_eq_true rfl⟩ hl.1 rfl rfl (Nat.le_of_ble_eq_true rfl) dX3_leastSweeps_30 ⟨Nat.le_of_ble_eq_true rfl, Nat.le_of_ble_eq_true rfl⟩ (fun u H1 locs hF hP1 hD1 hk1 hS => ?_)
    obtain ⟨s30, rfl⟩ : ∃ z, z = u := ⟨_, rfl⟩
    obtain ⟨hP, hD⟩ := va_join (wr := [(h 16, .inr (3, [.ref (h 0), .ref (h 12), .ref (h 17), .ref (h 19), .int (σ.1 15), .int (σ.1 16)])), (h 17, .inr (1, [.ref (h 18), .int (σ.1 17)])), (h 18, .inl (cy 0, 12, .inl (σ.2.1 8))), (h 19, .inr (1, [.ref (h 20), .int (σ.1 18)])), (h 20, .inl (cy 0, 12, .inl (σ.2.1 9)))]) (w1 := wW h cy s30) hP hD [0, 1, 2, 3, 4, 5, 6, 7, 8, 9, 10, 11, 12, 13, 14, 15] [16, 17, 18, 19, 20] rfl rfl (by decide) (by decide) hk1 hFc hP1 hD1
    have hP := hP.sub (ws' := wH h cy (mgX2 σ s30)) [5, 6, 7, 8, 9, 10, 11, 12, 13, 14, 15, 16, 17, 18, 19, 20, 0, 1, 2, 3, 4] rfl
    have hD := hD.sub (ws' := wH h cy (mgX2 σ s30)) [5, 6, 7, 8, 9, 10, 11, 12, 13, 14, 15, 16, 17, 18, 19, 20, 0, 1, 2, 3, 4] (by decide) rfl
    generalize H1 = H at hP hS ⊢
    have hP : va_P (dC, dI) classes (wH h cy (mgX2 σ s30)) H := hP
    have hD : va_D A (wH h cy (mgX2 σ s30)) := hD
    refine lv_aload_n hx hb dX3_leastSweeps_33 rfl (lv_at hl 0 rfl) ?_
    refine va_get (D := (dC, dI)) (ci := 3) (v := .ref (h 12)) (C := RX3) (T := TX3) (N := 6) hx hb hts in_X3 hown hK.1 hP 16 rfl rfl 1 (by decide) (hts _ q142) (fun _ h9 => h9) rfl dX3_leastSweeps_34 ?_
    refine lv_aload_n hx hb dX3_leastSweeps_37 rfl (lv_at hl 0 rfl) ?_
    refine va_get (D := (dC, dI)) (ci := 3) (v := .int (σ.1 16)) (C := RX3) (T := TX3) (N := 6) hx hb hts in_X3 hown hK.1 hP 16 rfl rfl 5 (by decide) (hts _ q146) (fun _ h9 => h9) rfl dX3_leastSweeps_38 ?_
    have hPc := hP.sub (ws' := wW h cy (mgX2 σ s30)) [0, 1, 2, 3, 4, 5, 6, 7, 8, 9, 10, 11, 12, 13, 14, 15] rfl
    have hDc := hD.sub (ws' := wW h cy (mgX2 σ s30)) [0, 1, 2, 3, 4, 5, 6, 7, 8, 9, 10, 11, 12, 13, 14, 15] (by decide) rfl
    have hFc := va_free (wc := wW h cy (mgX2 σ s30)) hD hS hA [0, 1, 2, 3, 4, 5, 6, 7, 8, 9, 10, 11, 12, 13, 14, 15] rfl
    refine cwVi (q0 := 12) (As := [.int (σ.1 16)]) (rest := []) ⟨hx, hb, hr, hml, hown, hts, hlocks⟩ hK hPc hDc rfl rfl hS hFc (m_X2_leastSweepsTo l dC dI h cy _ fu (mgX2 σ s30) (σ.1 16) _ hF) k_X2_leastSweepsTo q757 ⟨rfl, rfl⟩ ⟨Nat.le_of_ble_eq_true rfl, Nat.le_of_ble_eq_true rfl⟩ hl.1 rfl rfl (Nat.le_of_ble_eq_true rfl) dX3_leastSweeps_41 ⟨Nat.le_of_ble_eq_true rfl, Nat.le_of_ble_eq_true rfl⟩ (fun r41 u H1 locs hF hP1 hD1 hk1 hS => ?_)
    obtain ⟨s41, rfl⟩ : ∃ z, z = u := ⟨_, rfl⟩
    obtain ⟨hP, hD⟩ := va_join (wr := [(h 16, .inr (3, [.ref (h 0), .ref (h 12), .ref (h 17), .ref (h 19), .int (σ.1 15), .int (σ.1 16)])), (h 17, .inr (1, [.ref (h 18), .int (σ.1 17)])), (h 18, .inl (cy 0, 12, .inl (σ.2.1 8))), (h 19, .inr (1, [.ref (h 20), .int (σ.1 18)])), (h 20, .inl (cy 0, 12, .inl (σ.2.1 9)))]) (w1 := wW h cy s41) hP hD [0, 1, 2, 3, 4, 5, 6, 7, 8, 9, 10, 11, 12, 13, 14, 15] [16, 17, 18, 19, 20] rfl rfl (by decide) (by decide) hk1 hFc hP1 hD1
    have hP := hP.sub (ws' := wH h cy (mgX2 (mgX2 σ s30) s41)) [5, 6, 7, 8, 9, 10, 11, 12, 13, 14, 15, 16, 17, 18, 19, 20, 0, 1, 2, 3, 4] rfl
    have hD := hD.sub (ws' := wH h cy (mgX2 (mgX2 σ s30) s41)) [5, 6, 7, 8, 9, 10, 11, 12, 13, 14, 15, 16, 17, 18, 19, 20, 0, 1, 2, 3, 4] (by decide) rfl
    generalize H1 = H at hP hS ⊢
    have hP : va_P (dC, dI) classes (wH h cy (mgX2 (mgX2 σ s30) s41)) H := hP
    have hD : va_D A (wH h cy (mgX2 (mgX2 σ s30) s41)) := hD
    refine lv_istore_n (lv' := [(1, .int r41), (0, .ref (h 16))]) hx hb dX3_leastSweeps_44 rfl hl (by decide) rfl (fun ls hl => ?_)
    refine lv_iload_n hx hb dX3_leastSweeps_45 rfl (lv_at hl 0 rfl) ?_
    refine lv_sipush (v := 1000) hx hb dX3_leastSweeps_46 (by decide) ?_
    refine lv_icmp_lt (tgt := 62) hx hb dX3_leastSweeps_49 (by decide) (fun cz => ?_) (fun cz => ?_)
    · have hF := hF.1 cz
      refine lv_iload_n hx hb dX3_leastSweeps_62 rfl (lv_at hl 0 rfl) ?_
      refine vx_ret (W.widen (k := 1) (n := 6) (Nat.le_of_ble_eq_true rfl) (Nat.le_of_ble_eq_true rfl) ?_)
      exact W.iret (v := r41) hx hb hr (fun t ht hW => ⟨⟨r41, mgX2 (mgX2 σ s30) s41, rfl, hF, by rw [ht]; exact hP, hD⟩, hS.F ht⟩) hS.2.2 dX3_leastSweeps_63
    · have hF := hF.2 cz
      exact thrN (u := mgX2 (mgX2 σ s30) s41) (wn := fun (u : SX) => wH h cy u) (X := X) ⟨hx, hb, hr, hml, hown, hts, hlocks⟩ hno hl9 hK.2 rfl hXS hXZ hS hl.1 hP hD 12 rfl at_95_97 dX3_leastSweeps_52 dX3_leastSweeps_55 dX3_leastSweeps_56 dX3_leastSweeps_58 dX3_leastSweeps_61 (Nat.le_of_ble_eq_true rfl) (Nat.le_of_ble_eq_true rfl) (Nat.le_of_ble_eq_true rfl) (Nat.le_of_ble_eq_true rfl) (Nat.le_of_ble_eq_true rfl) (Nat.le_of_ble_eq_true rfl) hF
  · have hF := hF.2 cz
    exact thrS (u := σ) (wn := fun (u : SX) => wH h cy u) (X := X) ⟨hx, hb, hr, hml, hown, hts, hlocks⟩ hno hl9 hK.2 rfl hXS hXZ hS hl.1 hP hD 11 rfl at_62_66 dX3_leastSweeps_12 dX3_leastSweeps_15 dX3_leastSweeps_16 dX3_leastSweeps_18 dX3_leastSweeps_21 (Nat.le_of_ble_eq_true rfl) (Nat.le_of_ble_eq_true rfl) (Nat.le_of_ble_eq_true rfl) (Nat.le_of_ble_eq_true rfl) (Nat.le_of_ble_eq_true rfl) (Nat.le_of_ble_eq_true rfl) hF
theorem dX3_loses_0 : decode cX3_loses 0 = .ok (.aload_n 0, 1) := by decide +kernel
theorem dX3_loses_1 : decode cX3_loses 1 = .ok (.iload_n 1, 1) := by decide +kernel
theorem dX3_loses_2 : decode cX3_loses 2 = .ok (.iload_n 2, 1) := by decide +kernel
theorem dX3_loses_3 : decode cX3_loses 3 = .ok (.invokevirtual 120, 3) := by decide +kernel
theorem dX3_loses_6 : decode cX3_loses 6 = .ok (.istore_n 3, 1) := by decide +kernel
theorem dX3_loses_7 : decode cX3_loses 7 = .ok (.aload_n 0, 1) := by decide +kernel
theorem dX3_loses_8 : decode cX3_loses 8 = .ok (.getfield 21, 3) := by decide +kernel
theorem dX3_loses_11 : decode cX3_loses 11 = .ok (.aload_n 0, 1) := by decide +kernel
theorem dX3_loses_12 : decode cX3_loses 12 = .ok (.getfield 83, 3) := by decide +kernel
theorem dX3_loses_15 : decode cX3_loses 15 = .ok (.invokevirtual 169, 3) := by decide +kernel
theorem dX3_loses_18 : decode cX3_loses 18 = .ok (.aload_n 0, 1) := by decide +kernel
theorem dX3_loses_19 : decode cX3_loses 19 = .ok (.getfield 21, 3) := by decide +kernel
theorem dX3_loses_22 : decode cX3_loses 22 = .ok (.aload_n 0, 1) := by decide +kernel
theorem dX3_loses_23 : decode cX3_loses 23 = .ok (.getfield 87, 3) := by decide +kernel
theorem dX3_loses_26 : decode cX3_loses 26 = .ok (.invokevirtual 176, 3) := by decide +kernel
theorem dX3_loses_29 : decode cX3_loses 29 = .ok (.aload_n 0, 1) := by decide +kernel
theorem dX3_loses_30 : decode cX3_loses 30 = .ok (.getfield 21, 3) := by decide +kernel
theorem dX3_loses_33 : decode cX3_loses 33 = .ok (.aload_n 0, 1) := by decide +kernel
theorem dX3_loses_34 : decode cX3_loses 34 = .ok (.getfield 83, 3) := by decide +kernel
theorem dX3_loses_37 : decode cX3_loses 37 = .ok (.invokevirtual 184, 3) := by decide +kernel
theorem dX3_loses_40 : decode cX3_loses 40 = .ok (.iconst 1, 1) := by decide +kernel
theorem dX3_loses_41 : decode cX3_loses 41 = .ok (.if_icmp .ne 18, 3) := by decide +kernel
theorem dX3_loses_44 : decode cX3_loses 44 = .ok (.aload_n 0, 1) := by decide +kernel
theorem dX3_loses_45 : decode cX3_loses 45 = .ok (.getfield 21, 3) := by decide +kernel
theorem dX3_loses_48 : decode cX3_loses 48 = .ok (.iload_n 3, 1) := by decide +kernel
theorem dX3_loses_49 : decode cX3_loses 49 = .ok (.invokevirtual 184, 3) := by decide +kernel
theorem dX3_loses_52 : decode cX3_loses 52 = .ok (.ifCond .ne 7, 3) := by decide +kernel
theorem dX3_loses_55 : decode cX3_loses 55 = .ok (.iconst 1, 1) := by decide +kernel
theorem dX3_loses_56 : decode cX3_loses 56 = .ok (.goto 4, 3) := by decide +kernel
theorem dX3_loses_59 : decode cX3_loses 59 = .ok (.iconst 0, 1) := by decide +kernel
theorem dX3_loses_60 : decode cX3_loses 60 = .ok (.ireturn, 1) := by decide +kernel
def wp_X3_loses (fu : Nat) (σ : SX) (x1 : Int32) (x2 : Int32) (P : Int32 → SX → Prop) (X : String → SX → Prop) : Prop := (wp_X3_requireJump fu σ x1 x2 (fun r3 s3 => (wp_X2_begin fu s3 (s3.1 15) (fun s15 => (wp_X2_figureLeads fu (mgX2 s3 s15) (s3.1 16) (fun s26 => (wp_X2_figureAt (mgX2 (mgX2 s3 s15) s26) (s3.1 15) (fun r37 => ((¬ r37 = 1 → (P 0 (mgX2 (mgX2 s3 s15) s26))) ∧ (r37 = 1 → (wp_X2_figureAt (mgX2 (mgX2 s3 s15) s26) r3 (fun r49 => ((¬ r49 = 0 → (P 0 (mgX2 (mgX2 s3 s15) s26))) ∧ (r49 = 0 → (P 1 (mgX2 (mgX2 s3 s15) s26))))))))))))))) X)
theorem k_X3_loses : KV RX3 yX3_loses cX3_loses 4 (some .boolean) 2 := ⟨q746, q747, q1, q748, by decide +kernel⟩
set_option maxHeartbeats 4000000 in
set_option maxRecDepth 100000 in
theorem m_X3_loses (l : Launch) (hl9 : l.stackTraces = false) (dC : Nat → ClassId) (dI : Nat → Nat → Nat) (h : Nat → Nat) (cy : Nat → ClassId) (sa : Nat → Nat) (sz : Nat) (fu : Nat) (σ : SX) (x1 : Int32) (x2 : Int32) (P : Int32 → SX → Prop) (X : String → SX → Prop) (hF : wp_X3_loses fu σ x1 x2 P X) : vx_Met l yX3_loses (ws_ yX3_loses cX3_loses 4 (some .boolean)) ({ frames := 8, cells := 3, slots := 18, locals := 134 } : Room) (va_Pc [.ref (h 16), .int x1, .int x2] (PcT dC dI cy sa (wH h cy σ) sz)) (va_Qi (fun r u => P r u) (fun (u : SX) t => va_P (dC, dI) classes (wH h cy u) t.heap ∧ va_D (va_A (wH h cy σ) sz) (wH h cy u)) (va_A (wH h cy σ) sz)) (QxT dC dI (fun (u : SX) => wH h cy u) X (va_A (wH h cy σ) sz)) 3 18 (va_A (wH h cy σ) sz) := by
  refine vx_Met.ofCx (own := RX3) (by decide) rfl (Nat.le_of_ble_eq_true rfl) ?_
  intro p e s m below meth c hC hno hv ls hl
  obtain ⟨hx, hb, hr, hml, hown, hts, hlocks⟩ := hC
  have hl : lv_has ls 4 [(0, .ref (h 16)), (1, .int x1), (2, .int x2)] := hl
  obtain ⟨hsz, hP, hK, hD0, hXS, hXZ⟩ := hv
  subst hsz
  have hD := hD0.self (sz := s.heap.size)
  generalize hAe : va_A (wH h cy σ) s.heap.size = A at hD hXZ ⊢
  have hA : ∀ q : Nat, s.heap.size ≤ q → A q := fun q h => by rw [← hAe]; exact Or.inr h
  have hS : va_S A s.heap s.heap [] := va_S.rf
  clear hAe
  unfold wp_X3_loses at hF
  refine lv_aload_n hx hb dX3_loses_0 rfl (lv_at hl 0 rfl) ?_
  refine lv_iload_n hx hb dX3_loses_1 rfl (lv_at hl 1 rfl) ?_
  refine lv_iload_n hx hb dX3_loses_2 rfl (lv_at hl 2 rfl) ?_
  have hFc := va_free (wc := wH h cy σ) hD hS hA [0, 1, 2, 3, 4, 5, 6, 7, 8, 9, 10, 11, 12, 13, 14, 15, 16, 17, 18, 19, 20] rfl
  refine cxVi (q0 := 16) (As := [.int x1, .int x2]) (rest := []) ⟨hx, hb, hr, hml, hown, hts, hlocks⟩ hno hK hXS hXZ hP hD rfl rfl hS hFc (m_X3_requireJump l hl9 dC dI h cy sa _ fu σ x1 x2 _ X hF) k_X3_requireJump q667 ⟨rfl, rfl⟩ ⟨Nat.le_of_ble_eq_true rfl, Nat.le_of_ble_eq_true rfl⟩ hl.1 rfl rfl (Nat.le_of_ble_eq_true rfl) dX3_loses_3 ⟨Nat.le_of_ble_eq_true rfl, Nat.le_of_ble_eq_true rfl⟩ ⟨Nat.le_of_ble_eq_true rfl, Nat.le_of_ble_eq_true rfl⟩ (fun r3 u H1 locs hF hP1 hD1 hS => ?_)
  obtain ⟨s3, rfl⟩ : ∃ z, z = u := ⟨_, rfl⟩
  have hP := hP1
  have hD := hD1
  generalize H1 = H at hP hS ⊢
  have hP : va_P (dC, dI) classes (wH h cy s3) H := hP
  have hD : va_D A (wH h cy s3) := hD
  refine lv_istore_n (lv' := [(3, .int r3), (0, .ref (h 16)), (1, .int x1), (2, .int x2)]) hx hb dX3_loses_6 rfl hl (by decide) rfl (fun ls hl => ?_)
  refine lv_aload_n hx hb dX3_loses_7 rfl (lv_at hl 1 rfl) ?_
  refine va_get (D := (dC, dI)) (ci := 3) (v := .ref (h 12)) (C := RX3) (T := TX3) (N := 6) hx hb hts in_X3 hown hK.1 hP 16 rfl rfl 1 (by decide) (hts _ q142) (fun _ h9 => h9) rfl dX3_loses_8 ?_
  refine lv_aload_n hx hb dX3_loses_11 rfl (lv_at hl 1 rfl) ?_
  refine va_get (D := (dC, dI)) (ci := 3) (v := .int (s3.1 15)) (C := RX3) (T := TX3) (N := 6) hx hb hts in_X3 hown hK.1 hP 16 rfl rfl 4 (by decide) (hts _ q145) (fun _ h9 => h9) rfl dX3_loses_12 ?_
  have hPc := hP.sub (ws' := wW h cy s3) [0, 1, 2, 3, 4, 5, 6, 7, 8, 9, 10, 11, 12, 13, 14, 15] rfl
  have hDc := hD.sub (ws' := wW h cy s3) [0, 1, 2, 3, 4, 5, 6, 7, 8, 9, 10, 11, 12, 13, 14, 15] (by decide) rfl
  have hFc := va_free (wc := wW h cy s3) hD hS hA [0, 1, 2, 3, 4, 5, 6, 7, 8, 9, 10, 11, 12, 13, 14, 15] rfl
  refine cwVv (q0 := 12) (As := [.int (s3.1 15)]) (rest := []) ⟨hx, hb, hr, hml, hown, hts, hlocks⟩ hK hPc hDc rfl rfl hS hFc (m_X2_begin l dC dI h cy _ fu s3 (s3.1 15) _ hF) k_X2_begin q232 ⟨rfl, rfl⟩ ⟨Nat.le_of_ble_eq_true rfl, Nat.le_of_ble_eq_true rfl⟩ hl.1 rfl rfl (Nat.le_of_ble_eq_true rfl) dX3_loses_15 ⟨Nat.le_of_ble_eq_true rfl, Nat.le_of_ble_eq_true rfl⟩ (fun u H1 locs hF hP1 hD1 hk1 hS => ?_)
  obtain ⟨s15, rfl⟩ : ∃ z, z = u := ⟨_, rfl⟩
  obtain ⟨hP, hD⟩ := va_join (wr := [(h 16, .inr (3, [.ref (h 0), .ref (h 12), .ref (h 17), .ref (h 19), .int (s3.1 15), .int (s3.1 16)])), (h 17, .inr (1, [.ref (h 18), .int (s3.1 17)])), (h 18, .inl (cy 0, 12, .inl (s3.2.1 8))), (h 19, .inr (1, [.ref (h 20), .int (s3.1 18)])), (h 20, .inl (cy 0, 12, .inl (s3.2.1 9)))]) (w1 := wW h cy s15) hP hD [0, 1, 2, 3, 4, 5, 6, 7, 8, 9, 10, 11, 12, 13, 14, 15] [16, 17, 18, 19, 20] rfl rfl (by decide) (by decide) hk1 hFc hP1 hD1
  have hP := hP.sub (ws' := wH h cy (mgX2 s3 s15)) [5, 6, 7, 8, 9, 10, 11, 12, 13, 14, 15, 16, 17, 18, 19, 20, 0, 1, 2, 3, 4] rfl
  have hD := hD.sub (ws' := wH h cy (mgX2 s3 s15)) [5, 6, 7, 8, 9, 10, 11, 12, 13, 14, 15, 16, 17, 18, 19, 20, 0, 1, 2, 3, 4] (by decide) rfl
  generalize H1 = H at hP hS ⊢
  have hP : va_P (dC, dI) classes (wH h cy (mgX2 s3 s15)) H := hP
  have hD : va_D A (wH h cy (mgX2 s3 s15)) := hD
  refine lv_aload_n hx hb dX3_loses_18 rfl (lv_at hl 1 rfl) ?_
  refine va_get (D := (dC, dI)) (ci := 3) (v := .ref (h 12)) (C := RX3) (T := TX3) (N := 6) hx hb hts in_X3 hown hK.1 hP 16 rfl rfl 1 (by decide) (hts _ q142) (fun _ h9 => h9) rfl dX3_loses_19 ?_
  refine lv_aload_n hx hb dX3_loses_22 rfl (lv_at hl 1 rfl) ?_
  refine va_get (D := (dC, dI)) (ci := 3) (v := .int (s3.1 16)) (C := RX3) (T := TX3) (N := 6) hx hb hts in_X3 hown hK.1 hP 16 rfl rfl 5 (by decide) (hts _ q146) (fun _ h9 => h9) rfl dX3_loses_23 ?_
  have hPc := hP.sub (ws' := wW h cy (mgX2 s3 s15)) [0, 1, 2, 3, 4, 5, 6, 7, 8, 9, 10, 11, 12, 13, 14, 15] rfl
  have hDc := hD.sub (ws' := wW h cy (mgX2 s3 s15)) [0, 1, 2, 3, 4, 5, 6, 7, 8, 9, 10, 11, 12, 13, 14, 15] (by decide) rfl
  have hFc := va_free (wc := wW h cy (mgX2 s3 s15)) hD hS hA [0, 1, 2, 3, 4, 5, 6, 7, 8, 9, 10, 11, 12, 13, 14, 15] rfl
  refine cwVv (q0 := 12) (As := [.int (s3.1 16)]) (rest := []) ⟨hx, hb, hr, hml, hown, hts, hlocks⟩ hK hPc hDc rfl rfl hS hFc (m_X2_figureLeads l dC dI h cy _ fu (mgX2 s3 s15) (s3.1 16) _ hF) k_X2_figureLeads q729 ⟨rfl, rfl⟩ ⟨Nat.le_of_ble_eq_true rfl, Nat.le_of_ble_eq_true rfl⟩ hl.1 rfl rfl (Nat.le_of_ble_eq_true rfl) dX3_loses_26 ⟨Nat.le_of_ble_eq_true rfl, Nat.le_of_ble_eq_true rfl⟩ (fun u H1 locs hF hP1 hD1 hk1 hS => ?_)
  obtain ⟨s26, rfl⟩ : ∃ z, z = u := ⟨_, rfl⟩
  obtain ⟨hP, hD⟩ := va_join (wr := [(h 16, .inr (3, [.ref (h 0), .ref (h 12), .ref (h 17), .ref (h 19), .int (s3.1 15), .int (s3.1 16)])), (h 17, .inr (1, [.ref (h 18), .int (s3.1 17)])), (h 18, .inl (cy 0, 12, .inl (s3.2.1 8))), (h 19, .inr (1, [.ref (h 20), .int (s3.1 18)])), (h 20, .inl (cy 0, 12, .inl (s3.2.1 9)))]) (w1 := wW h cy s26) hP hD [0, 1, 2, 3, 4, 5, 6, 7, 8, 9, 10, 11, 12, 13, 14, 15] [16, 17, 18, 19, 20] rfl rfl (by decide) (by decide) hk1 hFc hP1 hD1
  have hP := hP.sub (ws' := wH h cy (mgX2 (mgX2 s3 s15) s26)) [5, 6, 7, 8, 9, 10, 11, 12, 13, 14, 15, 16, 17, 18, 19, 20, 0, 1, 2, 3, 4] rfl
  have hD := hD.sub (ws' := wH h cy (mgX2 (mgX2 s3 s15) s26)) [5, 6, 7, 8, 9, 10, 11, 12, 13, 14, 15, 16, 17, 18, 19, 20, 0, 1, 2, 3, 4] (by decide) rfl
  generalize H1 = H at hP hS ⊢
  have hP : va_P (dC, dI) classes (wH h cy (mgX2 (mgX2 s3 s15) s26)) H := hP
  have hD : va_D A (wH h cy (mgX2 (mgX2 s3 s15) s26)) := hD
  refine lv_aload_n hx hb dX3_loses_29 rfl (lv_at hl 1 rfl) ?_
  refine va_get (D := (dC, dI)) (ci := 3) (v := .ref (h 12)) (C := RX3) (T := TX3) (N := 6) hx hb hts in_X3 hown hK.1 hP 16 rfl rfl 1 (by decide) (hts _ q142) (fun _ h9 => h9) rfl dX3_loses_30 ?_
  refine lv_aload_n hx hb dX3_loses_33 rfl (lv_at hl 1 rfl) ?_
  refine va_get (D := (dC, dI)) (ci := 3) (v := .int (s3.1 15)) (C := RX3) (T := TX3) (N := 6) hx hb hts in_X3 hown hK.1 hP 16 rfl rfl 4 (by decide) (hts _ q145) (fun _ h9 => h9) rfl dX3_loses_34 ?_
  have hPc := hP.sub (ws' := wW h cy (mgX2 (mgX2 s3 s15) s26)) [0, 1, 2, 3, 4, 5, 6, 7, 8, 9, 10, 11, 12, 13, 14, 15] rfl
  refine cpVi (q0 := 12) (As := [.int (s3.1 15)]) (rest := []) ⟨hx, hb, hr, hml, hown, hts, hlocks⟩ hK hPc rfl rfl (m_X2_figureAt l dC dI h cy (mgX2 (mgX2 s3 s15) s26) (s3.1 15) _ hF) k_X2_figureAt q336 ⟨rfl, rfl⟩ ⟨Nat.le_of_ble_eq_true rfl, Nat.le_of_ble_eq_true rfl⟩ hl.1 rfl rfl (Nat.le_of_ble_eq_true rfl) dX3_loses_37 ⟨Nat.le_of_ble_eq_true rfl, Nat.le_of_ble_eq_true rfl⟩ (fun r37 hF => ?_)
  refine lv_iconst (v := 1) hx hb dX3_loses_40 (by decide) ?_
  refine lv_icmp_ne (tgt := 59) hx hb dX3_loses_41 (by decide) (fun cz => ?_) (fun cz => ?_)
  · have hF := hF.1 cz
    refine lv_iconst (v := 0) hx hb dX3_loses_59 (by decide) ?_
    refine vx_ret (W.widen (k := 3) (n := 18) (Nat.le_of_ble_eq_true rfl) (Nat.le_of_ble_eq_true rfl) ?_)
    exact W.zret (v := 0) hx hb hr rfl (fun t ht hW => ⟨⟨0, mgX2 (mgX2 s3 s15) s26, rfl, hF, by rw [ht]; exact hP, hD⟩, hS.F ht⟩) hS.2.2 dX3_loses_60
  · have hF := hF.2 cz
    refine lv_aload_n hx hb dX3_loses_44 rfl (lv_at hl 1 rfl) ?_
    refine va_get (D := (dC, dI)) (ci := 3) (v := .ref (h 12)) (C := RX3) (T := TX3) (N := 6) hx hb hts in_X3 hown hK.1 hP 16 rfl rfl 1 (by decide) (hts _ q142) (fun _ h9 => h9) rfl dX3_loses_45 ?_
    refine lv_iload_n hx hb dX3_loses_48 rfl (lv_at hl 0 rfl) ?_
    have hPc := hP.sub (ws' := wW h cy (mgX2 (mgX2 s3 s15) s26)) [0, 1, 2, 3, 4, 5, 6, 7, 8, 9, 10, 11, 12, 13, 14, 15] rfl
    refine cpVi (q0 := 12) (As := [.int r3]) (rest := []) ⟨hx, hb, hr, hml, hown, hts, hlocks⟩ hK hPc rfl rfl (m_X2_figureAt l dC dI h cy (mgX2 (mgX2 s3 s15) s26) r3 _ hF) k_X2_figureAt q336 ⟨rfl, rfl⟩ ⟨Nat.le_of_ble_eq_true rfl, Nat.le_of_ble_eq_true rfl⟩ hl.1 rfl rfl (Nat.le_of_ble_eq_true rfl) dX3_loses_49 ⟨Nat.le_of_ble_eq_true rfl, Nat.le_of_ble_eq_true rfl⟩ (fun r49 hF => ?_)
    refine lv_if_ne (tgt := 59) hx hb dX3_loses_52 (by decide) (fun cz => ?_) (fun cz => ?_)
    · have hF := hF.1 cz
      refine lv_iconst (v := 0) hx hb dX3_loses_59 (by decide) ?_
      refine vx_ret (W.widen (k := 3) (n := 18) (Nat.le_of_ble_eq_true rfl) (Nat.le_of_ble_eq_true rfl) ?_)
      exact W.zret (v := 0) hx hb hr rfl (fun t ht hW => ⟨⟨0, mgX2 (mgX2 s3 s15) s26, rfl, hF, by rw [ht]; exact hP, hD⟩, hS.F ht⟩) hS.2.2 dX3_loses_60
    · have hF := hF.2 cz
      refine lv_iconst (v := 1) hx hb dX3_loses_55 (by decide) ?_
      refine lv_goto (tgt := 60) hx hb dX3_loses_56 (by decide) ?_
      refine vx_ret (W.widen (k := 3) (n := 18) (Nat.le_of_ble_eq_true rfl) (Nat.le_of_ble_eq_true rfl) ?_)
      exact W.zret (v := 1) hx hb hr rfl (fun t ht hW => ⟨⟨1, mgX2 (mgX2 s3 s15) s26, rfl, hF, by rw [ht]; exact hP, hD⟩, hS.F ht⟩) hS.2.2 dX3_loses_60
theorem dX3_mayJump_0 : decode cX3_mayJump 0 = .ok (.aload_n 0, 1) := by decide +kernel
theorem dX3_mayJump_1 : decode cX3_mayJump 1 = .ok (.iload_n 1, 1) := by decide +kernel
theorem dX3_mayJump_2 : decode cX3_mayJump 2 = .ok (.invokevirtual 98, 3) := by decide +kernel
theorem dX3_mayJump_5 : decode cX3_mayJump 5 = .ok (.aload_n 0, 1) := by decide +kernel
theorem dX3_mayJump_6 : decode cX3_mayJump 6 = .ok (.iload_n 2, 1) := by decide +kernel
theorem dX3_mayJump_7 : decode cX3_mayJump 7 = .ok (.invokevirtual 98, 3) := by decide +kernel
theorem dX3_mayJump_10 : decode cX3_mayJump 10 = .ok (.aload_n 0, 1) := by decide +kernel
theorem dX3_mayJump_11 : decode cX3_mayJump 11 = .ok (.aload_n 0, 1) := by decide +kernel
theorem dX3_mayJump_12 : decode cX3_mayJump 12 = .ok (.getfield 83, 3) := by decide +kernel
theorem dX3_mayJump_15 : decode cX3_mayJump 15 = .ok (.iload_n 1, 1) := by decide +kernel
theorem dX3_mayJump_16 : decode cX3_mayJump 16 = .ok (.iload_n 2, 1) := by decide +kernel
theorem dX3_mayJump_17 : decode cX3_mayJump 17 = .ok (.invokevirtual 116, 3) := by decide +kernel
theorem dX3_mayJump_20 : decode cX3_mayJump 20 = .ok (.iconst (-1), 1) := by decide +kernel
theorem dX3_mayJump_21 : decode cX3_mayJump 21 = .ok (.if_icmp .eq 7, 3) := by decide +kernel
theorem dX3_mayJump_24 : decode cX3_mayJump 24 = .ok (.iconst 1, 1) := by decide +kernel
theorem dX3_mayJump_25 : decode cX3_mayJump 25 = .ok (.goto 4, 3) := by decide +kernel
theorem dX3_mayJump_28 : decode cX3_mayJump 28 = .ok (.iconst 0, 1) := by decide +kernel
theorem dX3_mayJump_29 : decode cX3_mayJump 29 = .ok (.ireturn, 1) := by decide +kernel
def wp_X3_mayJump (fu : Nat) (σ : SX) (x1 : Int32) (x2 : Int32) (P : Int32 → SX → Prop) (X : String → SX → Prop) : Prop := (wp_X3_requireHole σ x1 (fun s2 => (wp_X3_requireHole s2 x2 (fun s7 => (wp_X3_behindJump fu s7 (s7.1 15) x1 x2 (fun r17 => ((r17 = (-1) → (P 0 s7)) ∧ (¬ r17 = (-1) → (P 1 s7)))))) X)) X)
theorem k_X3_mayJump : KV RX3 yX3_mayJump cX3_mayJump 3 (some .boolean) 2 := ⟨q653, q654, q1, q655, by decide +kernel⟩
set_option maxHeartbeats 4000000 in
set_option maxRecDepth 100000 in
theorem m_X3_mayJump (l : Launch) (hl9 : l.stackTraces = false) (dC : Nat → ClassId) (dI : Nat → Nat → Nat) (h : Nat → Nat) (cy : Nat → ClassId) (sa : Nat → Nat) (sz : Nat) (fu : Nat) (σ : SX) (x1 : Int32) (x2 : Int32) (P : Int32 → SX → Prop) (X : String → SX → Prop) (hF : wp_X3_mayJump fu σ x1 x2 P X) : vx_Met l yX3_mayJump (ws_ yX3_mayJump cX3_mayJump 3 (some .boolean)) ({ frames := 7, cells := 2, slots := 12, locals := 111 } : Room) (va_Pc [.ref (h 16), .int x1, .int x2] (PcT dC dI cy sa (wH h cy σ) sz)) (va_Qi (fun r u => P r u) (fun (u : SX) t => va_P (dC, dI) classes (wH h cy u) t.heap ∧ va_D (va_A (wH h cy σ) sz) (wH h cy u)) (va_A (wH h cy σ) sz)) (QxT dC dI (fun (u : SX) => wH h cy u) X (va_A (wH h cy σ) sz)) 2 12 (va_A (wH h cy σ) sz) := by
  refine vx_Met.ofCx (own := RX3) (by decide) rfl (Nat.le_of_ble_eq_true rfl) ?_
  intro p e s m below meth c hC hno hv ls hl
  obtain ⟨hx, hb, hr, hml, hown, hts, hlocks⟩ := hC
  have hl : lv_has ls 3 [(0, .ref (h 16)), (1, .int x1), (2, .int x2)] := hl
  obtain ⟨hsz, hP, hK, hD0, hXS, hXZ⟩ := hv
  subst hsz
  have hD := hD0.self (sz := s.heap.size)
  generalize hAe : va_A (wH h cy σ) s.heap.size = A at hD hXZ ⊢
  have hA : ∀ q : Nat, s.heap.size ≤ q → A q := fun q h => by rw [← hAe]; exact Or.inr h
  have hS : va_S A s.heap s.heap [] := va_S.rf
  clear hAe
  unfold wp_X3_mayJump at hF
  refine lv_aload_n hx hb dX3_mayJump_0 rfl (lv_at hl 0 rfl) ?_
  refine lv_iload_n hx hb dX3_mayJump_1 rfl (lv_at hl 1 rfl) ?_
  have hFc := va_free (wc := wH h cy σ) hD hS hA [0, 1, 2, 3, 4, 5, 6, 7, 8, 9, 10, 11, 12, 13, 14, 15, 16, 17, 18, 19, 20] rfl
  refine cxVv (q0 := 16) (As := [.int x1]) (rest := []) ⟨hx, hb, hr, hml, hown, hts, hlocks⟩ hno hK hXS hXZ hP hD rfl rfl hS hFc (m_X3_requireHole l hl9 dC dI h cy sa _ σ x1 _ X hF) k_X3_requireHole q620 ⟨rfl, rfl⟩ ⟨Nat.le_of_ble_eq_true rfl, Nat.le_of_ble_eq_true rfl⟩ hl.1 rfl rfl (Nat.le_of_ble_eq_true rfl) dX3_mayJump_2 ⟨Nat.le_of_ble_eq_true rfl, Nat.le_of_ble_eq_true rfl⟩ ⟨Nat.le_of_ble_eq_true rfl, Nat.le_of_ble_eq_true rfl⟩ (fun u H1 locs hF hP1 hD1 hS => ?_)
  obtain ⟨s2, rfl⟩ : ∃ z, z = u := ⟨_, rfl⟩
  have hP := hP1
  have hD := hD1
  generalize H1 = H at hP hS ⊢
  have hP : va_P (dC, dI) classes (wH h cy s2) H := hP
  have hD : va_D A (wH h cy s2) := hD
  refine lv_aload_n hx hb dX3_mayJump_5 rfl (lv_at hl 0 rfl) ?_
  refine lv_iload_n hx hb dX3_mayJump_6 rfl (lv_at hl 2 rfl) ?_
  have hFc := va_free (wc := wH h cy s2) hD hS hA [0, 1, 2, 3, 4, 5, 6, 7, 8, 9, 10, 11, 12, 13, 14, 15, 16, 17, 18, 19, 20] rfl
  refine cxVv (q0 := 16) (As := [.int x2]) (rest := []) ⟨hx, hb, hr, hml, hown, hts, hlocks⟩ hno hK hXS hXZ hP hD rfl rfl hS hFc (m_X3_requireHole l hl9 dC dI h cy sa _ s2 x2 _ X hF) k_X3_requireHole q620 ⟨rfl, rfl⟩ ⟨Nat.le_of_ble_eq_true rfl, Nat.le_of_ble_eq_true rfl⟩ hl.1 rfl rfl (Nat.le_of_ble_eq_true rfl) dX3_mayJump_7 ⟨Nat.le_of_ble_eq_true rfl, Nat.le_of_ble_eq_true rfl⟩ ⟨Nat.le_of_ble_eq_true rfl, Nat.le_of_ble_eq_true rfl⟩ (fun u H1 locs hF hP1 hD1 hS => ?_)
  obtain ⟨s7, rfl⟩ : ∃ z, z = u := ⟨_, rfl⟩
  have hP := hP1
  have hD := hD1
  generalize H1 = H at hP hS ⊢
  have hP : va_P (dC, dI) classes (wH h cy s7) H := hP
  have hD : va_D A (wH h cy s7) := hD
  refine lv_aload_n hx hb dX3_mayJump_10 rfl (lv_at hl 0 rfl) ?_
  refine lv_aload_n hx hb dX3_mayJump_11 rfl (lv_at hl 0 rfl) ?_
  refine va_get (D := (dC, dI)) (ci := 3) (v := .int (s7.1 15)) (C := RX3) (T := TX3) (N := 6) hx hb hts in_X3 hown hK.1 hP 16 rfl rfl 4 (by decide) (hts _ q145) (fun _ h9 => h9) rfl dX3_mayJump_12 ?_
  refine lv_iload_n hx hb dX3_mayJump_15 rfl (lv_at hl 1 rfl) ?_
  refine lv_iload_n hx hb dX3_mayJump_16 rfl (lv_at hl 2 rfl) ?_
  refine cpVi (q0 := 16) (As := [.int (s7.1 15), .int x1, .int x2]) (rest := []) ⟨hx, hb, hr, hml, hown, hts, hlocks⟩ hK hP rfl rfl (m_X3_behindJump l dC dI h cy fu s7 (s7.1 15) x1 x2 _ hF) k_X3_behindJump q656 ⟨rfl, rfl⟩ ⟨Nat.le_of_ble_eq_true rfl, Nat.le_of_ble_eq_true rfl⟩ hl.1 rfl rfl (Nat.le_of_ble_eq_true rfl) dX3_mayJump_17 ⟨Nat.le_of_ble_eq_true rfl, Nat.le_of_ble_eq_true rfl⟩ (fun r17 hF => ?_)
  refine lv_iconst (v := (-1)) hx hb dX3_mayJump_20 (by decide) ?_
  refine lv_icmp_eq (tgt := 28) hx hb dX3_mayJump_21 (by decide) (fun cz => ?_) (fun cz => ?_)
  · have hF := hF.1 cz
    refine lv_iconst (v := 0) hx hb dX3_mayJump_28 (by decide) ?_
    refine vx_ret (W.widen (k := 2) (n := 12) (Nat.le_of_ble_eq_true rfl) (Nat.le_of_ble_eq_true rfl) ?_)
    exact W.zret (v := 0) hx hb hr rfl (fun t ht hW => ⟨⟨0, s7, rfl, hF, by rw [ht]; exact hP, hD⟩, hS.F ht⟩) hS.2.2 dX3_mayJump_29
  · have hF := hF.2 cz
    refine lv_iconst (v := 1) hx hb dX3_mayJump_24 (by decide) ?_
    refine lv_goto (tgt := 29) hx hb dX3_mayJump_25 (by decide) ?_
    refine vx_ret (W.widen (k := 2) (n := 12) (Nat.le_of_ble_eq_true rfl) (Nat.le_of_ble_eq_true rfl) ?_)
    exact W.zret (v := 1) hx hb hr rfl (fun t ht hW => ⟨⟨1, s7, rfl, hF, by rw [ht]; exact hP, hD⟩, hS.F ht⟩) hS.2.2 dX3_mayJump_29
theorem dX3_pegBits_0 : decode cX3_pegBits 0 = .ok (.aload_n 0, 1) := by decide +kernel
theorem dX3_pegBits_1 : decode cX3_pegBits 1 = .ok (.getfield 10, 3) := by decide +kernel
theorem dX3_pegBits_4 : decode cX3_pegBits 4 = .ok (.invokevirtual 67, 3) := by decide +kernel
theorem dX3_pegBits_7 : decode cX3_pegBits 7 = .ok (.istore_n 1, 1) := by decide +kernel
theorem dX3_pegBits_8 : decode cX3_pegBits 8 = .ok (.iload_n 1, 1) := by decide +kernel
theorem dX3_pegBits_9 : decode cX3_pegBits 9 = .ok (.ifCond .ne 14, 3) := by decide +kernel
theorem dX3_pegBits_12 : decode cX3_pegBits 12 = .ok (.new 257, 3) := by decide +kernel
theorem dX3_pegBits_15 : decode cX3_pegBits 15 = .ok (.dup, 1) := by decide +kernel
theorem dX3_pegBits_16 : decode cX3_pegBits 16 = .ok (.ldc_w 259, 3) := by decide +kernel
theorem dX3_pegBits_19 : decode cX3_pegBits 19 = .ok (.invokespecial 261, 3) := by decide +kernel
theorem dX3_pegBits_22 : decode cX3_pegBits 22 = .ok (.athrow, 1) := by decide +kernel
theorem dX3_pegBits_23 : decode cX3_pegBits 23 = .ok (.aload_n 0, 1) := by decide +kernel
theorem dX3_pegBits_24 : decode cX3_pegBits 24 = .ok (.getfield 83, 3) := by decide +kernel
theorem dX3_pegBits_27 : decode cX3_pegBits 27 = .ok (.invokestatic 128, 3) := by decide +kernel
theorem dX3_pegBits_30 : decode cX3_pegBits 30 = .ok (.i2f, 1) := by decide +kernel
theorem dX3_pegBits_31 : decode cX3_pegBits 31 = .ok (.iload_n 1, 1) := by decide +kernel
theorem dX3_pegBits_32 : decode cX3_pegBits 32 = .ok (.i2f, 1) := by decide +kernel
theorem dX3_pegBits_33 : decode cX3_pegBits 33 = .ok (.fdiv, 1) := by decide +kernel
theorem dX3_pegBits_34 : decode cX3_pegBits 34 = .ok (.invokestatic 262, 3) := by decide +kernel
theorem dX3_pegBits_37 : decode cX3_pegBits 37 = .ok (.ireturn, 1) := by decide +kernel
def wp_X3_pegBits (fu : Nat) (σ : SX) (P : Int32 → SX → Prop) (X : String → SX → Prop) : Prop := (wp_X0_holes σ  (fun r4 => ((¬ r4 = 0 → (wp_J6_bitCount_0f7a4 (σ.1 15) (fun r27 => (vf_n32 (FP.fdiv (FP.i2f r27) (FP.i2f r4)) ∧ (wp_X3_floatBits fu (FP.fdiv (FP.i2f r27) (FP.i2f r4)) (fun r34 => (P r34 σ))))))) ∧ (r4 = 0 → (X "java/lang/ArithmeticException" σ)))))
theorem k_X3_pegBits : KV RX3 yX3_pegBits cX3_pegBits 2 (some .int) 0 := ⟨q879, q880, q1, q881, by decide +kernel⟩
set_option maxHeartbeats 4000000 in
set_option maxRecDepth 100000 in
theorem m_X3_pegBits (l : Launch) (hl9 : l.stackTraces = false) (dC : Nat → ClassId) (dI : Nat → Nat → Nat) (h : Nat → Nat) (cy : Nat → ClassId) (sa : Nat → Nat) (sz : Nat) (fu : Nat) (σ : SX) (P : Int32 → SX → Prop) (X : String → SX → Prop) (hF : wp_X3_pegBits fu σ P X) : vx_Met l yX3_pegBits (ws_ yX3_pegBits cX3_pegBits 2 (some .int)) ({ frames := 6, cells := 1, slots := 6, locals := 90 } : Room) (va_Pc [.ref (h 16)] (PcT dC dI cy sa (wH h cy σ) sz)) (va_Qi (fun r u => P r u) (fun (u : SX) t => va_P (dC, dI) classes (wH h cy u) t.heap ∧ va_D (va_A (wH h cy σ) sz) (wH h cy u)) (va_A (wH h cy σ) sz)) (QxT dC dI (fun (u : SX) => wH h cy u) X (va_A (wH h cy σ) sz)) 1 6 (va_A (wH h cy σ) sz) := by
  refine vx_Met.ofCx (own := RX3) (by decide) rfl (Nat.le_of_ble_eq_true rfl) ?_
  intro p e s m below meth c hC hno hv ls hl
  obtain ⟨hx, hb, hr, hml, hown, hts, hlocks⟩ := hC
  have hl : lv_has ls 2 [(0, .ref (h 16))] := hl
  obtain ⟨hsz, hP, hK, hD0, hXS, hXZ⟩ := hv
  subst hsz
  have hD := hD0.self (sz := s.heap.size)
  generalize hAe : va_A (wH h cy σ) s.heap.size = A at hD hXZ ⊢
  have hA : ∀ q : Nat, s.heap.size ≤ q → A q := fun q h => by rw [← hAe]; exact Or.inr h
  have hS : va_S A s.heap s.heap [] := va_S.rf
  clear hAe
  unfold wp_X3_pegBits at hF
  refine lv_aload_n hx hb dX3_pegBits_0 rfl (lv_at hl 0 rfl) ?_
  refine va_get (D := (dC, dI)) (ci := 3) (v := .ref (h 0)) (C := RX3) (T := TX3) (N := 6) hx hb hts in_X3 hown hK.1 hP 16 rfl rfl 0 (by decide) (hts _ q141) (fun _ h9 => h9) rfl dX3_pegBits_1 ?_
  have hPc := hP.sub (ws' := wB h cy σ) [0, 1, 2, 3, 4, 5, 6, 7, 8, 9, 10, 11] rfl
  refine cpVi (q0 := 0) (As := []) (rest := []) ⟨hx, hb, hr, hml, hown, hts, hlocks⟩ hK hPc rfl rfl (m_X0_holes l dC dI h cy σ  _ hF) k_X0_holes q350 ⟨rfl, rfl⟩ ⟨Nat.le_of_ble_eq_true rfl, Nat.le_of_ble_eq_true rfl⟩ hl.1 rfl rfl (Nat.le_of_ble_eq_true rfl) dX3_pegBits_4 ⟨Nat.le_of_ble_eq_true rfl, Nat.le_of_ble_eq_true rfl⟩ (fun r4 hF => ?_)
  refine lv_istore_n (lv' := [(1, .int r4), (0, .ref (h 16))]) hx hb dX3_pegBits_7 rfl hl (by decide) rfl (fun ls hl => ?_)
  refine lv_iload_n hx hb dX3_pegBits_8 rfl (lv_at hl 0 rfl) ?_
  refine lv_if_ne (tgt := 23) hx hb dX3_pegBits_9 (by decide) (fun cz => ?_) (fun cz => ?_)
  · have hF := hF.1 cz
    refine lv_aload_n hx hb dX3_pegBits_23 rfl (lv_at hl 1 rfl) ?_
    refine va_get (D := (dC, dI)) (ci := 3) (v := .int (σ.1 15)) (C := RX3) (T := TX3) (N := 6) hx hb hts in_X3 hown hK.1 hP 16 rfl rfl 4 (by decide) (hts _ q145) (fun _ h9 => h9) rfl dX3_pegBits_24 ?_
    refine cpSi (As := [.int (σ.1 15)]) (rest := []) ⟨hx, hb, hr, hml, hown, hts, hlocks⟩ (m_J6_bitCount_0f7a4 l (σ.1 15) _ hF) k_J6_bitCount_0f7a4 q677 ⟨rfl, rfl⟩ ⟨Nat.le_of_ble_eq_true rfl, Nat.le_of_ble_eq_true rfl⟩ hl.1 rfl rfl (Nat.le_of_ble_eq_true rfl) dX3_pegBits_27 ⟨Nat.le_of_ble_eq_true rfl, Nat.le_of_ble_eq_true rfl⟩ (fun r27 hF => ?_)
    refine lv_i2f hx hb dX3_pegBits_30 ?_
    refine lv_iload_n hx hb dX3_pegBits_31 rfl (lv_at hl 0 rfl) ?_
    refine lv_i2f hx hb dX3_pegBits_32 ?_
    have hO := hF.1
    have hF := hF.2
    refine lv_fdiv hx hb dX3_pegBits_33 hO ?_
    refine cpSi (As := [.float (FP.fdiv (FP.i2f r27) (FP.i2f r4))]) (rest := []) ⟨hx, hb, hr, hml, hown, hts, hlocks⟩ (m_X3_floatBits l fu (FP.fdiv (FP.i2f r27) (FP.i2f r4)) _ hF) k_X3_floatBits q885 ⟨rfl, rfl⟩ ⟨Nat.le_of_ble_eq_true rfl, Nat.le_of_ble_eq_true rfl⟩ hl.1 rfl rfl (Nat.le_of_ble_eq_true rfl) dX3_pegBits_34 ⟨Nat.le_of_ble_eq_true rfl, Nat.le_of_ble_eq_true rfl⟩ (fun r34 hF => ?_)
    refine vx_ret (W.widen (k := 1) (n := 6) (Nat.le_of_ble_eq_true rfl) (Nat.le_of_ble_eq_true rfl) ?_)
    exact W.iret (v := r34) hx hb hr (fun t ht hW => ⟨⟨r34, σ, rfl, hF, by rw [ht]; exact hP, hD⟩, hS.F ht⟩) hS.2.2 dX3_pegBits_37
  · have hF := hF.2 cz
    exact thrSW (u := σ) (wn := fun (u : SX) => wH h cy u) (X := X) ⟨hx, hb, hr, hml, hown, hts, hlocks⟩ hno hl9 hK.2 rfl hXS hXZ hS hl.1 hP hD 21 rfl at_257_261 dX3_pegBits_12 dX3_pegBits_15 dX3_pegBits_16 dX3_pegBits_19 dX3_pegBits_22 (Nat.le_of_ble_eq_true rfl) (Nat.le_of_ble_eq_true rfl) (Nat.le_of_ble_eq_true rfl) (Nat.le_of_ble_eq_true rfl) (Nat.le_of_ble_eq_true rfl) (Nat.le_of_ble_eq_true rfl) hF
theorem dX3_play_0 : decode cX3_play 0 = .ok (.aload_n 0, 1) := by decide +kernel
theorem dX3_play_1 : decode cX3_play 1 = .ok (.invokevirtual 246, 3) := by decide +kernel
theorem dX3_play_4 : decode cX3_play 4 = .ok (.iconst (-1), 1) := by decide +kernel
theorem dX3_play_5 : decode cX3_play 5 = .ok (.if_icmp .eq 13, 3) := by decide +kernel
theorem dX3_play_8 : decode cX3_play 8 = .ok (.new 62, 3) := by decide +kernel
theorem dX3_play_11 : decode cX3_play 11 = .ok (.dup, 1) := by decide +kernel
theorem dX3_play_12 : decode cX3_play 12 = .ok (.ldc 249, 2) := by decide +kernel
theorem dX3_play_14 : decode cX3_play 14 = .ok (.invokespecial 66, 3) := by decide +kernel
theorem dX3_play_17 : decode cX3_play 17 = .ok (.athrow, 1) := by decide +kernel
theorem dX3_play_18 : decode cX3_play 18 = .ok (.aload_n 0, 1) := by decide +kernel
theorem dX3_play_19 : decode cX3_play 19 = .ok (.getfield 34, 3) := by decide +kernel
theorem dX3_play_22 : decode cX3_play 22 = .ok (.invokevirtual 144, 3) := by decide +kernel
theorem dX3_play_25 : decode cX3_play 25 = .ok (.iconst 1, 1) := by decide +kernel
theorem dX3_play_26 : decode cX3_play 26 = .ok (.isub, 1) := by decide +kernel
theorem dX3_play_27 : decode cX3_play 27 = .ok (.istore_n 1, 1) := by decide +kernel
theorem dX3_play_28 : decode cX3_play 28 = .ok (.iconst 1, 1) := by decide +kernel
theorem dX3_play_29 : decode cX3_play 29 = .ok (.istore_n 2, 1) := by decide +kernel
theorem dX3_play_30 : decode cX3_play 30 = .ok (.iload_n 2, 1) := by decide +kernel
theorem dX3_play_31 : decode cX3_play 31 = .ok (.iload_n 1, 1) := by decide +kernel
theorem dX3_play_32 : decode cX3_play 32 = .ok (.if_icmp .gt 48, 3) := by decide +kernel
theorem dX3_play_35 : decode cX3_play 35 = .ok (.aload_n 0, 1) := by decide +kernel
theorem dX3_play_36 : decode cX3_play 36 = .ok (.getfield 34, 3) := by decide +kernel
theorem dX3_play_39 : decode cX3_play 39 = .ok (.iload_n 2, 1) := by decide +kernel
theorem dX3_play_40 : decode cX3_play 40 = .ok (.iconst 1, 1) := by decide +kernel
theorem dX3_play_41 : decode cX3_play 41 = .ok (.isub, 1) := by decide +kernel
theorem dX3_play_42 : decode cX3_play 42 = .ok (.invokevirtual 158, 3) := by decide +kernel
theorem dX3_play_45 : decode cX3_play 45 = .ok (.istore_n 3, 1) := by decide +kernel
theorem dX3_play_46 : decode cX3_play 46 = .ok (.aload_n 0, 1) := by decide +kernel
theorem dX3_play_47 : decode cX3_play 47 = .ok (.getfield 34, 3) := by decide +kernel
theorem dX3_play_50 : decode cX3_play 50 = .ok (.iload_n 2, 1) := by decide +kernel
theorem dX3_play_51 : decode cX3_play 51 = .ok (.invokevirtual 158, 3) := by decide +kernel
theorem dX3_play_54 : decode cX3_play 54 = .ok (.istore 4, 2) := by decide +kernel
theorem dX3_play_56 : decode cX3_play 56 = .ok (.aload_n 0, 1) := by decide +kernel
theorem dX3_play_57 : decode cX3_play 57 = .ok (.iload_n 3, 1) := by decide +kernel
theorem dX3_play_58 : decode cX3_play 58 = .ok (.iload 4, 2) := by decide +kernel
theorem dX3_play_60 : decode cX3_play 60 = .ok (.aload_n 0, 1) := by decide +kernel
theorem dX3_play_61 : decode cX3_play 61 = .ok (.aload_n 0, 1) := by decide +kernel
theorem dX3_play_62 : decode cX3_play 62 = .ok (.getfield 83, 3) := by decide +kernel
theorem dX3_play_65 : decode cX3_play 65 = .ok (.iload_n 3, 1) := by decide +kernel
theorem dX3_play_66 : decode cX3_play 66 = .ok (.iload 4, 2) := by decide +kernel
theorem dX3_play_68 : decode cX3_play 68 = .ok (.invokevirtual 116, 3) := by decide +kernel
theorem dX3_play_71 : decode cX3_play 71 = .ok (.invokevirtual 124, 3) := by decide +kernel
theorem dX3_play_74 : decode cX3_play 74 = .ok (.iinc 2 1, 3) := by decide +kernel
theorem dX3_play_77 : decode cX3_play 77 = .ok (.goto (-47), 3) := by decide +kernel
theorem dX3_play_80 : decode cX3_play 80 = .ok (.aload_n 0, 1) := by decide +kernel
theorem dX3_play_81 : decode cX3_play 81 = .ok (.getfield 34, 3) := by decide +kernel
theorem dX3_play_84 : decode cX3_play 84 = .ok (.invokevirtual 113, 3) := by decide +kernel
theorem dX3_play_87 : decode cX3_play 87 = .ok (.iload_n 1, 1) := by decide +kernel
theorem dX3_play_88 : decode cX3_play 88 = .ok (.ireturn, 1) := by decide +kernel
def wp_X3_play_B30 (fu : Nat) (r22 : Int32) (K30 : SX → Prop) (rec30 : Int32 → SX → Prop) (v2_30 : Int32) (s_30 : SX) : Prop := (((r22 - 1) < v2_30 → (K30 s_30)) ∧ (¬ (r22 - 1) < v2_30 → (wp_X1_at 12 (s_30.2.1 9) (s_30.1 18) (v2_30 - 1) (fun r42 => (wp_X1_at 12 (s_30.2.1 9) (s_30.1 18) v2_30 (fun r51 => (wp_X3_behindJump fu s_30 (s_30.1 15) r42 r51 (fun r68 => (wp_X3_makeJump s_30 r42 r51 r68 (fun s71 => (rec30 (v2_30 + 1) s71)))))))))))
def wp_X3_play_L30 (fu : Nat) (r22 : Int32) (K30 : SX → Prop) : Nat → Int32 → SX → Prop
  | 0, _, _ => False
  | nn + 1, v2_30, s_30 => wp_X3_play_B30 fu r22 K30 (wp_X3_play_L30 fu r22 K30 nn) v2_30 s_30
def wp_X3_play (fu : Nat) (σ : SX) (P : Int32 → SX → Prop) (X : String → SX → Prop) : Prop := (wp_X3_rowFault fu σ  (fun r1 => ((r1 = (-1) → (wp_X1_size 12 (σ.2.1 9) (σ.1 18)  (fun r22 => (wp_X3_play_L30 fu r22 (fun (s_80 : SX) => (wp_X1_empty 12 (s_80.2.1 9) (s_80.1 18)  (fun f84 n84 => (P (r22 - 1) (sI (sA s_80 9 f84) 18 n84))))) fu 1 σ)))) ∧ (¬ r1 = (-1) → (X "java/lang/UnsupportedOperationException" σ)))))
theorem k_X3_play : KV RX3 yX3_play cX3_play 5 (some .int) 0 := ⟨q845, q846, q1, q847, by decide +kernel⟩
set_option maxHeartbeats 4000000 in
set_option maxRecDepth 100000 in
theorem m_X3_play (l : Launch) (hl9 : l.stackTraces = false) (dC : Nat → ClassId) (dI : Nat → Nat → Nat) (h : Nat → Nat) (cy : Nat → ClassId) (sa : Nat → Nat) (sz : Nat) (fu : Nat) (σ : SX) (P : Int32 → SX → Prop) (X : String → SX → Prop) (hF : wp_X3_play fu σ P X) : vx_Met l yX3_play (ws_ yX3_play cX3_play 5 (some .int)) ({ frames := 6, cells := 1, slots := 6, locals := 90 } : Room) (va_Pc [.ref (h 16)] (PcT dC dI cy sa (wH h cy σ) sz)) (va_Qi (fun r u => P r u) (fun (u : SX) t => va_P (dC, dI) classes (wH h cy u) t.heap ∧ va_D (va_A (wH h cy σ) sz) (wH h cy u)) (va_A (wH h cy σ) sz)) (QxT dC dI (fun (u : SX) => wH h cy u) X (va_A (wH h cy σ) sz)) 1 6 (va_A (wH h cy σ) sz) := by
  refine vx_Met.ofCx (own := RX3) (by decide) rfl (Nat.le_of_ble_eq_true rfl) ?_
  intro p e s m below meth c hC hno hv ls hl
  obtain ⟨hx, hb, hr, hml, hown, hts, hlocks⟩ := hC
  have hl : lv_has ls 5 [(0, .ref (h 16))] := hl
  obtain ⟨hsz, hP, hK, hD0, hXS, hXZ⟩ := hv
  subst hsz
  have hD := hD0.self (sz := s.heap.size)
  generalize hAe : va_A (wH h cy σ) s.heap.size = A at hD hXZ ⊢
  have hA : ∀ q : Nat, s.heap.size ≤ q → A q := fun q h => by rw [← hAe]; exact Or.inr h
  have hS : va_S A s.heap s.heap [] := va_S.rf
  clear hAe
  unfold wp_X3_play at hF
  refine lv_aload_n hx hb dX3_play_0 rfl (lv_at hl 0 rfl) ?_
  refine cpVi (q0 := 16) (As := []) (rest := []) ⟨hx, hb, hr, hml, hown, hts, hlocks⟩ hK hP rfl rfl (m_X3_rowFault l dC dI h cy fu σ  _ hF) k_X3_rowFault q848 ⟨rfl, rfl⟩ ⟨Nat.le_of_ble_eq_true rfl, Nat.le_of_ble_eq_true rfl⟩ hl.1 rfl rfl (Nat.le_of_ble_eq_true rfl) dX3_play_1 ⟨Nat.le_of_ble_eq_true rfl, Nat.le_of_ble_eq_true rfl⟩ (fun r1 hF => ?_)
  refine lv_iconst (v := (-1)) hx hb dX3_play_4 (by decide) ?_
  refine lv_icmp_eq (tgt := 18) hx hb dX3_play_5 (by decide) (fun cz => ?_) (fun cz => ?_)
  · have hF := hF.1 cz
    refine lv_aload_n hx hb dX3_play_18 rfl (lv_at hl 0 rfl) ?_
    refine va_get (D := (dC, dI)) (ci := 3) (v := .ref (h 19)) (C := RX3) (T := TX3) (N := 6) hx hb hts in_X3 hown hK.1 hP 16 rfl rfl 3 (by decide) (hts _ q144) (fun _ h9 => h9) rfl dX3_play_19 ?_
    have hPc := hP.sub (ws' := wR (h 19) (h 20) cy 12 (σ.2.1 9) (σ.1 18)) [19, 20] rfl
    refine cpVi (q0 := 0) (As := []) (rest := []) ⟨hx, hb, hr, hml, hown, hts, hlocks⟩ hK hPc rfl rfl (m_X1_size l dC dI (h 19) (h 20) cy 12 (σ.2.1 9) (σ.1 18)  _ hF) k_X1_size q222 ⟨rfl, rfl⟩ ⟨Nat.le_of_ble_eq_true rfl, Nat.le_of_ble_eq_true rfl⟩ hl.1 rfl rfl (Nat.le_of_ble_eq_true rfl) dX3_play_22 ⟨Nat.le_of_ble_eq_true rfl, Nat.le_of_ble_eq_true rfl⟩ (fun r22 hF => ?_)
    refine lv_iconst (v := 1) hx hb dX3_play_25 (by decide) ?_
    refine lv_isub hx hb dX3_play_26 ?_
    refine lv_istore_n (lv' := [(1, .int (r22 - 1)), (0, .ref (h 16))]) hx hb dX3_play_27 rfl hl (by decide) rfl (fun ls hl => ?_)
    refine lv_iconst (v := 1) hx hb dX3_play_28 (by decide) ?_
    refine lv_istore_n (lv' := [(2, .int 1), (1, .int (r22 - 1)), (0, .ref (h 16))]) hx hb dX3_play_29 rfl hl (by decide) rfl (fun ls hl => ?_)
    have hX30 : ∀ (s_80 : SX), (fun (s_80 : SX) => (wp_X1_empty 12 (s_80.2.1 9) (s_80.1 18)  (fun f84 n84 => (P (r22 - 1) (sI (sA s_80 9 f84) 18 n84))))) s_80 → ∀ (H : Heap) (locs : List Loc), va_P (dC, dI) classes (wH h cy s_80) H → va_D A (wH h cy s_80) → va_S A s.heap H locs → ∀ (ls : Array Slot), lv_has ls 5 [(1, .int (r22 - 1)), (0, .ref (h 16))] → W p l e ({ frames := 6, cells := 1, slots := 6, locals := 90 } : Room) s m ([.ref (h 16)] : List Value).toArray below meth c H locs 0 0 (vx_MQ below (va_Qi (fun r u => P r u) (fun (u : SX) t => va_P (dC, dI) classes (wH h cy u) t.heap ∧ va_D A (wH h cy u)) A) (QxT dC dI (fun (u : SX) => wH h cy u) X A) ([.ref (h 16)] : List Value).toArray s 1 6 A) (F0 m 80 ls []) := by
      intro s_80 hF H locs hP hD hS ls hl
      refine lv_aload_n hx hb dX3_play_80 rfl (lv_at hl 1 rfl) ?_
      refine va_get (D := (dC, dI)) (ci := 3) (v := .ref (h 19)) (C := RX3) (T := TX3) (N := 6) hx hb hts in_X3 hown hK.1 hP 16 rfl rfl 3 (by decide) (hts _ q144) (fun _ h9 => h9) rfl dX3_play_81 ?_
      have hPc := hP.sub (ws' := wR (h 19) (h 20) cy 12 (s_80.2.1 9) (s_80.1 18)) [19, 20] rfl
      have hDc := hD.sub (ws' := wR (h 19) (h 20) cy 12 (s_80.2.1 9) (s_80.1 18)) [19, 20] (by decide) rfl
      have hFc := va_free (wc := wR (h 19) (h 20) cy 12 (s_80.2.1 9) (s_80.1 18)) hD hS hA [19, 20] rfl
      refine cwVv (q0 := 0) (As := []) (rest := []) ⟨hx, hb, hr, hml, hown, hts, hlocks⟩ hK hPc hDc rfl rfl hS hFc (m_X1_empty l dC dI (h 19) (h 20) cy _ 12 (s_80.2.1 9) (s_80.1 18)  _ hF) k_X1_empty q341 ⟨rfl, rfl⟩ ⟨Nat.le_of_ble_eq_true rfl, Nat.le_of_ble_eq_true rfl⟩ hl.1 rfl rfl (Nat.le_of_ble_eq_true rfl) dX3_play_84 ⟨Nat.le_of_ble_eq_true rfl, Nat.le_of_ble_eq_true rfl⟩ (fun u H1 locs hF hP1 hD1 hk1 hS => ?_)
      obtain ⟨f84, n84⟩ := u
      obtain ⟨hP, hD⟩ := va_join (wr := [(h 0, .inr (0, [.int (s_80.1 0), .int (s_80.1 1), .ref (h 1), .ref (h 2), .ref (h 4), .ref (h 6), .ref (h 8), .ref (h 10)])), (h 1, .inl (cy 0, 25, .inl (s_80.2.1 0))), (h 2, .inr (1, [.ref (h 3), .int (s_80.1 2)])), (h 3, .inl (cy 0, 13, .inl (s_80.2.1 1))), (h 4, .inr (1, [.ref (h 5), .int (s_80.1 3)])), (h 5, .inl (cy 0, 104, .inl (s_80.2.1 2))), (h 6, .inr (1, [.ref (h 7), .int (s_80.1 4)])), (h 7, .inl (cy 0, 104, .inl (s_80.2.1 3))), (h 8, .inr (1, [.ref (h 9), .int (s_80.1 5)])), (h 9, .inl (cy 0, 104, .inl (s_80.2.1 4))), (h 10, .inr (1, [.ref (h 11), .int (s_80.1 6)])), (h 11, .inl (cy 0, 104, .inl (s_80.2.1 5))), (h 12, .inr (2, [.ref (h 0), .ref (h 13), .ref (h 14), .ref (h 15), .int (s_80.1 7), .int (s_80.1 8), .int (s_80.1 9), .int (s_80.1 10), .int (s_80.1 11), .int (s_80.1 12), .int (s_80.1 13), .int (s_80.1 14)])), (h 13, .inl (cy 0, 8192, .inl (s_80.2.1 6))), (h 14, .inl (cy 1, 8192, .inr (.inl (s_80.2.2)))), (h 15, .inl (cy 0, 10240, .inl (s_80.2.1 7))), (h 16, .inr (3, [.ref (h 0), .ref (h 12), .ref (h 17), .ref (h 19), .int (s_80.1 15), .int (s_80.1 16)])), (h 17, .inr (1, [.ref (h 18), .int (s_80.1 17)])), (h 18, .inl (cy 0, 12, .inl (s_80.2.1 8)))]) (w1 := wR (h 19) (h 20) cy 12 f84 n84) hP hD [19, 20] [0, 1, 2, 3, 4, 5, 6, 7, 8, 9, 10, 11, 12, 13, 14, 15, 16, 17, 18] rfl rfl (by decide) (by decide) hk1 hFc hP1 hD1
      have hP := hP.sub (ws' := wH h cy (sI (sA s_80 9 f84) 18 n84)) [0, 1, 2, 3, 4, 5, 6, 7, 8, 9, 10, 11, 12, 13, 14, 15, 16, 17, 18, 19, 20] rfl
      have hD := hD.sub (ws' := wH h cy (sI (sA s_80 9 f84) 18 n84)) [0, 1, 2, 3, 4, 5, 6, 7, 8, 9, 10, 11, 12, 13, 14, 15, 16, 17, 18, 19, 20] (by decide) rfl
      generalize H1 = H at hP hS ⊢
      have hP : va_P (dC, dI) classes (wH h cy (sI (sA s_80 9 f84) 18 n84)) H := hP
      have hD : va_D A (wH h cy (sI (sA s_80 9 f84) 18 n84)) := hD
      refine lv_iload_n hx hb dX3_play_87 rfl (lv_at hl 0 rfl) ?_
      refine vx_ret (W.widen (k := 1) (n := 6) (Nat.le_of_ble_eq_true rfl) (Nat.le_of_ble_eq_true rfl) ?_)
      exact W.iret (v := r22 - 1) hx hb hr (fun t ht hW => ⟨⟨r22 - 1, sI (sA s_80 9 f84) 18 n84, rfl, hF, by rw [ht]; exact hP, hD⟩, hS.F ht⟩) hS.2.2 dX3_play_88
    have hL30 : ∀ (K30 : SX → Prop), (∀ (s_80 : SX), K30 s_80 → ∀ (H : Heap) (locs : List Loc), va_P (dC, dI) classes (wH h cy s_80) H → va_D A (wH h cy s_80) → va_S A s.heap H locs → ∀ (ls : Array Slot), lv_has ls 5 [(1, .int (r22 - 1)), (0, .ref (h 16))] → W p l e ({ frames := 6, cells := 1, slots := 6, locals := 90 } : Room) s m ([.ref (h 16)] : List Value).toArray below meth c H locs 0 0 (vx_MQ below (va_Qi (fun r u => P r u) (fun (u : SX) t => va_P (dC, dI) classes (wH h cy u) t.heap ∧ va_D A (wH h cy u)) A) (QxT dC dI (fun (u : SX) => wH h cy u) X A) ([.ref (h 16)] : List Value).toArray s 1 6 A) (F0 m 80 ls [])) → ∀ (nn : Nat), ∀ (v2_30 : Int32), ∀ (s_30 : SX), wp_X3_play_L30 fu r22 K30 nn v2_30 s_30 → ∀ (H : Heap) (locs : List Loc), va_P (dC, dI) classes (wH h cy s_30) H → va_D A (wH h cy s_30) → va_S A s.heap H locs → ∀ (ls : Array Slot), lv_has ls 5 [(2, .int v2_30), (1, .int (r22 - 1)), (0, .ref (h 16))] → W p l e ({ frames := 6, cells := 1, slots := 6, locals := 90 } : Room) s m ([.ref (h 16)] : List Value).toArray below meth c H locs 0 0 (vx_MQ below (va_Qi (fun r u => P r u) (fun (u : SX) t => va_P (dC, dI) classes (wH h cy u) t.heap ∧ va_D A (wH h cy u)) A) (QxT dC dI (fun (u : SX) => wH h cy u) X A) ([.ref (h 16)] : List Value).toArray s 1 6 A) (F0 m 30 ls []) := by
      intro K30 hX30 nn
      induction nn with
      | zero =>
        intro v2_30 s_30 hF
        exact hF.elim
      | succ nn ih =>
        intro v2_30 s_30 hF H locs hP hD hS ls hl
        obtain ⟨rec30, hrec⟩ : ∃ z : Int32 → SX → Prop, z = wp_X3_play_L30 fu r22 K30 nn := ⟨_, rfl⟩
        have hF : wp_X3_play_B30 fu r22 K30 rec30 v2_30 s_30 := by rw [hrec]; exact hF
        rw [← hrec] at ih
        clear hrec
        unfold wp_X3_play_B30 at hF
        refine lv_iload_n hx hb dX3_play_30 rfl (lv_at hl 0 rfl) ?_
        refine lv_iload_n hx hb dX3_play_31 rfl (lv_at hl 1 rfl) ?_
        refine lv_icmp_gt (tgt := 80) hx hb dX3_play_32 (by decide) (fun cz => ?_) (fun cz => ?_)
        · have hF := hF.1 cz
          exact hX30 s_30 hF _ _ hP hD hS _ (lv_sub hl [1, 2] rfl)
        · have hF := hF.2 cz
          refine lv_aload_n hx hb dX3_play_35 rfl (lv_at hl 2 rfl) ?_
          refine va_get (D := (dC, dI)) (ci := 3) (v := .ref (h 19)) (C := RX3) (T := TX3) (N := 6) hx hb hts in_X3 hown hK.1 hP 16 rfl rfl 3 (by decide) (hts _ q144) (fun _ h9 => h9) rfl dX3_play_36 ?_
          refine lv_iload_n hx hb dX3_play_39 rfl (lv_at hl 0 rfl) ?_
          refine lv_iconst (v := 1) hx hb dX3_play_40 (by decide) ?_
          refine lv_isub hx hb dX3_play_41 ?_
          have hPc := hP.sub (ws' := wR (h 19) (h 20) cy 12 (s_30.2.1 9) (s_30.1 18)) [19, 20] rfl
          refine cpVi (q0 := 0) (As := [.int (v2_30 - 1)]) (rest := []) ⟨hx, hb, hr, hml, hown, hts, hlocks⟩ hK hPc rfl rfl (m_X1_at l dC dI (h 19) (h 20) cy 12 (s_30.2.1 9) (s_30.1 18) (v2_30 - 1) _ hF) k_X1_at q227 ⟨rfl, rfl⟩ ⟨Nat.le_of_ble_eq_true rfl, Nat.le_of_ble_eq_true rfl⟩ hl.1 rfl rfl (Nat.le_of_ble_eq_true rfl) dX3_play_42 ⟨Nat.le_of_ble_eq_true rfl, Nat.le_of_ble_eq_true rfl⟩ (fun r42 hF => ?_)
          refine lv_istore_n (lv' := [(3, .int r42), (2, .int v2_30), (1, .int (r22 - 1)), (0, .ref (h 16))]) hx hb dX3_play_45 rfl hl (by decide) rfl (fun ls hl => ?_)
          refine lv_aload_n hx hb dX3_play_46 rfl (lv_at hl 3 rfl) ?_
          refine va_get (D := (dC, dI)) (ci := 3) (v := .ref (h 19)) (C := RX3) (T := TX3) (N := 6) hx hb hts in_X3 hown hK.1 hP 16 rfl rfl 3 (by decide) (hts _ q144) (fun _ h9 => h9) rfl dX3_play_47 ?_
          refine lv_iload_n hx hb dX3_play_50 rfl (lv_at hl 1 rfl) ?_
          have hPc := hP.sub (ws' := wR (h 19) (h 20) cy 12 (s_30.2.1 9) (s_30.1 18)) [19, 20] rfl
          refine cpVi (q0 := 0) (As := [.int v2_30]) (rest := []) ⟨hx, hb, hr, hml, hown, hts, hlocks⟩ hK hPc rfl rfl (m_X1_at l dC dI (h 19) (h 20) cy 12 (s_30.2.1 9) (s_30.1 18) v2_30 _ hF) k_X1_at q227 ⟨rfl, rfl⟩ ⟨Nat.le_of_ble_eq_true rfl, Nat.le_of_ble_eq_true rfl⟩ hl.1 rfl rfl (Nat.le_of_ble_eq_true rfl) dX3_play_51 ⟨Nat.le_of_ble_eq_true rfl, Nat.le_of_ble_eq_true rfl⟩ (fun r51 hF => ?_)
          refine lv_istore (lv' := [(4, .int r51), (3, .int r42), (2, .int v2_30), (1, .int (r22 - 1)), (0, .ref (h 16))]) hx hb dX3_play_54 hl (by decide) rfl (fun ls hl => ?_)
          refine lv_aload_n hx hb dX3_play_56 rfl (lv_at hl 4 rfl) ?_
          refine lv_iload_n hx hb dX3_play_57 rfl (lv_at hl 1 rfl) ?_
          refine lv_iload hx hb dX3_play_58 (lv_at hl 0 rfl) ?_
          refine lv_aload_n hx hb dX3_play_60 rfl (lv_at hl 4 rfl) ?_
          refine lv_aload_n hx hb dX3_play_61 rfl (lv_at hl 4 rfl) ?_
          refine va_get (D := (dC, dI)) (ci := 3) (v := .int (s_30.1 15)) (C := RX3) (T := TX3) (N := 6) hx hb hts in_X3 hown hK.1 hP 16 rfl rfl 4 (by decide) (hts _ q145) (fun _ h9 => h9) rfl dX3_play_62 ?_
          refine lv_iload_n hx hb dX3_play_65 rfl (lv_at hl 1 rfl) ?_
          refine lv_iload hx hb dX3_play_66 (lv_at hl 0 rfl) ?_
          refine cpVi (q0 := 16) (As := [.int (s_30.1 15), .int r42, .int r51]) (rest := [.int r51, .int r42, .ref (h 16)]) ⟨hx, hb, hr, hml, hown, hts, hlocks⟩ hK hP rfl rfl (m_X3_behindJump l dC dI h cy fu s_30 (s_30.1 15) r42 r51 _ hF) k_X3_behindJump q656 ⟨rfl, rfl⟩ ⟨Nat.le_of_ble_eq_true rfl, Nat.le_of_ble_eq_true rfl⟩ hl.1 rfl rfl (Nat.le_of_ble_eq_true rfl) dX3_play_68 ⟨Nat.le_of_ble_eq_true rfl, Nat.le_of_ble_eq_true rfl⟩ (fun r68 hF => ?_)
          have hFc := va_free (wc := wH h cy s_30) hD hS hA [0, 1, 2, 3, 4, 5, 6, 7, 8, 9, 10, 11, 12, 13, 14, 15, 16, 17, 18, 19, 20] rfl
          refine cwVv (q0 := 16) (As := [.int r42, .int r51, .int r68]) (rest := []) ⟨hx, hb, hr, hml, hown, hts, hlocks⟩ hK hP hD rfl rfl hS hFc (m_X3_makeJump l dC dI h cy _ s_30 r42 r51 r68 _ hF) k_X3_makeJump q672 ⟨rfl, rfl⟩ ⟨Nat.le_of_ble_eq_true rfl, Nat.le_of_ble_eq_true rfl⟩ hl.1 rfl rfl (Nat.le_of_ble_eq_true rfl) dX3_play_71 ⟨Nat.le_of_ble_eq_true rfl, Nat.le_of_ble_eq_true rfl⟩ (fun u H1 locs hF hP1 hD1 hk1 hS => ?_)
          obtain ⟨s71, rfl⟩ : ∃ z, z = u := ⟨_, rfl⟩
          have hP := hP1
          have hD := hD1.weaken (fun _ q _ h => hFc q.1 h)
          generalize H1 = H at hP hS ⊢
          have hP : va_P (dC, dI) classes (wH h cy s71) H := hP
          have hD : va_D A (wH h cy s71) := hD
          refine lv_iinc (v := v2_30 + 1) (lv' := [(2, .int (v2_30 + 1)), (4, .int r51), (3, .int r42), (1, .int (r22 - 1)), (0, .ref (h 16))]) hx hb dX3_play_74 hl (k := 2) rfl (by rfl) (by decide) rfl (fun ls hl => ?_)
          refine lv_goto (tgt := 30) hx hb dX3_play_77 (by decide) ?_
          exact ih (v2_30 + 1) s71 hF _ _ hP hD hS _ (lv_sub hl [0, 3, 4] rfl)
    exact hL30 _ hX30 fu 1 σ hF _ _ hP hD hS _ (lv_sub hl [0, 1, 2] rfl)
  · have hF := hF.2 cz
    exact thrS (u := σ) (wn := fun (u : SX) => wH h cy u) (X := X) ⟨hx, hb, hr, hml, hown, hts, hlocks⟩ hno hl9 hK.2 rfl hXS hXZ hS hl.1 hP hD 19 rfl at_62_66 dX3_play_8 dX3_play_11 dX3_play_12 dX3_play_14 dX3_play_17 (Nat.le_of_ble_eq_true rfl) (Nat.le_of_ble_eq_true rfl) (Nat.le_of_ble_eq_true rfl) (Nat.le_of_ble_eq_true rfl) (Nat.le_of_ble_eq_true rfl) (Nat.le_of_ble_eq_true rfl) hF
theorem dX3_put_0 : decode cX3_put 0 = .ok (.aload_n 0, 1) := by decide +kernel
theorem dX3_put_1 : decode cX3_put 1 = .ok (.iload_n 1, 1) := by decide +kernel
theorem dX3_put_2 : decode cX3_put 2 = .ok (.invokevirtual 110, 3) := by decide +kernel
theorem dX3_put_5 : decode cX3_put 5 = .ok (.aload_n 0, 1) := by decide +kernel
theorem dX3_put_6 : decode cX3_put 6 = .ok (.getfield 83, 3) := by decide +kernel
theorem dX3_put_9 : decode cX3_put 9 = .ok (.istore_n 2, 1) := by decide +kernel
theorem dX3_put_10 : decode cX3_put 10 = .ok (.aload_n 0, 1) := by decide +kernel
theorem dX3_put_11 : decode cX3_put 11 = .ok (.iload_n 1, 1) := by decide +kernel
theorem dX3_put_12 : decode cX3_put 12 = .ok (.putfield 83, 3) := by decide +kernel
theorem dX3_put_15 : decode cX3_put 15 = .ok (.aload_n 0, 1) := by decide +kernel
theorem dX3_put_16 : decode cX3_put 16 = .ok (.getfield 30, 3) := by decide +kernel
theorem dX3_put_19 : decode cX3_put 19 = .ok (.invokevirtual 113, 3) := by decide +kernel
theorem dX3_put_22 : decode cX3_put 22 = .ok (.iload_n 2, 1) := by decide +kernel
theorem dX3_put_23 : decode cX3_put 23 = .ok (.ireturn, 1) := by decide +kernel
def wp_X3_put (σ : SX) (x1 : Int32) (P : Int32 → SX → Prop) (X : String → SX → Prop) : Prop := (wp_X3_requirePegs σ x1 (fun s2 => (wp_X1_empty 12 (s2.2.1 8) (s2.1 17)  (fun f19 n19 => (P (s2.1 15) (sI (sA (sI s2 15 x1) 8 f19) 17 n19))))) X)
theorem k_X3_put : KV RX3 yX3_put cX3_put 3 (some .int) 1 := ⟨q641, q642, q1, q643, by decide +kernel⟩
set_option maxHeartbeats 4000000 in
set_option maxRecDepth 100000 in
theorem m_X3_put (l : Launch) (hl9 : l.stackTraces = false) (dC : Nat → ClassId) (dI : Nat → Nat → Nat) (h : Nat → Nat) (cy : Nat → ClassId) (sa : Nat → Nat) (sz : Nat) (σ : SX) (x1 : Int32) (P : Int32 → SX → Prop) (X : String → SX → Prop) (hF : wp_X3_put σ x1 P X) : vx_Met l yX3_put (ws_ yX3_put cX3_put 3 (some .int)) ({ frames := 7, cells := 1, slots := 6, locals := 111 } : Room) (va_Pc [.ref (h 16), .int x1] (PcT dC dI cy sa (wH h cy σ) sz)) (va_Qi (fun r u => P r u) (fun (u : SX) t => va_P (dC, dI) classes (wH h cy u) t.heap ∧ va_D (va_A (wH h cy σ) sz) (wH h cy u)) (va_A (wH h cy σ) sz)) (QxT dC dI (fun (u : SX) => wH h cy u) X (va_A (wH h cy σ) sz)) 1 6 (va_A (wH h cy σ) sz) := by
  refine vx_Met.ofCx (own := RX3) (by decide) rfl (Nat.le_of_ble_eq_true rfl) ?_
  intro p e s m below meth c hC hno hv ls hl
  obtain ⟨hx, hb, hr, hml, hown, hts, hlocks⟩ := hC
  have hl : lv_has ls 3 [(0, .ref (h 16)), (1, .int x1)] := hl
  obtain ⟨hsz, hP, hK, hD0, hXS, hXZ⟩ := hv
  subst hsz
  have hD := hD0.self (sz := s.heap.size)
  generalize hAe : va_A (wH h cy σ) s.heap.size = A at hD hXZ ⊢
  have hA : ∀ q : Nat, s.heap.size ≤ q → A q := fun q h => by rw [← hAe]; exact Or.inr h
  have hS : va_S A s.heap s.heap [] := va_S.rf
  clear hAe
  unfold wp_X3_put at hF
  refine lv_aload_n hx hb dX3_put_0 rfl (lv_at hl 0 rfl) ?_
  refine lv_iload_n hx hb dX3_put_1 rfl (lv_at hl 1 rfl) ?_
  have hFc := va_free (wc := wH h cy σ) hD hS hA [0, 1, 2, 3, 4, 5, 6, 7, 8, 9, 10, 11, 12, 13, 14, 15, 16, 17, 18, 19, 20] rfl
  refine cxVv (q0 := 16) (As := [.int x1]) (rest := []) ⟨hx, hb, hr, hml, hown, hts, hlocks⟩ hno hK hXS hXZ hP hD rfl rfl hS hFc (m_X3_requirePegs l hl9 dC dI h cy sa _ σ x1 _ X hF) k_X3_requirePegs q644 ⟨rfl, rfl⟩ ⟨Nat.le_of_ble_eq_true rfl, Nat.le_of_ble_eq_true rfl⟩ hl.1 rfl rfl (Nat.le_of_ble_eq_true rfl) dX3_put_2 ⟨Nat.le_of_ble_eq_true rfl, Nat.le_of_ble_eq_true rfl⟩ ⟨Nat.le_of_ble_eq_true rfl, Nat.le_of_ble_eq_true rfl⟩ (fun u H1 locs hF hP1 hD1 hS => ?_)
  obtain ⟨s2, rfl⟩ : ∃ z, z = u := ⟨_, rfl⟩
  have hP := hP1
  have hD := hD1
  generalize H1 = H at hP hS ⊢
  have hP : va_P (dC, dI) classes (wH h cy s2) H := hP
  have hD : va_D A (wH h cy s2) := hD
  refine lv_aload_n hx hb dX3_put_5 rfl (lv_at hl 0 rfl) ?_
  refine va_get (D := (dC, dI)) (ci := 3) (v := .int (s2.1 15)) (C := RX3) (T := TX3) (N := 6) hx hb hts in_X3 hown hK.1 hP 16 rfl rfl 4 (by decide) (hts _ q145) (fun _ h9 => h9) rfl dX3_put_6 ?_
  refine lv_istore_n (lv' := [(2, .int (s2.1 15)), (0, .ref (h 16)), (1, .int x1)]) hx hb dX3_put_9 rfl hl (by decide) rfl (fun ls hl => ?_)
  refine lv_aload_n hx hb dX3_put_10 rfl (lv_at hl 1 rfl) ?_
  refine lv_iload_n hx hb dX3_put_11 rfl (lv_at hl 2 rfl) ?_
  refine va_put (D := (dC, dI)) (ci := 3) (v := .int x1) (ty := .int) (C := RX3) (T := TX3) (N := 6) hx hb hts in_X3 tyX3 tyX3_ok nmX3 hown hK.1 hP hD hS 16 rfl rfl 4 (by decide) (hts _ q145) (fun _ h9 => h9) rfl (by decide +kernel) rfl rfl (Nat.le_of_ble_eq_true rfl) dX3_put_12 (fun H locs hP hD hS => ?_)
  have hP : va_P (dC, dI) classes (wH h cy (sI s2 15 x1)) H := hP
  have hD : va_D A (wH h cy (sI s2 15 x1)) := hD
  refine lv_aload_n hx hb dX3_put_15 rfl (lv_at hl 1 rfl) ?_
  refine va_get (D := (dC, dI)) (ci := 3) (v := .ref (h 17)) (C := RX3) (T := TX3) (N := 6) hx hb hts in_X3 hown hK.1 hP 16 rfl rfl 2 (by decide) (hts _ q143) (fun _ h9 => h9) rfl dX3_put_16 ?_
  have hPc := hP.sub (ws' := wR (h 17) (h 18) cy 12 (s2.2.1 8) (s2.1 17)) [17, 18] rfl
  have hDc := hD.sub (ws' := wR (h 17) (h 18) cy 12 (s2.2.1 8) (s2.1 17)) [17, 18] (by decide) rfl
  have hFc := va_free (wc := wR (h 17) (h 18) cy 12 (s2.2.1 8) (s2.1 17)) hD hS hA [17, 18] rfl
  refine cwVv (q0 := 0) (As := []) (rest := []) ⟨hx, hb, hr, hml, hown, hts, hlocks⟩ hK hPc hDc rfl rfl hS hFc (m_X1_empty l dC dI (h 17) (h 18) cy _ 12 (s2.2.1 8) (s2.1 17)  _ hF) k_X1_empty q341 ⟨rfl, rfl⟩ ⟨Nat.le_of_ble_eq_true rfl, Nat.le_of_ble_eq_true rfl⟩ hl.1 rfl rfl (Nat.le_of_ble_eq_true rfl) dX3_put_19 ⟨Nat.le_of_ble_eq_true rfl, Nat.le_of_ble_eq_true rfl⟩ (fun u H1 locs hF hP1 hD1 hk1 hS => ?_)
  obtain ⟨f19, n19⟩ := u
  obtain ⟨hP, hD⟩ := va_join (wr := [(h 0, .inr (0, [.int (s2.1 0), .int (s2.1 1), .ref (h 1), .ref (h 2), .ref (h 4), .ref (h 6), .ref (h 8), .ref (h 10)])), (h 1, .inl (cy 0, 25, .inl (s2.2.1 0))), (h 2, .inr (1, [.ref (h 3), .int (s2.1 2)])), (h 3, .inl (cy 0, 13, .inl (s2.2.1 1))), (h 4, .inr (1, [.ref (h 5), .int (s2.1 3)])), (h 5, .inl (cy 0, 104, .inl (s2.2.1 2))), (h 6, .inr (1, [.ref (h 7), .int (s2.1 4)])), (h 7, .inl (cy 0, 104, .inl (s2.2.1 3))), (h 8, .inr (1, [.ref (h 9), .int (s2.1 5)])), (h 9, .inl (cy 0, 104, .inl (s2.2.1 4))), (h 10, .inr (1, [.ref (h 11), .int (s2.1 6)])), (h 11, .inl (cy 0, 104, .inl (s2.2.1 5))), (h 12, .inr (2, [.ref (h 0), .ref (h 13), .ref (h 14), .ref (h 15), .int (s2.1 7), .int (s2.1 8), .int (s2.1 9), .int (s2.1 10), .int (s2.1 11), .int (s2.1 12), .int (s2.1 13), .int (s2.1 14)])), (h 13, .inl (cy 0, 8192, .inl (s2.2.1 6))), (h 14, .inl (cy 1, 8192, .inr (.inl (s2.2.2)))), (h 15, .inl (cy 0, 10240, .inl (s2.2.1 7))), (h 16, .inr (3, [.ref (h 0), .ref (h 12), .ref (h 17), .ref (h 19), .int (x1), .int (s2.1 16)])), (h 19, .inr (1, [.ref (h 20), .int (s2.1 18)])), (h 20, .inl (cy 0, 12, .inl (s2.2.1 9)))]) (w1 := wR (h 17) (h 18) cy 12 f19 n19) hP hD [17, 18] [0, 1, 2, 3, 4, 5, 6, 7, 8, 9, 10, 11, 12, 13, 14, 15, 16, 19, 20] rfl rfl (by decide) (by decide) hk1 hFc hP1 hD1
  have hP := hP.sub (ws' := wH h cy (sI (sA (sI s2 15 x1) 8 f19) 17 n19)) [0, 1, 2, 3, 4, 5, 6, 7, 8, 9, 10, 11, 12, 13, 14, 15, 16, 19, 20, 17, 18] rfl
  have hD := hD.sub (ws' := wH h cy (sI (sA (sI s2 15 x1) 8 f19) 17 n19)) [0, 1, 2, 3, 4, 5, 6, 7, 8, 9, 10, 11, 12, 13, 14, 15, 16, 19, 20, 17, 18] (by decide) rfl
  generalize H1 = H at hP hS ⊢
  have hP : va_P (dC, dI) classes (wH h cy (sI (sA (sI s2 15 x1) 8 f19) 17 n19)) H := hP
  have hD : va_D A (wH h cy (sI (sA (sI s2 15 x1) 8 f19) 17 n19)) := hD
  refine lv_iload_n hx hb dX3_put_22 rfl (lv_at hl 0 rfl) ?_
  refine vx_ret (W.widen (k := 1) (n := 6) (Nat.le_of_ble_eq_true rfl) (Nat.le_of_ble_eq_true rfl) ?_)
  exact W.iret (v := s2.1 15) hx hb hr (fun t ht hW => ⟨⟨s2.1 15, sI (sA (sI s2 15 x1) 8 f19) 17 n19, rfl, hF, by rw [ht]; exact hP, hD⟩, hS.F ht⟩) hS.2.2 dX3_put_23
theorem dX3_setEnd_0 : decode cX3_setEnd 0 = .ok (.aload_n 0, 1) := by decide +kernel
theorem dX3_setEnd_1 : decode cX3_setEnd 1 = .ok (.iload_n 1, 1) := by decide +kernel
theorem dX3_setEnd_2 : decode cX3_setEnd 2 = .ok (.invokevirtual 110, 3) := by decide +kernel
theorem dX3_setEnd_5 : decode cX3_setEnd 5 = .ok (.aload_n 0, 1) := by decide +kernel
theorem dX3_setEnd_6 : decode cX3_setEnd 6 = .ok (.getfield 87, 3) := by decide +kernel
theorem dX3_setEnd_9 : decode cX3_setEnd 9 = .ok (.istore_n 2, 1) := by decide +kernel
theorem dX3_setEnd_10 : decode cX3_setEnd 10 = .ok (.aload_n 0, 1) := by decide +kernel
theorem dX3_setEnd_11 : decode cX3_setEnd 11 = .ok (.iload_n 1, 1) := by decide +kernel
theorem dX3_setEnd_12 : decode cX3_setEnd 12 = .ok (.putfield 87, 3) := by decide +kernel
theorem dX3_setEnd_15 : decode cX3_setEnd 15 = .ok (.iload_n 2, 1) := by decide +kernel
theorem dX3_setEnd_16 : decode cX3_setEnd 16 = .ok (.ireturn, 1) := by decide +kernel
def wp_X3_setEnd (σ : SX) (x1 : Int32) (P : Int32 → SX → Prop) (X : String → SX → Prop) : Prop := (wp_X3_requirePegs σ x1 (fun s2 => (P (s2.1 16) (sI s2 16 x1))) X)
theorem k_X3_setEnd : KV RX3 yX3_setEnd cX3_setEnd 3 (some .int) 1 := ⟨q719, q720, q1, q721, by decide +kernel⟩
set_option maxHeartbeats 4000000 in
set_option maxRecDepth 100000 in
theorem m_X3_setEnd (l : Launch) (hl9 : l.stackTraces = false) (dC : Nat → ClassId) (dI : Nat → Nat → Nat) (h : Nat → Nat) (cy : Nat → ClassId) (sa : Nat → Nat) (sz : Nat) (σ : SX) (x1 : Int32) (P : Int32 → SX → Prop) (X : String → SX → Prop) (hF : wp_X3_setEnd σ x1 P X) : vx_Met l yX3_setEnd (ws_ yX3_setEnd cX3_setEnd 3 (some .int)) ({ frames := 7, cells := 1, slots := 6, locals := 111 } : Room) (va_Pc [.ref (h 16), .int x1] (PcT dC dI cy sa (wH h cy σ) sz)) (va_Qi (fun r u => P r u) (fun (u : SX) t => va_P (dC, dI) classes (wH h cy u) t.heap ∧ va_D (va_A (wH h cy σ) sz) (wH h cy u)) (va_A (wH h cy σ) sz)) (QxT dC dI (fun (u : SX) => wH h cy u) X (va_A (wH h cy σ) sz)) 1 6 (va_A (wH h cy σ) sz) := by
  refine vx_Met.ofCx (own := RX3) (by decide) rfl (Nat.le_of_ble_eq_true rfl) ?_
  intro p e s m below meth c hC hno hv ls hl
  obtain ⟨hx, hb, hr, hml, hown, hts, hlocks⟩ := hC
  have hl : lv_has ls 3 [(0, .ref (h 16)), (1, .int x1)] := hl
  obtain ⟨hsz, hP, hK, hD0, hXS, hXZ⟩ := hv
  subst hsz
  have hD := hD0.self (sz := s.heap.size)
  generalize hAe : va_A (wH h cy σ) s.heap.size = A at hD hXZ ⊢
  have hA : ∀ q : Nat, s.heap.size ≤ q → A q := fun q h => by rw [← hAe]; exact Or.inr h
  have hS : va_S A s.heap s.heap [] := va_S.rf
  clear hAe
  unfold wp_X3_setEnd at hF
  refine lv_aload_n hx hb dX3_setEnd_0 rfl (lv_at hl 0 rfl) ?_
  refine lv_iload_n hx hb dX3_setEnd_1 rfl (lv_at hl 1 rfl) ?_
  have hFc := va_free (wc := wH h cy σ) hD hS hA [0, 1, 2, 3, 4, 5, 6, 7, 8, 9, 10, 11, 12, 13, 14, 15, 16, 17, 18, 19, 20] rfl
  refine cxVv (q0 := 16) (As := [.int x1]) (rest := []) ⟨hx, hb, hr, hml, hown, hts, hlocks⟩ hno hK hXS hXZ hP hD rfl rfl hS hFc (m_X3_requirePegs l hl9 dC dI h cy sa _ σ x1 _ X hF) k_X3_requirePegs q644 ⟨rfl, rfl⟩ ⟨Nat.le_of_ble_eq_true rfl, Nat.le_of_ble_eq_true rfl⟩ hl.1 rfl rfl (Nat.le_of_ble_eq_true rfl) dX3_setEnd_2 ⟨Nat.le_of_ble_eq_true rfl, Nat.le_of_ble_eq_true rfl⟩ ⟨Nat.le_of_ble_eq_true rfl, Nat.le_of_ble_eq_true rfl⟩ (fun u H1 locs hF hP1 hD1 hS => ?_)
  obtain ⟨s2, rfl⟩ : ∃ z, z = u := ⟨_, rfl⟩
  have hP := hP1
  have hD := hD1
  generalize H1 = H at hP hS ⊢
  have hP : va_P (dC, dI) classes (wH h cy s2) H := hP
  have hD : va_D A (wH h cy s2) := hD
  refine lv_aload_n hx hb dX3_setEnd_5 rfl (lv_at hl 0 rfl) ?_
  refine va_get (D := (dC, dI)) (ci := 3) (v := .int (s2.1 16)) (C := RX3) (T := TX3) (N := 6) hx hb hts in_X3 hown hK.1 hP 16 rfl rfl 5 (by decide) (hts _ q146) (fun _ h9 => h9) rfl dX3_setEnd_6 ?_
  refine lv_istore_n (lv' := [(2, .int (s2.1 16)), (0, .ref (h 16)), (1, .int x1)]) hx hb dX3_setEnd_9 rfl hl (by decide) rfl (fun ls hl => ?_)
  refine lv_aload_n hx hb dX3_setEnd_10 rfl (lv_at hl 1 rfl) ?_
  refine lv_iload_n hx hb dX3_setEnd_11 rfl (lv_at hl 2 rfl) ?_
  refine va_put (D := (dC, dI)) (ci := 3) (v := .int x1) (ty := .int) (C := RX3) (T := TX3) (N := 6) hx hb hts in_X3 tyX3 tyX3_ok nmX3 hown hK.1 hP hD hS 16 rfl rfl 5 (by decide) (hts _ q146) (fun _ h9 => h9) rfl (by decide +kernel) rfl rfl (Nat.le_of_ble_eq_true rfl) dX3_setEnd_12 (fun H locs hP hD hS => ?_)
  have hP : va_P (dC, dI) classes (wH h cy (sI s2 16 x1)) H := hP
  have hD : va_D A (wH h cy (sI s2 16 x1)) := hD
  refine lv_iload_n hx hb dX3_setEnd_15 rfl (lv_at hl 0 rfl) ?_
  refine vx_ret (W.widen (k := 1) (n := 6) (Nat.le_of_ble_eq_true rfl) (Nat.le_of_ble_eq_true rfl) ?_)
  exact W.iret (v := s2.1 16) hx hb hr (fun t ht hW => ⟨⟨s2.1 16, sI s2 16 x1, rfl, hF, by rw [ht]; exact hP, hD⟩, hS.F ht⟩) hS.2.2 dX3_setEnd_16
theorem dX3_setKind_0 : decode cX3_setKind 0 = .ok (.iload_n 1, 1) := by decide +kernel
theorem dX3_setKind_1 : decode cX3_setKind 1 = .ok (.bipush 115, 2) := by decide +kernel
theorem dX3_setKind_3 : decode cX3_setKind 3 = .ok (.if_icmp .eq 25, 3) := by decide +kernel
theorem dX3_setKind_6 : decode cX3_setKind 6 = .ok (.iload_n 1, 1) := by decide +kernel
theorem dX3_setKind_7 : decode cX3_setKind 7 = .ok (.bipush 116, 2) := by decide +kernel
theorem dX3_setKind_9 : decode cX3_setKind 9 = .ok (.if_icmp .eq 19, 3) := by decide +kernel
theorem dX3_setKind_12 : decode cX3_setKind 12 = .ok (.iload_n 1, 1) := by decide +kernel
theorem dX3_setKind_13 : decode cX3_setKind 13 = .ok (.bipush 100, 2) := by decide +kernel
theorem dX3_setKind_15 : decode cX3_setKind 15 = .ok (.if_icmp .eq 13, 3) := by decide +kernel
theorem dX3_setKind_18 : decode cX3_setKind 18 = .ok (.new 37, 3) := by decide +kernel
theorem dX3_setKind_21 : decode cX3_setKind 21 = .ok (.dup, 1) := by decide +kernel
theorem dX3_setKind_22 : decode cX3_setKind 22 = .ok (.ldc 39, 2) := by decide +kernel
theorem dX3_setKind_24 : decode cX3_setKind 24 = .ok (.invokespecial 41, 3) := by decide +kernel
theorem dX3_setKind_27 : decode cX3_setKind 27 = .ok (.athrow, 1) := by decide +kernel
theorem dX3_setKind_28 : decode cX3_setKind 28 = .ok (.aload_n 0, 1) := by decide +kernel
theorem dX3_setKind_29 : decode cX3_setKind 29 = .ok (.getfield 10, 3) := by decide +kernel
theorem dX3_setKind_32 : decode cX3_setKind 32 = .ok (.getfield 44, 3) := by decide +kernel
theorem dX3_setKind_35 : decode cX3_setKind 35 = .ok (.istore_n 2, 1) := by decide +kernel
theorem dX3_setKind_36 : decode cX3_setKind 36 = .ok (.aload_n 0, 1) := by decide +kernel
theorem dX3_setKind_37 : decode cX3_setKind 37 = .ok (.getfield 10, 3) := by decide +kernel
theorem dX3_setKind_40 : decode cX3_setKind 40 = .ok (.iload_n 1, 1) := by decide +kernel
theorem dX3_setKind_41 : decode cX3_setKind 41 = .ok (.invokevirtual 48, 3) := by decide +kernel
theorem dX3_setKind_44 : decode cX3_setKind 44 = .ok (.aload_n 0, 1) := by decide +kernel
theorem dX3_setKind_45 : decode cX3_setKind 45 = .ok (.invokevirtual 52, 3) := by decide +kernel
theorem dX3_setKind_48 : decode cX3_setKind 48 = .ok (.iload_n 2, 1) := by decide +kernel
theorem dX3_setKind_49 : decode cX3_setKind 49 = .ok (.ireturn, 1) := by decide +kernel
def wp_X3_setKind_J28 (fu : Nat) (σ : SX) (x1 : Int32) (P : Int32 → SX → Prop) : Prop := (wp_X0_changeKind fu σ x1 (fun s41 => (wp_X3_forgetAll (mgX0 σ s41)  (fun s45 => (narrow .char (.int (σ.1 0)) = .int (σ.1 0) ∧ (P (σ.1 0) s45))))))
def wp_X3_setKind (fu : Nat) (σ : SX) (x1 : Int32) (P : Int32 → SX → Prop) (X : String → SX → Prop) : Prop := ((x1 = 115 → wp_X3_setKind_J28 fu σ x1 P) ∧ (¬ x1 = 115 → ((x1 = 116 → wp_X3_setKind_J28 fu σ x1 P) ∧ (¬ x1 = 116 → ((x1 = 100 → wp_X3_setKind_J28 fu σ x1 P) ∧ (¬ x1 = 100 → (X "java/lang/IllegalArgumentException" σ)))))))
theorem k_X3_setKind : KV RX3 yX3_setKind cX3_setKind 3 (some .char) 1 := ⟨q394, q395, q1, q396, by decide +kernel⟩
set_option maxHeartbeats 4000000 in
set_option maxRecDepth 100000 in
theorem m_X3_setKind (l : Launch) (hl9 : l.stackTraces = false) (dC : Nat → ClassId) (dI : Nat → Nat → Nat) (h : Nat → Nat) (cy : Nat → ClassId) (sa : Nat → Nat) (sz : Nat) (fu : Nat) (σ : SX) (x1 : Int32) (P : Int32 → SX → Prop) (X : String → SX → Prop) (hF : wp_X3_setKind fu σ x1 P X) : vx_Met l yX3_setKind (ws_ yX3_setKind cX3_setKind 3 (some .char)) ({ frames := 6, cells := 1, slots := 6, locals := 110 } : Room) (va_Pc [.ref (h 16), .int x1] (PcT dC dI cy sa (wH h cy σ) sz)) (va_Qi (fun r u => P r u) (fun (u : SX) t => va_P (dC, dI) classes (wH h cy u) t.heap ∧ va_D (va_A (wH h cy σ) sz) (wH h cy u)) (va_A (wH h cy σ) sz)) (QxT dC dI (fun (u : SX) => wH h cy u) X (va_A (wH h cy σ) sz)) 1 6 (va_A (wH h cy σ) sz) := by
  refine vx_Met.ofCx (own := RX3) (by decide) rfl (Nat.le_of_ble_eq_true rfl) ?_
  intro p e s m below meth c hC hno hv ls hl
  obtain ⟨hx, hb, hr, hml, hown, hts, hlocks⟩ := hC
  have hl : lv_has ls 3 [(0, .ref (h 16)), (1, .int x1)] := hl
  obtain ⟨hsz, hP, hK, hD0, hXS, hXZ⟩ := hv
  subst hsz
  have hD := hD0.self (sz := s.heap.size)
  generalize hAe : va_A (wH h cy σ) s.heap.size = A at hD hXZ ⊢
  have hA : ∀ q : Nat, s.heap.size ≤ q → A q := fun q h => by rw [← hAe]; exact Or.inr h
  have hS : va_S A s.heap s.heap [] := va_S.rf
  clear hAe
  unfold wp_X3_setKind at hF
  refine lv_iload_n hx hb dX3_setKind_0 rfl (lv_at hl 1 rfl) ?_
  refine lv_bipush (v := 115) hx hb dX3_setKind_1 (by decide) ?_
  have hJ28 : wp_X3_setKind_J28 fu σ x1 P → ∀ (H : Heap) (locs : List Loc), va_P (dC, dI) classes (wH h cy σ) H → va_D A (wH h cy σ) → va_S A s.heap H locs → ∀ (ls : Array Slot), lv_has ls 3 [(0, .ref (h 16)), (1, .int x1)] → W p l e ({ frames := 6, cells := 1, slots := 6, locals := 110 } : Room) s m ([.ref (h 16), .int x1] : List Value).toArray below meth c H locs 0 0 (vx_MQ below (va_Qi (fun r u => P r u) (fun (u : SX) t => va_P (dC, dI) classes (wH h cy u) t.heap ∧ va_D A (wH h cy u)) A) (QxT dC dI (fun (u : SX) => wH h cy u) X A) ([.ref (h 16), .int x1] : List Value).toArray s 1 6 A) (F0 m 28 ls []) := by
    intro hF H locs hP hD hS ls hl
    unfold wp_X3_setKind_J28 at hF
    refine lv_aload_n hx hb dX3_setKind_28 rfl (lv_at hl 0 rfl) ?_
    refine va_get (D := (dC, dI)) (ci := 3) (v := .ref (h 0)) (C := RX3) (T := TX3) (N := 6) hx hb hts in_X3 hown hK.1 hP 16 rfl rfl 0 (by decide) (hts _ q141) (fun _ h9 => h9) rfl dX3_setKind_29 ?_
    refine va_getN (D := (dC, dI)) (ci := 0) (v := .int (σ.1 0)) (C := RX0) (T := TX0) (N := 8) hx hb hts in_X0 hown hK.1 hP 0 rfl rfl 0 (by decide) (va_Nw.use rfl hK.2.2.1) (fun _ h9 => h9) rfl dX3_setKind_32 ?_
    refine lv_istore_n (lv' := [(2, .int (σ.1 0)), (0, .ref (h 16)), (1, .int x1)]) hx hb dX3_setKind_35 rfl hl (by decide) rfl (fun ls hl => ?_)
    refine lv_aload_n hx hb dX3_setKind_36 rfl (lv_at hl 1 rfl) ?_
    refine va_get (D := (dC, dI)) (ci := 3) (v := .ref (h 0)) (C := RX3) (T := TX3) (N := 6) hx hb hts in_X3 hown hK.1 hP 16 rfl rfl 0 (by decide) (hts _ q141) (fun _ h9 => h9) rfl dX3_setKind_37 ?_
    refine lv_iload_n hx hb dX3_setKind_40 rfl (lv_at hl 2 rfl) ?_
    have hPc := hP.sub (ws' := wB h cy σ) [0, 1, 2, 3, 4, 5, 6, 7, 8, 9, 10, 11] rfl
    have hDc := hD.sub (ws' := wB h cy σ) [0, 1, 2, 3, 4, 5, 6, 7, 8, 9, 10, 11] (by decide) rfl
    have hFc := va_free (wc := wB h cy σ) hD hS hA [0, 1, 2, 3, 4, 5, 6, 7, 8, 9, 10, 11] rfl
    refine cwVv (q0 := 0) (As := [.int x1]) (rest := []) ⟨hx, hb, hr, hml, hown, hts, hlocks⟩ hK hPc hDc rfl rfl hS hFc (m_X0_changeKind l dC dI h cy _ fu σ x1 _ hF) k_X0_changeKind q469 ⟨rfl, rfl⟩ ⟨Nat.le_of_ble_eq_true rfl, Nat.le_of_ble_eq_true rfl⟩ hl.1 rfl rfl (Nat.le_of_ble_eq_true rfl) dX3_setKind_41 ⟨Nat.le_of_ble_eq_true rfl, Nat.le_of_ble_eq_true rfl⟩ (fun u H1 locs hF hP1 hD1 hk1 hS => ?_)
    obtain ⟨s41, rfl⟩ : ∃ z, z = u := ⟨_, rfl⟩
    obtain ⟨hP, hD⟩ := va_join (wr := [(h 12, .inr (2, [.ref (h 0), .ref (h 13), .ref (h 14), .ref (h 15), .int (σ.1 7), .int (σ.1 8), .int (σ.1 9), .int (σ.1 10), .int (σ.1 11), .int (σ.1 12), .int (σ.1 13), .int (σ.1 14)])), (h 13, .inl (cy 0, 8192, .inl (σ.2.1 6))), (h 14, .inl (cy 1, 8192, .inr (.inl (σ.2.2)))), (h 15, .inl (cy 0, 10240, .inl (σ.2.1 7))), (h 16, .inr (3, [.ref (h 0), .ref (h 12), .ref (h 17), .ref (h 19), .int (σ.1 15), .int (σ.1 16)])), (h 17, .inr (1, [.ref (h 18), .int (σ.1 17)])), (h 18, .inl (cy 0, 12, .inl (σ.2.1 8))), (h 19, .inr (1, [.ref (h 20), .int (σ.1 18)])), (h 20, .inl (cy 0, 12, .inl (σ.2.1 9)))]) (w1 := wB h cy s41) hP hD [0, 1, 2, 3, 4, 5, 6, 7, 8, 9, 10, 11] [12, 13, 14, 15, 16, 17, 18, 19, 20] rfl rfl (by decide) (by decide) hk1 hFc hP1 hD1
    have hP := hP.sub (ws' := wH h cy (mgX0 σ s41)) [9, 10, 11, 12, 13, 14, 15, 16, 17, 18, 19, 20, 0, 1, 2, 3, 4, 5, 6, 7, 8] rfl
    have hD := hD.sub (ws' := wH h cy (mgX0 σ s41)) [9, 10, 11, 12, 13, 14, 15, 16, 17, 18, 19, 20, 0, 1, 2, 3, 4, 5, 6, 7, 8] (by decide) rfl
    generalize H1 = H at hP hS ⊢
    have hP : va_P (dC, dI) classes (wH h cy (mgX0 σ s41)) H := hP
    have hD : va_D A (wH h cy (mgX0 σ s41)) := hD
    refine lv_aload_n hx hb dX3_setKind_44 rfl (lv_at hl 1 rfl) ?_
    have hFc := va_free (wc := wH h cy (mgX0 σ s41)) hD hS hA [0, 1, 2, 3, 4, 5, 6, 7, 8, 9, 10, 11, 12, 13, 14, 15, 16, 17, 18, 19, 20] rfl
    refine cwVv (q0 := 16) (As := []) (rest := []) ⟨hx, hb, hr, hml, hown, hts, hlocks⟩ hK hP hD rfl rfl hS hFc (m_X3_forgetAll l dC dI h cy _ (mgX0 σ s41)  _ hF) k_X3_forgetAll q491 ⟨rfl, rfl⟩ ⟨Nat.le_of_ble_eq_true rfl, Nat.le_of_ble_eq_true rfl⟩ hl.1 rfl rfl (Nat.le_of_ble_eq_true rfl) dX3_setKind_45 ⟨Nat.le_of_ble_eq_true rfl, Nat.le_of_ble_eq_true rfl⟩ (fun u H1 locs hF hP1 hD1 hk1 hS => ?_)
    obtain ⟨s45, rfl⟩ : ∃ z, z = u := ⟨_, rfl⟩
    have hP := hP1
    have hD := hD1.weaken (fun _ q _ h => hFc q.1 h)
    generalize H1 = H at hP hS ⊢
    have hP : va_P (dC, dI) classes (wH h cy s45) H := hP
    have hD : va_D A (wH h cy s45) := hD
    refine lv_iload_n hx hb dX3_setKind_48 rfl (lv_at hl 0 rfl) ?_
    refine vx_ret (W.widen (k := 1) (n := 6) (Nat.le_of_ble_eq_true rfl) (Nat.le_of_ble_eq_true rfl) ?_)
    exact W.zret (v := σ.1 0) hx hb hr hF.1 (fun t ht hW => ⟨⟨σ.1 0, s45, rfl, hF.2, by rw [ht]; exact hP, hD⟩, hS.F ht⟩) hS.2.2 dX3_setKind_49
  refine lv_icmp_eq (tgt := 28) hx hb dX3_setKind_3 (by decide) (fun cz => ?_) (fun cz => ?_)
  · have hF := hF.1 cz
    exact hJ28 hF _ _ hP hD hS _ (lv_sub hl [0, 1] rfl)
  · have hF := hF.2 cz
    refine lv_iload_n hx hb dX3_setKind_6 rfl (lv_at hl 1 rfl) ?_
    refine lv_bipush (v := 116) hx hb dX3_setKind_7 (by decide) ?_
    refine lv_icmp_eq (tgt := 28) hx hb dX3_setKind_9 (by decide) (fun cz => ?_) (fun cz => ?_)
    · have hF := hF.1 cz
      exact hJ28 hF _ _ hP hD hS _ (lv_sub hl [0, 1] rfl)
    · have hF := hF.2 cz
      refine lv_iload_n hx hb dX3_setKind_12 rfl (lv_at hl 1 rfl) ?_
      refine lv_bipush (v := 100) hx hb dX3_setKind_13 (by decide) ?_
      refine lv_icmp_eq (tgt := 28) hx hb dX3_setKind_15 (by decide) (fun cz => ?_) (fun cz => ?_)
      · have hF := hF.1 cz
        exact hJ28 hF _ _ hP hD hS _ (lv_sub hl [0, 1] rfl)
      · have hF := hF.2 cz
        exact thrS (u := σ) (wn := fun (u : SX) => wH h cy u) (X := X) ⟨hx, hb, hr, hml, hown, hts, hlocks⟩ hno hl9 hK.2 rfl hXS hXZ hS hl.1 hP hD 0 rfl at_37_41 dX3_setKind_18 dX3_setKind_21 dX3_setKind_22 dX3_setKind_24 dX3_setKind_27 (Nat.le_of_ble_eq_true rfl) (Nat.le_of_ble_eq_true rfl) (Nat.le_of_ble_eq_true rfl) (Nat.le_of_ble_eq_true rfl) (Nat.le_of_ble_eq_true rfl) (Nat.le_of_ble_eq_true rfl) hF
theorem dX3_takeBack_0 : decode cX3_takeBack 0 = .ok (.aload_n 0, 1) := by decide +kernel
theorem dX3_takeBack_1 : decode cX3_takeBack 1 = .ok (.getfield 30, 3) := by decide +kernel
theorem dX3_takeBack_4 : decode cX3_takeBack 4 = .ok (.invokevirtual 144, 3) := by decide +kernel
theorem dX3_takeBack_7 : decode cX3_takeBack 7 = .ok (.ifCond .ne 13, 3) := by decide +kernel
theorem dX3_takeBack_10 : decode cX3_takeBack 10 = .ok (.new 95, 3) := by decide +kernel
theorem dX3_takeBack_13 : decode cX3_takeBack 13 = .ok (.dup, 1) := by decide +kernel
theorem dX3_takeBack_14 : decode cX3_takeBack 14 = .ok (.ldc 147, 2) := by decide +kernel
theorem dX3_takeBack_16 : decode cX3_takeBack 16 = .ok (.invokespecial 97, 3) := by decide +kernel
theorem dX3_takeBack_19 : decode cX3_takeBack 19 = .ok (.athrow, 1) := by decide +kernel
theorem dX3_takeBack_20 : decode cX3_takeBack 20 = .ok (.aload_n 0, 1) := by decide +kernel
theorem dX3_takeBack_21 : decode cX3_takeBack 21 = .ok (.getfield 30, 3) := by decide +kernel
theorem dX3_takeBack_24 : decode cX3_takeBack 24 = .ok (.invokevirtual 149, 3) := by decide +kernel
theorem dX3_takeBack_27 : decode cX3_takeBack 27 = .ok (.istore_n 1, 1) := by decide +kernel
theorem dX3_takeBack_28 : decode cX3_takeBack 28 = .ok (.aload_n 0, 1) := by decide +kernel
theorem dX3_takeBack_29 : decode cX3_takeBack 29 = .ok (.aload_n 0, 1) := by decide +kernel
theorem dX3_takeBack_30 : decode cX3_takeBack 30 = .ok (.getfield 10, 3) := by decide +kernel
theorem dX3_takeBack_33 : decode cX3_takeBack 33 = .ok (.aload_n 0, 1) := by decide +kernel
theorem dX3_takeBack_34 : decode cX3_takeBack 34 = .ok (.getfield 83, 3) := by decide +kernel
theorem dX3_takeBack_37 : decode cX3_takeBack 37 = .ok (.aload_n 0, 1) := by decide +kernel
theorem dX3_takeBack_38 : decode cX3_takeBack 38 = .ok (.getfield 10, 3) := by decide +kernel
theorem dX3_takeBack_41 : decode cX3_takeBack 41 = .ok (.iload_n 1, 1) := by decide +kernel
theorem dX3_takeBack_42 : decode cX3_takeBack 42 = .ok (.invokevirtual 152, 3) := by decide +kernel
theorem dX3_takeBack_45 : decode cX3_takeBack 45 = .ok (.invokevirtual 155, 3) := by decide +kernel
theorem dX3_takeBack_48 : decode cX3_takeBack 48 = .ok (.putfield 83, 3) := by decide +kernel
theorem dX3_takeBack_51 : decode cX3_takeBack 51 = .ok (.iload_n 1, 1) := by decide +kernel
theorem dX3_takeBack_52 : decode cX3_takeBack 52 = .ok (.ireturn, 1) := by decide +kernel
def wp_X3_takeBack (fu : Nat) (σ : SX) (P : Int32 → SX → Prop) (X : String → SX → Prop) : Prop := (wp_X1_size 12 (σ.2.1 8) (σ.1 17)  (fun r4 => ((¬ r4 = 0 → (wp_X1_removeLast 12 (σ.2.1 8) (σ.1 17)  (fun r24 f24 n24 => (wp_X0_lineOf fu (sI (sA σ 8 f24) 17 n24) r24 (fun r42 => (wp_X0_ahead (sI (sA σ 8 f24) 17 n24) (σ.1 15) r42 (fun r45 => (P r24 (sI (sI (sA σ 8 f24) 17 n24) 15 r45))))))))) ∧ (r4 = 0 → (X "java/util/NoSuchElementException" σ)))))
theorem k_X3_takeBack : KV RX3 yX3_takeBack cX3_takeBack 2 (some .int) 0 := ⟨q694, q695, q1, q696, by decide +kernel⟩
set_option maxHeartbeats 4000000 in
set_option maxRecDepth 100000 in
theorem m_X3_takeBack (l : Launch) (hl9 : l.stackTraces = false) (dC : Nat → ClassId) (dI : Nat → Nat → Nat) (h : Nat → Nat) (cy : Nat → ClassId) (sa : Nat → Nat) (sz : Nat) (fu : Nat) (σ : SX) (P : Int32 → SX → Prop) (X : String → SX → Prop) (hF : wp_X3_takeBack fu σ P X) : vx_Met l yX3_takeBack (ws_ yX3_takeBack cX3_takeBack 2 (some .int)) ({ frames := 6, cells := 1, slots := 6, locals := 90 } : Room) (va_Pc [.ref (h 16)] (PcT dC dI cy sa (wH h cy σ) sz)) (va_Qi (fun r u => P r u) (fun (u : SX) t => va_P (dC, dI) classes (wH h cy u) t.heap ∧ va_D (va_A (wH h cy σ) sz) (wH h cy u)) (va_A (wH h cy σ) sz)) (QxT dC dI (fun (u : SX) => wH h cy u) X (va_A (wH h cy σ) sz)) 1 6 (va_A (wH h cy σ) sz) := by
  refine vx_Met.ofCx (own := RX3) (by decide) rfl (Nat.le_of_ble_eq_true rfl) ?_
  intro p e s m below meth c hC hno hv ls hl
  obtain ⟨hx, hb, hr, hml, hown, hts, hlocks⟩ := hC
  have hl : lv_has ls 2 [(0, .ref (h 16))] := hl
  obtain ⟨hsz, hP, hK, hD0, hXS, hXZ⟩ := hv
  subst hsz
  have hD := hD0.self (sz := s.heap.size)
  generalize hAe : va_A (wH h cy σ) s.heap.size = A at hD hXZ ⊢
  have hA : ∀ q : Nat, s.heap.size ≤ q → A q := fun q h => by rw [← hAe]; exact Or.inr h
  have hS : va_S A s.heap s.heap [] := va_S.rf
  clear hAe
  unfold wp_X3_takeBack at hF
  refine lv_aload_n hx hb dX3_takeBack_0 rfl (lv_at hl 0 rfl) ?_
  refine va_get (D := (dC, dI)) (ci := 3) (v := .ref (h 17)) (C := RX3) (T := TX3) (N := 6) hx hb hts in_X3 hown hK.1 hP 16 rfl rfl 2 (by decide) (hts _ q143) (fun _ h9 => h9) rfl dX3_takeBack_1 ?_
  have hPc := hP.sub (ws' := wR (h 17) (h 18) cy 12 (σ.2.1 8) (σ.1 17)) [17, 18] rfl
  refine cpVi (q0 := 0) (As := []) (rest := []) ⟨hx, hb, hr, hml, hown, hts, hlocks⟩ hK hPc rfl rfl (m_X1_size l dC dI (h 17) (h 18) cy 12 (σ.2.1 8) (σ.1 17)  _ hF) k_X1_size q222 ⟨rfl, rfl⟩ ⟨Nat.le_of_ble_eq_true rfl, Nat.le_of_ble_eq_true rfl⟩ hl.1 rfl rfl (Nat.le_of_ble_eq_true rfl) dX3_takeBack_4 ⟨Nat.le_of_ble_eq_true rfl, Nat.le_of_ble_eq_true rfl⟩ (fun r4 hF => ?_)
  refine lv_if_ne (tgt := 20) hx hb dX3_takeBack_7 (by decide) (fun cz => ?_) (fun cz => ?_)
  · have hF := hF.1 cz
    refine lv_aload_n hx hb dX3_takeBack_20 rfl (lv_at hl 0 rfl) ?_
    refine va_get (D := (dC, dI)) (ci := 3) (v := .ref (h 17)) (C := RX3) (T := TX3) (N := 6) hx hb hts in_X3 hown hK.1 hP 16 rfl rfl 2 (by decide) (hts _ q143) (fun _ h9 => h9) rfl dX3_takeBack_21 ?_
    have hPc := hP.sub (ws' := wR (h 17) (h 18) cy 12 (σ.2.1 8) (σ.1 17)) [17, 18] rfl
    have hDc := hD.sub (ws' := wR (h 17) (h 18) cy 12 (σ.2.1 8) (σ.1 17)) [17, 18] (by decide) rfl
    have hFc := va_free (wc := wR (h 17) (h 18) cy 12 (σ.2.1 8) (σ.1 17)) hD hS hA [17, 18] rfl
    refine cwVi (q0 := 0) (As := []) (rest := []) ⟨hx, hb, hr, hml, hown, hts, hlocks⟩ hK hPc hDc rfl rfl hS hFc (m_X1_removeLast l dC dI (h 17) (h 18) cy _ 12 (σ.2.1 8) (σ.1 17)  _ hF) k_X1_removeLast q698 ⟨rfl, rfl⟩ ⟨Nat.le_of_ble_eq_true rfl, Nat.le_of_ble_eq_true rfl⟩ hl.1 rfl rfl (Nat.le_of_ble_eq_true rfl) dX3_takeBack_24 ⟨Nat.le_of_ble_eq_true rfl, Nat.le_of_ble_eq_true rfl⟩ (fun r24 u H1 locs hF hP1 hD1 hk1 hS => ?_)
    obtain ⟨f24, n24⟩ := u
    obtain ⟨hP, hD⟩ := va_join (wr := [(h 0, .inr (0, [.int (σ.1 0), .int (σ.1 1), .ref (h 1), .ref (h 2), .ref (h 4), .ref (h 6), .ref (h 8), .ref (h 10)])), (h 1, .inl (cy 0, 25, .inl (σ.2.1 0))), (h 2, .inr (1, [.ref (h 3), .int (σ.1 2)])), (h 3, .inl (cy 0, 13, .inl (σ.2.1 1))), (h 4, .inr (1, [.ref (h 5), .int (σ.1 3)])), (h 5, .inl (cy 0, 104, .inl (σ.2.1 2))), (h 6, .inr (1, [.ref (h 7), .int (σ.1 4)])), (h 7, .inl (cy 0, 104, .inl (σ.2.1 3))), (h 8, .inr (1, [.ref (h 9), .int (σ.1 5)])), (h 9, .inl (cy 0, 104, .inl (σ.2.1 4))), (h 10, .inr (1, [.ref (h 11), .int (σ.1 6)])), (h 11, .inl (cy 0, 104, .inl (σ.2.1 5))), (h 12, .inr (2, [.ref (h 0), .ref (h 13), .ref (h 14), .ref (h 15), .int (σ.1 7), .int (σ.1 8), .int (σ.1 9), .int (σ.1 10), .int (σ.1 11), .int (σ.1 12), .int (σ.1 13), .int (σ.1 14)])), (h 13, .inl (cy 0, 8192, .inl (σ.2.1 6))), (h 14, .inl (cy 1, 8192, .inr (.inl (σ.2.2)))), (h 15, .inl (cy 0, 10240, .inl (σ.2.1 7))), (h 16, .inr (3, [.ref (h 0), .ref (h 12), .ref (h 17), .ref (h 19), .int (σ.1 15), .int (σ.1 16)])), (h 19, .inr (1, [.ref (h 20), .int (σ.1 18)])), (h 20, .inl (cy 0, 12, .inl (σ.2.1 9)))]) (w1 := wR (h 17) (h 18) cy 12 f24 n24) hP hD [17, 18] [0, 1, 2, 3, 4, 5, 6, 7, 8, 9, 10, 11, 12, 13, 14, 15, 16, 19, 20] rfl rfl (by decide) (by decide) hk1 hFc hP1 hD1
    have hP := hP.sub (ws' := wH h cy (sI (sA σ 8 f24) 17 n24)) [0, 1, 2, 3, 4, 5, 6, 7, 8, 9, 10, 11, 12, 13, 14, 15, 16, 19, 20, 17, 18] rfl
    have hD := hD.sub (ws' := wH h cy (sI (sA σ 8 f24) 17 n24)) [0, 1, 2, 3, 4, 5, 6, 7, 8, 9, 10, 11, 12, 13, 14, 15, 16, 19, 20, 17, 18] (by decide) rfl
    generalize H1 = H at hP hS ⊢
    have hP : va_P (dC, dI) classes (wH h cy (sI (sA σ 8 f24) 17 n24)) H := hP
    have hD : va_D A (wH h cy (sI (sA σ 8 f24) 17 n24)) := hD
    refine lv_istore_n (lv' := [(1, .int r24), (0, .ref (h 16))]) hx hb dX3_takeBack_27 rfl hl (by decide) rfl (fun ls hl => ?_)
    refine lv_aload_n hx hb dX3_takeBack_28 rfl (lv_at hl 1 rfl) ?_
    refine lv_aload_n hx hb dX3_takeBack_29 rfl (lv_at hl 1 rfl) ?_
    refine va_get (D := (dC, dI)) (ci := 3) (v := .ref (h 0)) (C := RX3) (T := TX3) (N := 6) hx hb hts in_X3 hown hK.1 hP 16 rfl rfl 0 (by decide) (hts _ q141) (fun _ h9 => h9) rfl dX3_takeBack_30 ?_
    refine lv_aload_n hx hb dX3_takeBack_33 rfl (lv_at hl 1 rfl) ?_
    refine va_get (D := (dC, dI)) (ci := 3) (v := .int (σ.1 15)) (C := RX3) (T := TX3) (N := 6) hx hb hts in_X3 hown hK.1 hP 16 rfl rfl 4 (by decide) (hts _ q145) (fun _ h9 => h9) rfl dX3_takeBack_34 ?_
    refine lv_aload_n hx hb dX3_takeBack_37 rfl (lv_at hl 1 rfl) ?_
    refine va_get (D := (dC, dI)) (ci := 3) (v := .ref (h 0)) (C := RX3) (T := TX3) (N := 6) hx hb hts in_X3 hown hK.1 hP 16 rfl rfl 0 (by decide) (hts _ q141) (fun _ h9 => h9) rfl dX3_takeBack_38 ?_
    refine lv_iload_n hx hb dX3_takeBack_41 rfl (lv_at hl 0 rfl) ?_
    have hPc := hP.sub (ws' := wB h cy (sI (sA σ 8 f24) 17 n24)) [0, 1, 2, 3, 4, 5, 6, 7, 8, 9, 10, 11] rfl
    refine cpVi (q0 := 0) (As := [.int r24]) (rest := [.int (σ.1 15), .ref (h 0), .ref (h 16)]) ⟨hx, hb, hr, hml, hown, hts, hlocks⟩ hK hPc rfl rfl (m_X0_lineOf l dC dI h cy fu (sI (sA σ 8 f24) 17 n24) r24 _ hF) k_X0_lineOf q380 ⟨rfl, rfl⟩ ⟨Nat.le_of_ble_eq_true rfl, Nat.le_of_ble_eq_true rfl⟩ hl.1 rfl rfl (Nat.le_of_ble_eq_true rfl) dX3_takeBack_42 ⟨Nat.le_of_ble_eq_true rfl, Nat.le_of_ble_eq_true rfl⟩ (fun r42 hF => ?_)
    have hPc := hP.sub (ws' := wB h cy (sI (sA σ 8 f24) 17 n24)) [0, 1, 2, 3, 4, 5, 6, 7, 8, 9, 10, 11] rfl
    refine cpVi (q0 := 0) (As := [.int (σ.1 15), .int r42]) (rest := [.ref (h 16)]) ⟨hx, hb, hr, hml, hown, hts, hlocks⟩ hK hPc rfl rfl (m_X0_ahead l dC dI h cy (sI (sA σ 8 f24) 17 n24) (σ.1 15) r42 _ hF) k_X0_ahead q384 ⟨rfl, rfl⟩ ⟨Nat.le_of_ble_eq_true rfl, Nat.le_of_ble_eq_true rfl⟩ hl.1 rfl rfl (Nat.le_of_ble_eq_true rfl) dX3_takeBack_45 ⟨Nat.le_of_ble_eq_true rfl, Nat.le_of_ble_eq_true rfl⟩ (fun r45 hF => ?_)
    refine va_put (D := (dC, dI)) (ci := 3) (v := .int r45) (ty := .int) (C := RX3) (T := TX3) (N := 6) hx hb hts in_X3 tyX3 tyX3_ok nmX3 hown hK.1 hP hD hS 16 rfl rfl 4 (by decide) (hts _ q145) (fun _ h9 => h9) rfl (by decide +kernel) rfl rfl (Nat.le_of_ble_eq_true rfl) dX3_takeBack_48 (fun H locs hP hD hS => ?_)
    have hP : va_P (dC, dI) classes (wH h cy (sI (sI (sA σ 8 f24) 17 n24) 15 r45)) H := hP
    have hD : va_D A (wH h cy (sI (sI (sA σ 8 f24) 17 n24) 15 r45)) := hD
    refine lv_iload_n hx hb dX3_takeBack_51 rfl (lv_at hl 0 rfl) ?_
    refine vx_ret (W.widen (k := 1) (n := 6) (Nat.le_of_ble_eq_true rfl) (Nat.le_of_ble_eq_true rfl) ?_)
    exact W.iret (v := r24) hx hb hr (fun t ht hW => ⟨⟨r24, sI (sI (sA σ 8 f24) 17 n24) 15 r45, rfl, hF, by rw [ht]; exact hP, hD⟩, hS.F ht⟩) hS.2.2 dX3_takeBack_52
  · have hF := hF.2 cz
    exact thrN (u := σ) (wn := fun (u : SX) => wH h cy u) (X := X) ⟨hx, hb, hr, hml, hown, hts, hlocks⟩ hno hl9 hK.2 rfl hXS hXZ hS hl.1 hP hD 9 rfl at_95_97 dX3_takeBack_10 dX3_takeBack_13 dX3_takeBack_14 dX3_takeBack_16 dX3_takeBack_19 (Nat.le_of_ble_eq_true rfl) (Nat.le_of_ble_eq_true rfl) (Nat.le_of_ble_eq_true rfl) (Nat.le_of_ble_eq_true rfl) (Nat.le_of_ble_eq_true rfl) (Nat.le_of_ble_eq_true rfl) hF
theorem dX3_tell_0 : decode cX3_tell 0 = .ok (.aload_n 0, 1) := by decide +kernel
theorem dX3_tell_1 : decode cX3_tell 1 = .ok (.iload_n 1, 1) := by decide +kernel
theorem dX3_tell_2 : decode cX3_tell 2 = .ok (.invokevirtual 98, 3) := by decide +kernel
theorem dX3_tell_5 : decode cX3_tell 5 = .ok (.aload_n 0, 1) := by decide +kernel
theorem dX3_tell_6 : decode cX3_tell 6 = .ok (.getfield 34, 3) := by decide +kernel
theorem dX3_tell_9 : decode cX3_tell 9 = .ok (.invokevirtual 144, 3) := by decide +kernel
theorem dX3_tell_12 : decode cX3_tell 12 = .ok (.bipush 12, 2) := by decide +kernel
theorem dX3_tell_14 : decode cX3_tell 14 = .ok (.if_icmp .lt 13, 3) := by decide +kernel
theorem dX3_tell_17 : decode cX3_tell 17 = .ok (.new 71, 3) := by decide +kernel
theorem dX3_tell_20 : decode cX3_tell 20 = .ok (.dup, 1) := by decide +kernel
theorem dX3_tell_21 : decode cX3_tell 21 = .ok (.ldc 241, 2) := by decide +kernel
theorem dX3_tell_23 : decode cX3_tell 23 = .ok (.invokespecial 75, 3) := by decide +kernel
theorem dX3_tell_26 : decode cX3_tell 26 = .ok (.athrow, 1) := by decide +kernel
theorem dX3_tell_27 : decode cX3_tell 27 = .ok (.aload_n 0, 1) := by decide +kernel
theorem dX3_tell_28 : decode cX3_tell 28 = .ok (.getfield 34, 3) := by decide +kernel
theorem dX3_tell_31 : decode cX3_tell 31 = .ok (.iload_n 1, 1) := by decide +kernel
theorem dX3_tell_32 : decode cX3_tell 32 = .ok (.invokevirtual 243, 3) := by decide +kernel
theorem dX3_tell_35 : decode cX3_tell 35 = .ok (.aload_n 0, 1) := by decide +kernel
theorem dX3_tell_36 : decode cX3_tell 36 = .ok (.getfield 34, 3) := by decide +kernel
theorem dX3_tell_39 : decode cX3_tell 39 = .ok (.invokevirtual 144, 3) := by decide +kernel
theorem dX3_tell_42 : decode cX3_tell 42 = .ok (.ireturn, 1) := by decide +kernel
def wp_X3_tell (σ : SX) (x1 : Int32) (P : Int32 → SX → Prop) (X : String → SX → Prop) : Prop := (wp_X3_requireHole σ x1 (fun s2 => (wp_X1_size 12 (s2.2.1 9) (s2.1 18)  (fun r9 => ((r9 < 12 → (wp_X1_add 12 (s2.2.1 9) (s2.1 18) x1 (fun f32 n32 => (wp_X1_size 12 f32 n32  (fun r39 => (P r39 (sI (sA s2 9 f32) 18 n32))))))) ∧ (¬ r9 < 12 → (X "java/lang/IllegalStateException" s2)))))) X)
theorem k_X3_tell : KV RX3 yX3_tell cX3_tell 2 (some .int) 1 := ⟨q837, q838, q1, q839, by decide +kernel⟩
set_option maxHeartbeats 4000000 in
set_option maxRecDepth 100000 in
theorem m_X3_tell (l : Launch) (hl9 : l.stackTraces = false) (dC : Nat → ClassId) (dI : Nat → Nat → Nat) (h : Nat → Nat) (cy : Nat → ClassId) (sa : Nat → Nat) (sz : Nat) (σ : SX) (x1 : Int32) (P : Int32 → SX → Prop) (X : String → SX → Prop) (hF : wp_X3_tell σ x1 P X) : vx_Met l yX3_tell (ws_ yX3_tell cX3_tell 2 (some .int)) ({ frames := 7, cells := 2, slots := 12, locals := 111 } : Room) (va_Pc [.ref (h 16), .int x1] (PcT dC dI cy sa (wH h cy σ) sz)) (va_Qi (fun r u => P r u) (fun (u : SX) t => va_P (dC, dI) classes (wH h cy u) t.heap ∧ va_D (va_A (wH h cy σ) sz) (wH h cy u)) (va_A (wH h cy σ) sz)) (QxT dC dI (fun (u : SX) => wH h cy u) X (va_A (wH h cy σ) sz)) 2 12 (va_A (wH h cy σ) sz) := by
  refine vx_Met.ofCx (own := RX3) (by decide) rfl (Nat.le_of_ble_eq_true rfl) ?_
  intro p e s m below meth c hC hno hv ls hl
  obtain ⟨hx, hb, hr, hml, hown, hts, hlocks⟩ := hC
  have hl : lv_has ls 2 [(0, .ref (h 16)), (1, .int x1)] := hl
  obtain ⟨hsz, hP, hK, hD0, hXS, hXZ⟩ := hv
  subst hsz
  have hD := hD0.self (sz := s.heap.size)
  generalize hAe : va_A (wH h cy σ) s.heap.size = A at hD hXZ ⊢
  have hA : ∀ q : Nat, s.heap.size ≤ q → A q := fun q h => by rw [← hAe]; exact Or.inr h
  have hS : va_S A s.heap s.heap [] := va_S.rf
  clear hAe
  unfold wp_X3_tell at hF
  refine lv_aload_n hx hb dX3_tell_0 rfl (lv_at hl 0 rfl) ?_
  refine lv_iload_n hx hb dX3_tell_1 rfl (lv_at hl 1 rfl) ?_
  have hFc := va_free (wc := wH h cy σ) hD hS hA [0, 1, 2, 3, 4, 5, 6, 7, 8, 9, 10, 11, 12, 13, 14, 15, 16, 17, 18, 19, 20] rfl
  refine cxVv (q0 := 16) (As := [.int x1]) (rest := []) ⟨hx, hb, hr, hml, hown, hts, hlocks⟩ hno hK hXS hXZ hP hD rfl rfl hS hFc (m_X3_requireHole l hl9 dC dI h cy sa _ σ x1 _ X hF) k_X3_requireHole q620 ⟨rfl, rfl⟩ ⟨Nat.le_of_ble_eq_true rfl, Nat.le_of_ble_eq_true rfl⟩ hl.1 rfl rfl (Nat.le_of_ble_eq_true rfl) dX3_tell_2 ⟨Nat.le_of_ble_eq_true rfl, Nat.le_of_ble_eq_true rfl⟩ ⟨Nat.le_of_ble_eq_true rfl, Nat.le_of_ble_eq_true rfl⟩ (fun u H1 locs hF hP1 hD1 hS => ?_)
  obtain ⟨s2, rfl⟩ : ∃ z, z = u := ⟨_, rfl⟩
  have hP := hP1
  have hD := hD1
  generalize H1 = H at hP hS ⊢
  have hP : va_P (dC, dI) classes (wH h cy s2) H := hP
  have hD : va_D A (wH h cy s2) := hD
  refine lv_aload_n hx hb dX3_tell_5 rfl (lv_at hl 0 rfl) ?_
  refine va_get (D := (dC, dI)) (ci := 3) (v := .ref (h 19)) (C := RX3) (T := TX3) (N := 6) hx hb hts in_X3 hown hK.1 hP 16 rfl rfl 3 (by decide) (hts _ q144) (fun _ h9 => h9) rfl dX3_tell_6 ?_
  have hPc := hP.sub (ws' := wR (h 19) (h 20) cy 12 (s2.2.1 9) (s2.1 18)) [19, 20] rfl
  refine cpVi (q0 := 0) (As := []) (rest := []) ⟨hx, hb, hr, hml, hown, hts, hlocks⟩ hK hPc rfl rfl (m_X1_size l dC dI (h 19) (h 20) cy 12 (s2.2.1 9) (s2.1 18)  _ hF) k_X1_size q222 ⟨rfl, rfl⟩ ⟨Nat.le_of_ble_eq_true rfl, Nat.le_of_ble_eq_true rfl⟩ hl.1 rfl rfl (Nat.le_of_ble_eq_true rfl) dX3_tell_9 ⟨Nat.le_of_ble_eq_true rfl, Nat.le_of_ble_eq_true rfl⟩ (fun r9 hF => ?_)
  refine lv_bipush (v := 12) hx hb dX3_tell_12 (by decide) ?_
  refine lv_icmp_lt (tgt := 27) hx hb dX3_tell_14 (by decide) (fun cz => ?_) (fun cz => ?_)
  · have hF := hF.1 cz
    refine lv_aload_n hx hb dX3_tell_27 rfl (lv_at hl 0 rfl) ?_
    refine va_get (D := (dC, dI)) (ci := 3) (v := .ref (h 19)) (C := RX3) (T := TX3) (N := 6) hx hb hts in_X3 hown hK.1 hP 16 rfl rfl 3 (by decide) (hts _ q144) (fun _ h9 => h9) rfl dX3_tell_28 ?_
    refine lv_iload_n hx hb dX3_tell_31 rfl (lv_at hl 1 rfl) ?_
    have hPc := hP.sub (ws' := wR (h 19) (h 20) cy 12 (s2.2.1 9) (s2.1 18)) [19, 20] rfl
    have hDc := hD.sub (ws' := wR (h 19) (h 20) cy 12 (s2.2.1 9) (s2.1 18)) [19, 20] (by decide) rfl
    have hFc := va_free (wc := wR (h 19) (h 20) cy 12 (s2.2.1 9) (s2.1 18)) hD hS hA [19, 20] rfl
    refine cwVv (q0 := 0) (As := [.int x1]) (rest := []) ⟨hx, hb, hr, hml, hown, hts, hlocks⟩ hK hPc hDc rfl rfl hS hFc (m_X1_add l dC dI (h 19) (h 20) cy _ 12 (s2.2.1 9) (s2.1 18) x1 _ hF) k_X1_add q676 ⟨rfl, rfl⟩ ⟨Nat.le_of_ble_eq_true rfl, Nat.le_of_ble_eq_true rfl⟩ hl.1 rfl rfl (Nat.le_of_ble_eq_true rfl) dX3_tell_32 ⟨Nat.le_of_ble_eq_true rfl, Nat.le_of_ble_eq_true rfl⟩ (fun u H1 locs hF hP1 hD1 hk1 hS => ?_)
    obtain ⟨f32, n32⟩ := u
    obtain ⟨hP, hD⟩ := va_join (wr := [(h 0, .inr (0, [.int (s2.1 0), .int (s2.1 1), .ref (h 1), .ref (h 2), .ref (h 4), .ref (h 6), .ref (h 8), .ref (h 10)])), (h 1, .inl (cy 0, 25, .inl (s2.2.1 0))), (h 2, .inr (1, [.ref (h 3), .int (s2.1 2)])), (h 3, .inl (cy 0, 13, .inl (s2.2.1 1))), (h 4, .inr (1, [.ref (h 5), .int (s2.1 3)])), (h 5, .inl (cy 0, 104, .inl (s2.2.1 2))), (h 6, .inr (1, [.ref (h 7), .int (s2.1 4)])), (h 7, .inl (cy 0, 104, .inl (s2.2.1 3))), (h 8, .inr (1, [.ref (h 9), .int (s2.1 5)])), (h 9, .inl (cy 0, 104, .inl (s2.2.1 4))), (h 10, .inr (1, [.ref (h 11), .int (s2.1 6)])), (h 11, .inl (cy 0, 104, .inl (s2.2.1 5))), (h 12, .inr (2, [.ref (h 0), .ref (h 13), .ref (h 14), .ref (h 15), .int (s2.1 7), .int (s2.1 8), .int (s2.1 9), .int (s2.1 10), .int (s2.1 11), .int (s2.1 12), .int (s2.1 13), .int (s2.1 14)])), (h 13, .inl (cy 0, 8192, .inl (s2.2.1 6))), (h 14, .inl (cy 1, 8192, .inr (.inl (s2.2.2)))), (h 15, .inl (cy 0, 10240, .inl (s2.2.1 7))), (h 16, .inr (3, [.ref (h 0), .ref (h 12), .ref (h 17), .ref (h 19), .int (s2.1 15), .int (s2.1 16)])), (h 17, .inr (1, [.ref (h 18), .int (s2.1 17)])), (h 18, .inl (cy 0, 12, .inl (s2.2.1 8)))]) (w1 := wR (h 19) (h 20) cy 12 f32 n32) hP hD [19, 20] [0, 1, 2, 3, 4, 5, 6, 7, 8, 9, 10, 11, 12, 13, 14, 15, 16, 17, 18] rfl rfl (by decide) (by decide) hk1 hFc hP1 hD1
    have hP := hP.sub (ws' := wH h cy (sI (sA s2 9 f32) 18 n32)) [0, 1, 2, 3, 4, 5, 6, 7, 8, 9, 10, 11, 12, 13, 14, 15, 16, 17, 18, 19, 20] rfl
    have hD := hD.sub (ws' := wH h cy (sI (sA s2 9 f32) 18 n32)) [0, 1, 2, 3, 4, 5, 6, 7, 8, 9, 10, 11, 12, 13, 14, 15, 16, 17, 18, 19, 20] (by decide) rfl
    generalize H1 = H at hP hS ⊢
    have hP : va_P (dC, dI) classes (wH h cy (sI (sA s2 9 f32) 18 n32)) H := hP
    have hD : va_D A (wH h cy (sI (sA s2 9 f32) 18 n32)) := hD
    refine lv_aload_n hx hb dX3_tell_35 rfl (lv_at hl 0 rfl) ?_
    refine va_get (D := (dC, dI)) (ci := 3) (v := .ref (h 19)) (C := RX3) (T := TX3) (N := 6) hx hb hts in_X3 hown hK.1 hP 16 rfl rfl 3 (by decide) (hts _ q144) (fun _ h9 => h9) rfl dX3_tell_36 ?_
    have hPc := hP.sub (ws' := wR (h 19) (h 20) cy 12 f32 n32) [19, 20] rfl
    refine cpVi (q0 := 0) (As := []) (rest := []) ⟨hx, hb, hr, hml, hown, hts, hlocks⟩ hK hPc rfl rfl (m_X1_size l dC dI (h 19) (h 20) cy 12 f32 n32  _ hF) k_X1_size q222 ⟨rfl, rfl⟩ ⟨Nat.le_of_ble_eq_true rfl, Nat.le_of_ble_eq_true rfl⟩ hl.1 rfl rfl (Nat.le_of_ble_eq_true rfl) dX3_tell_39 ⟨Nat.le_of_ble_eq_true rfl, Nat.le_of_ble_eq_true rfl⟩ (fun r39 hF => ?_)
    refine vx_ret (W.widen (k := 2) (n := 12) (Nat.le_of_ble_eq_true rfl) (Nat.le_of_ble_eq_true rfl) ?_)
    exact W.iret (v := r39) hx hb hr (fun t ht hW => ⟨⟨r39, sI (sA s2 9 f32) 18 n32, rfl, hF, by rw [ht]; exact hP, hD⟩, hS.F ht⟩) hS.2.2 dX3_tell_42
  · have hF := hF.2 cz
    exact thrS (u := s2) (wn := fun (u : SX) => wH h cy u) (X := X) ⟨hx, hb, hr, hml, hown, hts, hlocks⟩ hno hl9 hK.2 rfl hXS hXZ hS hl.1 hP hD 18 rfl at_71_75 dX3_tell_17 dX3_tell_20 dX3_tell_21 dX3_tell_23 dX3_tell_26 (Nat.le_of_ble_eq_true rfl) (Nat.le_of_ble_eq_true rfl) (Nat.le_of_ble_eq_true rfl) (Nat.le_of_ble_eq_true rfl) (Nat.le_of_ble_eq_true rfl) (Nat.le_of_ble_eq_true rfl) hF
theorem dX3_weigh_0 : decode cX3_weigh 0 = .ok (.aload_n 0, 1) := by decide +kernel
theorem dX3_weigh_1 : decode cX3_weigh 1 = .ok (.iload_n 1, 1) := by decide +kernel
theorem dX3_weigh_2 : decode cX3_weigh 2 = .ok (.invokevirtual 98, 3) := by decide +kernel
theorem dX3_weigh_5 : decode cX3_weigh 5 = .ok (.iload_n 2, 1) := by decide +kernel
theorem dX3_weigh_6 : decode cX3_weigh 6 = .ok (.bipush (-99), 2) := by decide +kernel
theorem dX3_weigh_8 : decode cX3_weigh 8 = .ok (.if_icmp .lt 9, 3) := by decide +kernel
theorem dX3_weigh_11 : decode cX3_weigh 11 = .ok (.iload_n 2, 1) := by decide +kernel
theorem dX3_weigh_12 : decode cX3_weigh 12 = .ok (.bipush 99, 2) := by decide +kernel
theorem dX3_weigh_14 : decode cX3_weigh 14 = .ok (.if_icmp .le 13, 3) := by decide +kernel
theorem dX3_weigh_17 : decode cX3_weigh 17 = .ok (.new 37, 3) := by decide +kernel
theorem dX3_weigh_20 : decode cX3_weigh 20 = .ok (.dup, 1) := by decide +kernel
theorem dX3_weigh_21 : decode cX3_weigh 21 = .ok (.ldc 207, 2) := by decide +kernel
theorem dX3_weigh_23 : decode cX3_weigh 23 = .ok (.invokespecial 41, 3) := by decide +kernel
theorem dX3_weigh_26 : decode cX3_weigh 26 = .ok (.athrow, 1) := by decide +kernel
theorem dX3_weigh_27 : decode cX3_weigh 27 = .ok (.aload_n 0, 1) := by decide +kernel
theorem dX3_weigh_28 : decode cX3_weigh 28 = .ok (.getfield 10, 3) := by decide +kernel
theorem dX3_weigh_31 : decode cX3_weigh 31 = .ok (.iload_n 1, 1) := by decide +kernel
theorem dX3_weigh_32 : decode cX3_weigh 32 = .ok (.invokevirtual 209, 3) := by decide +kernel
theorem dX3_weigh_35 : decode cX3_weigh 35 = .ok (.istore_n 3, 1) := by decide +kernel
theorem dX3_weigh_36 : decode cX3_weigh 36 = .ok (.aload_n 0, 1) := by decide +kernel
theorem dX3_weigh_37 : decode cX3_weigh 37 = .ok (.getfield 10, 3) := by decide +kernel
theorem dX3_weigh_40 : decode cX3_weigh 40 = .ok (.iload_n 1, 1) := by decide +kernel
theorem dX3_weigh_41 : decode cX3_weigh 41 = .ok (.iload_n 2, 1) := by decide +kernel
theorem dX3_weigh_42 : decode cX3_weigh 42 = .ok (.invokevirtual 212, 3) := by decide +kernel
theorem dX3_weigh_45 : decode cX3_weigh 45 = .ok (.iload_n 3, 1) := by decide +kernel
theorem dX3_weigh_46 : decode cX3_weigh 46 = .ok (.ireturn, 1) := by decide +kernel
def wp_X3_weigh (σ : SX) (x1 : Int32) (x2 : Int32) (P : Int32 → SX → Prop) (X : String → SX → Prop) : Prop := (wp_X3_requireHole σ x1 (fun s2 => ((x2 < (-99) → (X "java/lang/IllegalArgumentException" s2)) ∧ (¬ x2 < (-99) → ((x2 ≤ 99 → (wp_X0_weightOf s2 x1 (fun r32 => (wp_X0_changeWeight s2 x1 x2 (fun s42 => (P r32 (mgX0 s2 s42))))))) ∧ (¬ x2 ≤ 99 → (X "java/lang/IllegalArgumentException" s2)))))) X)
theorem k_X3_weigh : KV RX3 yX3_weigh cX3_weigh 4 (some .int) 2 := ⟨q783, q784, q1, q785, by decide +kernel⟩
set_option maxHeartbeats 4000000 in
set_option maxRecDepth 100000 in
theorem m_X3_weigh (l : Launch) (hl9 : l.stackTraces = false) (dC : Nat → ClassId) (dI : Nat → Nat → Nat) (h : Nat → Nat) (cy : Nat → ClassId) (sa : Nat → Nat) (sz : Nat) (σ : SX) (x1 : Int32) (x2 : Int32) (P : Int32 → SX → Prop) (X : String → SX → Prop) (hF : wp_X3_weigh σ x1 x2 P X) : vx_Met l yX3_weigh (ws_ yX3_weigh cX3_weigh 4 (some .int)) ({ frames := 7, cells := 2, slots := 12, locals := 111 } : Room) (va_Pc [.ref (h 16), .int x1, .int x2] (PcT dC dI cy sa (wH h cy σ) sz)) (va_Qi (fun r u => P r u) (fun (u : SX) t => va_P (dC, dI) classes (wH h cy u) t.heap ∧ va_D (va_A (wH h cy σ) sz) (wH h cy u)) (va_A (wH h cy σ) sz)) (QxT dC dI (fun (u : SX) => wH h cy u) X (va_A (wH h cy σ) sz)) 2 12 (va_A (wH h cy σ) sz) := by
  refine vx_Met.ofCx (own := RX3) (by decide) rfl (Nat.le_of_ble_eq_true rfl) ?_
  intro p e s m below meth c hC hno hv ls hl
  obtain ⟨hx, hb, hr, hml, hown, hts, hlocks⟩ := hC
  have hl : lv_has ls 4 [(0, .ref (h 16)), (1, .int x1), (2, .int x2)] := hl
  obtain ⟨hsz, hP, hK, hD0, hXS, hXZ⟩ := hv
  subst hsz
  have hD := hD0.self (sz := s.heap.size)
  generalize hAe : va_A (wH h cy σ) s.heap.size = A at hD hXZ ⊢
  have hA : ∀ q : Nat, s.heap.size ≤ q → A q := fun q h => by rw [← hAe]; exact Or.inr h
  have hS : va_S A s.heap s.heap [] := va_S.rf
  clear hAe
  unfold wp_X3_weigh at hF
  refine lv_aload_n hx hb dX3_weigh_0 rfl (lv_at hl 0 rfl) ?_
  refine lv_iload_n hx hb dX3_weigh_1 rfl (lv_at hl 1 rfl) ?_
  have hFc := va_free (wc := wH h cy σ) hD hS hA [0, 1, 2, 3, 4, 5, 6, 7, 8, 9, 10, 11, 12, 13, 14, 15, 16, 17, 18, 19, 20] rfl
  refine cxVv (q0 := 16) (As := [.int x1]) (rest := []) ⟨hx, hb, hr, hml, hown, hts, hlocks⟩ hno hK hXS hXZ hP hD rfl rfl hS hFc (m_X3_requireHole l hl9 dC dI h cy sa _ σ x1 _ X hF) k_X3_requireHole q620 ⟨rfl, rfl⟩ ⟨Nat.le_of_ble_eq_true rfl, Nat.le_of_ble_eq_true rfl⟩ hl.1 rfl rfl (Nat.le_of_ble_eq_true rfl) dX3_weigh_2 ⟨Nat.le_of_ble_eq_true rfl, Nat.le_of_ble_eq_true rfl⟩ ⟨Nat.le_of_ble_eq_true rfl, Nat.le_of_ble_eq_true rfl⟩ (fun u H1 locs hF hP1 hD1 hS => ?_)
  obtain ⟨s2, rfl⟩ : ∃ z, z = u := ⟨_, rfl⟩
  have hP := hP1
  have hD := hD1
  generalize H1 = H at hP hS ⊢
  have hP : va_P (dC, dI) classes (wH h cy s2) H := hP
  have hD : va_D A (wH h cy s2) := hD
  refine lv_iload_n hx hb dX3_weigh_5 rfl (lv_at hl 2 rfl) ?_
  refine lv_bipush (v := (-99)) hx hb dX3_weigh_6 (by decide) ?_
  refine lv_icmp_lt (tgt := 17) hx hb dX3_weigh_8 (by decide) (fun cz => ?_) (fun cz => ?_)
  · have hF := hF.1 cz
    exact thrS (u := s2) (wn := fun (u : SX) => wH h cy u) (X := X) ⟨hx, hb, hr, hml, hown, hts, hlocks⟩ hno hl9 hK.2 rfl hXS hXZ hS hl.1 hP hD 14 rfl at_37_41 dX3_weigh_17 dX3_weigh_20 dX3_weigh_21 dX3_weigh_23 dX3_weigh_26 (Nat.le_of_ble_eq_true rfl) (Nat.le_of_ble_eq_true rfl) (Nat.le_of_ble_eq_true rfl) (Nat.le_of_ble_eq_true rfl) (Nat.le_of_ble_eq_true rfl) (Nat.le_of_ble_eq_true rfl) hF
  · have hF := hF.2 cz
    refine lv_iload_n hx hb dX3_weigh_11 rfl (lv_at hl 2 rfl) ?_
    refine lv_bipush (v := 99) hx hb dX3_weigh_12 (by decide) ?_
    refine lv_icmp_le (tgt := 27) hx hb dX3_weigh_14 (by decide) (fun cz => ?_) (fun cz => ?_)
    · have hF := hF.1 cz
      refine lv_aload_n hx hb dX3_weigh_27 rfl (lv_at hl 0 rfl) ?_
      refine va_get (D := (dC, dI)) (ci := 3) (v := .ref (h 0)) (C := RX3) (T := TX3) (N := 6) hx hb hts in_X3 hown hK.1 hP 16 rfl rfl 0 (by decide) (hts _ q141) (fun _ h9 => h9) rfl dX3_weigh_28 ?_
      refine lv_iload_n hx hb dX3_weigh_31 rfl (lv_at hl 1 rfl) ?_
      have hPc := hP.sub (ws' := wB h cy s2) [0, 1, 2, 3, 4, 5, 6, 7, 8, 9, 10, 11] rfl
      refine cpVi (q0 := 0) (As := [.int x1]) (rest := []) ⟨hx, hb, hr, hml, hown, hts, hlocks⟩ hK hPc rfl rfl (m_X0_weightOf l dC dI h cy s2 x1 _ hF) k_X0_weightOf q359 ⟨rfl, rfl⟩ ⟨Nat.le_of_ble_eq_true rfl, Nat.le_of_ble_eq_true rfl⟩ hl.1 rfl rfl (Nat.le_of_ble_eq_true rfl) dX3_weigh_32 ⟨Nat.le_of_ble_eq_true rfl, Nat.le_of_ble_eq_true rfl⟩ (fun r32 hF => ?_)
      refine lv_istore_n (lv' := [(3, .int r32), (0, .ref (h 16)), (1, .int x1), (2, .int x2)]) hx hb dX3_weigh_35 rfl hl (by decide) rfl (fun ls hl => ?_)
      refine lv_aload_n hx hb dX3_weigh_36 rfl (lv_at hl 1 rfl) ?_
      refine va_get (D := (dC, dI)) (ci := 3) (v := .ref (h 0)) (C := RX3) (T := TX3) (N := 6) hx hb hts in_X3 hown hK.1 hP 16 rfl rfl 0 (by decide) (hts _ q141) (fun _ h9 => h9) rfl dX3_weigh_37 ?_
      refine lv_iload_n hx hb dX3_weigh_40 rfl (lv_at hl 2 rfl) ?_
      refine lv_iload_n hx hb dX3_weigh_41 rfl (lv_at hl 3 rfl) ?_
      have hPc := hP.sub (ws' := wB h cy s2) [0, 1, 2, 3, 4, 5, 6, 7, 8, 9, 10, 11] rfl
      have hDc := hD.sub (ws' := wB h cy s2) [0, 1, 2, 3, 4, 5, 6, 7, 8, 9, 10, 11] (by decide) rfl
      have hFc := va_free (wc := wB h cy s2) hD hS hA [0, 1, 2, 3, 4, 5, 6, 7, 8, 9, 10, 11] rfl
      refine cwVv (q0 := 0) (As := [.int x1, .int x2]) (rest := []) ⟨hx, hb, hr, hml, hown, hts, hlocks⟩ hK hPc hDc rfl rfl hS hFc (m_X0_changeWeight l dC dI h cy _ s2 x1 x2 _ hF) k_X0_changeWeight q787 ⟨rfl, rfl⟩ ⟨Nat.le_of_ble_eq_true rfl, Nat.le_of_ble_eq_true rfl⟩ hl.1 rfl rfl (Nat.le_of_ble_eq_true rfl) dX3_weigh_42 ⟨Nat.le_of_ble_eq_true rfl, Nat.le_of_ble_eq_true rfl⟩ (fun u H1 locs hF hP1 hD1 hk1 hS => ?_)
      obtain ⟨s42, rfl⟩ : ∃ z, z = u := ⟨_, rfl⟩
      obtain ⟨hP, hD⟩ := va_join (wr := [(h 12, .inr (2, [.ref (h 0), .ref (h 13), .ref (h 14), .ref (h 15), .int (s2.1 7), .int (s2.1 8), .int (s2.1 9), .int (s2.1 10), .int (s2.1 11), .int (s2.1 12), .int (s2.1 13), .int (s2.1 14)])), (h 13, .inl (cy 0, 8192, .inl (s2.2.1 6))), (h 14, .inl (cy 1, 8192, .inr (.inl (s2.2.2)))), (h 15, .inl (cy 0, 10240, .inl (s2.2.1 7))), (h 16, .inr (3, [.ref (h 0), .ref (h 12), .ref (h 17), .ref (h 19), .int (s2.1 15), .int (s2.1 16)])), (h 17, .inr (1, [.ref (h 18), .int (s2.1 17)])), (h 18, .inl (cy 0, 12, .inl (s2.2.1 8))), (h 19, .inr (1, [.ref (h 20), .int (s2.1 18)])), (h 20, .inl (cy 0, 12, .inl (s2.2.1 9)))]) (w1 := wB h cy s42) hP hD [0, 1, 2, 3, 4, 5, 6, 7, 8, 9, 10, 11] [12, 13, 14, 15, 16, 17, 18, 19, 20] rfl rfl (by decide) (by decide) hk1 hFc hP1 hD1
      have hP := hP.sub (ws' := wH h cy (mgX0 s2 s42)) [9, 10, 11, 12, 13, 14, 15, 16, 17, 18, 19, 20, 0, 1, 2, 3, 4, 5, 6, 7, 8] rfl
      have hD := hD.sub (ws' := wH h cy (mgX0 s2 s42)) [9, 10, 11, 12, 13, 14, 15, 16, 17, 18, 19, 20, 0, 1, 2, 3, 4, 5, 6, 7, 8] (by decide) rfl
      generalize H1 = H at hP hS ⊢
      have hP : va_P (dC, dI) classes (wH h cy (mgX0 s2 s42)) H := hP
      have hD : va_D A (wH h cy (mgX0 s2 s42)) := hD
      refine lv_iload_n hx hb dX3_weigh_45 rfl (lv_at hl 0 rfl) ?_
      refine vx_ret (W.widen (k := 2) (n := 12) (Nat.le_of_ble_eq_true rfl) (Nat.le_of_ble_eq_true rfl) ?_)
      exact W.iret (v := r32) hx hb hr (fun t ht hW => ⟨⟨r32, mgX0 s2 s42, rfl, hF, by rw [ht]; exact hP, hD⟩, hS.F ht⟩) hS.2.2 dX3_weigh_46
    · have hF := hF.2 cz
      exact thrS (u := s2) (wn := fun (u : SX) => wH h cy u) (X := X) ⟨hx, hb, hr, hml, hown, hts, hlocks⟩ hno hl9 hK.2 rfl hXS hXZ hS hl.1 hP hD 14 rfl at_37_41 dX3_weigh_17 dX3_weigh_20 dX3_weigh_21 dX3_weigh_23 dX3_weigh_26 (Nat.le_of_ble_eq_true rfl) (Nat.le_of_ble_eq_true rfl) (Nat.le_of_ble_eq_true rfl) (Nat.le_of_ble_eq_true rfl) (Nat.le_of_ble_eq_true rfl) (Nat.le_of_ble_eq_true rfl) hF
theorem dX3_weight_0 : decode cX3_weight 0 = .ok (.aload_n 0, 1) := by decide +kernel
theorem dX3_weight_1 : decode cX3_weight 1 = .ok (.iload_n 1, 1) := by decide +kernel
theorem dX3_weight_2 : decode cX3_weight 2 = .ok (.invokevirtual 110, 3) := by decide +kernel
theorem dX3_weight_5 : decode cX3_weight 5 = .ok (.aload_n 0, 1) := by decide +kernel
theorem dX3_weight_6 : decode cX3_weight 6 = .ok (.getfield 10, 3) := by decide +kernel
theorem dX3_weight_9 : decode cX3_weight 9 = .ok (.iload_n 1, 1) := by decide +kernel
theorem dX3_weight_10 : decode cX3_weight 10 = .ok (.invokevirtual 216, 3) := by decide +kernel
theorem dX3_weight_13 : decode cX3_weight 13 = .ok (.ireturn, 1) := by decide +kernel
def wp_X3_weight (fu : Nat) (σ : SX) (x1 : Int32) (P : Int32 → SX → Prop) (X : String → SX → Prop) : Prop := (wp_X3_requirePegs σ x1 (fun s2 => (wp_X0_weightOfPegs fu s2 x1 (fun r10 => (P r10 s2)))) X)
theorem k_X3_weight : KV RX3 yX3_weight cX3_weight 2 (some .int) 1 := ⟨q795, q796, q1, q797, by decide +kernel⟩
set_option maxHeartbeats 4000000 in
set_option maxRecDepth 100000 in
theorem m_X3_weight (l : Launch) (hl9 : l.stackTraces = false) (dC : Nat → ClassId) (dI : Nat → Nat → Nat) (h : Nat → Nat) (cy : Nat → ClassId) (sa : Nat → Nat) (sz : Nat) (fu : Nat) (σ : SX) (x1 : Int32) (P : Int32 → SX → Prop) (X : String → SX → Prop) (hF : wp_X3_weight fu σ x1 P X) : vx_Met l yX3_weight (ws_ yX3_weight cX3_weight 2 (some .int)) ({ frames := 7, cells := 1, slots := 6, locals := 111 } : Room) (va_Pc [.ref (h 16), .int x1] (PcT dC dI cy sa (wH h cy σ) sz)) (va_Qi (fun r u => P r u) (fun (u : SX) t => va_P (dC, dI) classes (wH h cy u) t.heap ∧ va_D (va_A (wH h cy σ) sz) (wH h cy u)) (va_A (wH h cy σ) sz)) (QxT dC dI (fun (u : SX) => wH h cy u) X (va_A (wH h cy σ) sz)) 1 6 (va_A (wH h cy σ) sz) := by
  refine vx_Met.ofCx (own := RX3) (by decide) rfl (Nat.le_of_ble_eq_true rfl) ?_
  intro p e s m below meth c hC hno hv ls hl
  obtain ⟨hx, hb, hr, hml, hown, hts, hlocks⟩ := hC
  have hl : lv_has ls 2 [(0, .ref (h 16)), (1, .int x1)] := hl
  obtain ⟨hsz, hP, hK, hD0, hXS, hXZ⟩ := hv
  subst hsz
  have hD := hD0.self (sz := s.heap.size)
  generalize hAe : va_A (wH h cy σ) s.heap.size = A at hD hXZ ⊢
  have hA : ∀ q : Nat, s.heap.size ≤ q → A q := fun q h => by rw [← hAe]; exact Or.inr h
  have hS : va_S A s.heap s.heap [] := va_S.rf
  clear hAe
  unfold wp_X3_weight at hF
  refine lv_aload_n hx hb dX3_weight_0 rfl (lv_at hl 0 rfl) ?_
  refine lv_iload_n hx hb dX3_weight_1 rfl (lv_at hl 1 rfl) ?_
  have hFc := va_free (wc := wH h cy σ) hD hS hA [0, 1, 2, 3, 4, 5, 6, 7, 8, 9, 10, 11, 12, 13, 14, 15, 16, 17, 18, 19, 20] rfl
  refine cxVv (q0 := 16) (As := [.int x1]) (rest := []) ⟨hx, hb, hr, hml, hown, hts, hlocks⟩ hno hK hXS hXZ hP hD rfl rfl hS hFc (m_X3_requirePegs l hl9 dC dI h cy sa _ σ x1 _ X hF) k_X3_requirePegs q644 ⟨rfl, rfl⟩ ⟨Nat.le_of_ble_eq_true rfl, Nat.le_of_ble_eq_true rfl⟩ hl.1 rfl rfl (Nat.le_of_ble_eq_true rfl) dX3_weight_2 ⟨Nat.le_of_ble_eq_true rfl, Nat.le_of_ble_eq_true rfl⟩ ⟨Nat.le_of_ble_eq_true rfl, Nat.le_of_ble_eq_true rfl⟩ (fun u H1 locs hF hP1 hD1 hS => ?_)
  obtain ⟨s2, rfl⟩ : ∃ z, z = u := ⟨_, rfl⟩
  have hP := hP1
  have hD := hD1
  generalize H1 = H at hP hS ⊢
  have hP : va_P (dC, dI) classes (wH h cy s2) H := hP
  have hD : va_D A (wH h cy s2) := hD
  refine lv_aload_n hx hb dX3_weight_5 rfl (lv_at hl 0 rfl) ?_
  refine va_get (D := (dC, dI)) (ci := 3) (v := .ref (h 0)) (C := RX3) (T := TX3) (N := 6) hx hb hts in_X3 hown hK.1 hP 16 rfl rfl 0 (by decide) (hts _ q141) (fun _ h9 => h9) rfl dX3_weight_6 ?_
  refine lv_iload_n hx hb dX3_weight_9 rfl (lv_at hl 1 rfl) ?_
  have hPc := hP.sub (ws' := wB h cy s2) [0, 1, 2, 3, 4, 5, 6, 7, 8, 9, 10, 11] rfl
  refine cpVi (q0 := 0) (As := [.int x1]) (rest := []) ⟨hx, hb, hr, hml, hown, hts, hlocks⟩ hK hPc rfl rfl (m_X0_weightOfPegs l dC dI h cy fu s2 x1 _ hF) k_X0_weightOfPegs q296 ⟨rfl, rfl⟩ ⟨Nat.le_of_ble_eq_true rfl, Nat.le_of_ble_eq_true rfl⟩ hl.1 rfl rfl (Nat.le_of_ble_eq_true rfl) dX3_weight_10 ⟨Nat.le_of_ble_eq_true rfl, Nat.le_of_ble_eq_true rfl⟩ (fun r10 hF => ?_)
  refine vx_ret (W.widen (k := 1) (n := 6) (Nat.le_of_ble_eq_true rfl) (Nat.le_of_ble_eq_true rfl) ?_)
  exact W.iret (v := r10) hx hb hr (fun t ht hW => ⟨⟨r10, s2, rfl, hF, by rw [ht]; exact hP, hD⟩, hS.F ht⟩) hS.2.2 dX3_weight_13
theorem dX3_winning_0 : decode cX3_winning 0 = .ok (.aload_n 0, 1) := by decide +kernel
theorem dX3_winning_1 : decode cX3_winning 1 = .ok (.getfield 21, 3) := by decide +kernel
theorem dX3_winning_4 : decode cX3_winning 4 = .ok (.aload_n 0, 1) := by decide +kernel
theorem dX3_winning_5 : decode cX3_winning 5 = .ok (.getfield 83, 3) := by decide +kernel
theorem dX3_winning_8 : decode cX3_winning 8 = .ok (.invokevirtual 169, 3) := by decide +kernel
theorem dX3_winning_11 : decode cX3_winning 11 = .ok (.aload_n 0, 1) := by decide +kernel
theorem dX3_winning_12 : decode cX3_winning 12 = .ok (.getfield 21, 3) := by decide +kernel
theorem dX3_winning_15 : decode cX3_winning 15 = .ok (.invokevirtual 236, 3) := by decide +kernel
theorem dX3_winning_18 : decode cX3_winning 18 = .ok (.aload_n 0, 1) := by decide +kernel
theorem dX3_winning_19 : decode cX3_winning 19 = .ok (.iconst 0, 1) := by decide +kernel
theorem dX3_winning_20 : decode cX3_winning 20 = .ok (.invokevirtual 179, 3) := by decide +kernel
theorem dX3_winning_23 : decode cX3_winning 23 = .ok (.istore_n 1, 1) := by decide +kernel
theorem dX3_winning_24 : decode cX3_winning 24 = .ok (.iload_n 1, 1) := by decide +kernel
theorem dX3_winning_25 : decode cX3_winning 25 = .ok (.iconst (-1), 1) := by decide +kernel
theorem dX3_winning_26 : decode cX3_winning 26 = .ok (.if_icmp .ne 13, 3) := by decide +kernel
theorem dX3_winning_29 : decode cX3_winning 29 = .ok (.new 95, 3) := by decide +kernel
theorem dX3_winning_32 : decode cX3_winning 32 = .ok (.dup, 1) := by decide +kernel
theorem dX3_winning_33 : decode cX3_winning 33 = .ok (.ldc 239, 2) := by decide +kernel
theorem dX3_winning_35 : decode cX3_winning 35 = .ok (.invokespecial 97, 3) := by decide +kernel
theorem dX3_winning_38 : decode cX3_winning 38 = .ok (.athrow, 1) := by decide +kernel
theorem dX3_winning_39 : decode cX3_winning 39 = .ok (.aload_n 0, 1) := by decide +kernel
theorem dX3_winning_40 : decode cX3_winning 40 = .ok (.getfield 10, 3) := by decide +kernel
theorem dX3_winning_43 : decode cX3_winning 43 = .ok (.iload_n 1, 1) := by decide +kernel
theorem dX3_winning_44 : decode cX3_winning 44 = .ok (.invokevirtual 139, 3) := by decide +kernel
theorem dX3_winning_47 : decode cX3_winning 47 = .ok (.ireturn, 1) := by decide +kernel
def wp_X3_winning (fu : Nat) (σ : SX) (P : Int32 → SX → Prop) (X : String → SX → Prop) : Prop := (wp_X2_begin fu σ (σ.1 15) (fun s8 => (wp_X2_figureValues fu (mgX2 σ s8)  (fun s15 => (wp_X3_lineTo fu (mgX2 (mgX2 σ s8) s15) 0 (fun r20 => ((¬ r20 = (-1) → (wp_X0_codeOf (mgX2 (mgX2 σ s8) s15) r20 (fun r44 => (P r44 (mgX2 (mgX2 σ s8) s15))))) ∧ (r20 = (-1) → (X "java/util/NoSuchElementException" (mgX2 (mgX2 σ s8) s15))))))))))
theorem k_X3_winning : KV RX3 yX3_winning cX3_winning 2 (some .int) 0 := ⟨q829, q830, q1, q831, by decide +kernel⟩
set_option maxHeartbeats 4000000 in
set_option maxRecDepth 100000 in
theorem m_X3_winning (l : Launch) (hl9 : l.stackTraces = false) (dC : Nat → ClassId) (dI : Nat → Nat → Nat) (h : Nat → Nat) (cy : Nat → ClassId) (sa : Nat → Nat) (sz : Nat) (fu : Nat) (σ : SX) (P : Int32 → SX → Prop) (X : String → SX → Prop) (hF : wp_X3_winning fu σ P X) : vx_Met l yX3_winning (ws_ yX3_winning cX3_winning 2 (some .int)) ({ frames := 6, cells := 1, slots := 6, locals := 90 } : Room) (va_Pc [.ref (h 16)] (PcT dC dI cy sa (wH h cy σ) sz)) (va_Qi (fun r u => P r u) (fun (u : SX) t => va_P (dC, dI) classes (wH h cy u) t.heap ∧ va_D (va_A (wH h cy σ) sz) (wH h cy u)) (va_A (wH h cy σ) sz)) (QxT dC dI (fun (u : SX) => wH h cy u) X (va_A (wH h cy σ) sz)) 1 6 (va_A (wH h cy σ) sz) := by
  refine vx_Met.ofCx (own := RX3) (by decide) rfl (Nat.le_of_ble_eq_true rfl) ?_
  intro p e s m below meth c hC hno hv ls hl
  obtain ⟨hx, hb, hr, hml, hown, hts, hlocks⟩ := hC
  have hl : lv_has ls 2 [(0, .ref (h 16))] := hl
  obtain ⟨hsz, hP, hK, hD0, hXS, hXZ⟩ := hv
  subst hsz
  have hD := hD0.self (sz := s.heap.size)
  generalize hAe : va_A (wH h cy σ) s.heap.size = A at hD hXZ ⊢
  have hA : ∀ q : Nat, s.heap.size ≤ q → A q := fun q h => by rw [← hAe]; exact Or.inr h
  have hS : va_S A s.heap s.heap [] := va_S.rf
  clear hAe
  unfold wp_X3_winning at hF
  refine lv_aload_n hx hb dX3_winning_0 rfl (lv_at hl 0 rfl) ?_
  refine va_get (D := (dC, dI)) (ci := 3) (v := .ref (h 12)) (C := RX3) (T := TX3) (N := 6) hx hb hts in_X3 hown hK.1 hP 16 rfl rfl 1 (by decide) (hts _ q142) (fun _ h9 => h9) rfl dX3_winning_1 ?_
  refine lv_aload_n hx hb dX3_winning_4 rfl (lv_at hl 0 rfl) ?_
  refine va_get (D := (dC, dI)) (ci := 3) (v := .int (σ.1 15)) (C := RX3) (T := TX3) (N := 6) hx hb hts in_X3 hown hK.1 hP 16 rfl rfl 4 (by decide) (hts _ q145) (fun _ h9 => h9) rfl dX3_winning_5 ?_
  have hPc := hP.sub (ws' := wW h cy σ) [0, 1, 2, 3, 4, 5, 6, 7, 8, 9, 10, 11, 12, 13, 14, 15] rfl
  have hDc := hD.sub (ws' := wW h cy σ) [0, 1, 2, 3, 4, 5, 6, 7, 8, 9, 10, 11, 12, 13, 14, 15] (by decide) rfl
  have hFc := va_free (wc := wW h cy σ) hD hS hA [0, 1, 2, 3, 4, 5, 6, 7, 8, 9, 10, 11, 12, 13, 14, 15] rfl
  refine cwVv (q0 := 12) (As := [.int (σ.1 15)]) (rest := []) ⟨hx, hb, hr, hml, hown, hts, hlocks⟩ hK hPc hDc rfl rfl hS hFc (m_X2_begin l dC dI h cy _ fu σ (σ.1 15) _ hF) k_X2_begin q232 ⟨rfl, rfl⟩ ⟨Nat.le_of_ble_eq_true rfl, Nat.le_of_ble_eq_true rfl⟩ hl.1 rfl rfl (Nat.le_of_ble_eq_true rfl) dX3_winning_8 ⟨Nat.le_of_ble_eq_true rfl, Nat.le_of_ble_eq_true rfl⟩ (fun u H1 locs hF hP1 hD1 hk1 hS => ?_)
  obtain ⟨s8, rfl⟩ : ∃ z, z = u := ⟨_, rfl⟩
  obtain ⟨hP, hD⟩ := va_join (wr := [(h 16, .inr (3, [.ref (h 0), .ref (h 12), .ref (h 17), .ref (h 19), .int (σ.1 15), .int (σ.1 16)])), (h 17, .inr (1, [.ref (h 18), .int (σ.1 17)])), (h 18, .inl (cy 0, 12, .inl (σ.2.1 8))), (h 19, .inr (1, [.ref (h 20), .int (σ.1 18)])), (h 20, .inl (cy 0, 12, .inl (σ.2.1 9)))]) (w1 := wW h cy s8) hP hD [0, 1, 2, 3, 4, 5, 6, 7, 8, 9, 10, 11, 12, 13, 14, 15] [16, 17, 18, 19, 20] rfl rfl (by decide) (by decide) hk1 hFc hP1 hD1
  have hP := hP.sub (ws' := wH h cy (mgX2 σ s8)) [5, 6, 7, 8, 9, 10, 11, 12, 13, 14, 15, 16, 17, 18, 19, 20, 0, 1, 2, 3, 4] rfl
  have hD := hD.sub (ws' := wH h cy (mgX2 σ s8)) [5, 6, 7, 8, 9, 10, 11, 12, 13, 14, 15, 16, 17, 18, 19, 20, 0, 1, 2, 3, 4] (by decide) rfl
  generalize H1 = H at hP hS ⊢
  have hP : va_P (dC, dI) classes (wH h cy (mgX2 σ s8)) H := hP
  have hD : va_D A (wH h cy (mgX2 σ s8)) := hD
  refine lv_aload_n hx hb dX3_winning_11 rfl (lv_at hl 0 rfl) ?_
  refine va_get (D := (dC, dI)) (ci := 3) (v := .ref (h 12)) (C := RX3) (T := TX3) (N := 6) hx hb hts in_X3 hown hK.1 hP 16 rfl rfl 1 (by decide) (hts _ q142) (fun _ h9 => h9) rfl dX3_winning_12 ?_
  have hPc := hP.sub (ws' := wW h cy (mgX2 σ s8)) [0, 1, 2, 3, 4, 5, 6, 7, 8, 9, 10, 11, 12, 13, 14, 15] rfl
  have hDc := hD.sub (ws' := wW h cy (mgX2 σ s8)) [0, 1, 2, 3, 4, 5, 6, 7, 8, 9, 10, 11, 12, 13, 14, 15] (by decide) rfl
  have hFc := va_free (wc := wW h cy (mgX2 σ s8)) hD hS hA [0, 1, 2, 3, 4, 5, 6, 7, 8, 9, 10, 11, 12, 13, 14, 15] rfl
  refine cwVv (q0 := 12) (As := []) (rest := []) ⟨hx, hb, hr, hml, hown, hts, hlocks⟩ hK hPc hDc rfl rfl hS hFc (m_X2_figureValues l dC dI h cy _ fu (mgX2 σ s8)  _ hF) k_X2_figureValues q320 ⟨rfl, rfl⟩ ⟨Nat.le_of_ble_eq_true rfl, Nat.le_of_ble_eq_true rfl⟩ hl.1 rfl rfl (Nat.le_of_ble_eq_true rfl) dX3_winning_15 ⟨Nat.le_of_ble_eq_true rfl, Nat.le_of_ble_eq_true rfl⟩ (fun u H1 locs hF hP1 hD1 hk1 hS => ?_)
  obtain ⟨s15, rfl⟩ : ∃ z, z = u := ⟨_, rfl⟩
  obtain ⟨hP, hD⟩ := va_join (wr := [(h 16, .inr (3, [.ref (h 0), .ref (h 12), .ref (h 17), .ref (h 19), .int (σ.1 15), .int (σ.1 16)])), (h 17, .inr (1, [.ref (h 18), .int (σ.1 17)])), (h 18, .inl (cy 0, 12, .inl (σ.2.1 8))), (h 19, .inr (1, [.ref (h 20), .int (σ.1 18)])), (h 20, .inl (cy 0, 12, .inl (σ.2.1 9)))]) (w1 := wW h cy s15) hP hD [0, 1, 2, 3, 4, 5, 6, 7, 8, 9, 10, 11, 12, 13, 14, 15] [16, 17, 18, 19, 20] rfl rfl (by decide) (by decide) hk1 hFc hP1 hD1
  have hP := hP.sub (ws' := wH h cy (mgX2 (mgX2 σ s8) s15)) [5, 6, 7, 8, 9, 10, 11, 12, 13, 14, 15, 16, 17, 18, 19, 20, 0, 1, 2, 3, 4] rfl
  have hD := hD.sub (ws' := wH h cy (mgX2 (mgX2 σ s8) s15)) [5, 6, 7, 8, 9, 10, 11, 12, 13, 14, 15, 16, 17, 18, 19, 20, 0, 1, 2, 3, 4] (by decide) rfl
  generalize H1 = H at hP hS ⊢
  have hP : va_P (dC, dI) classes (wH h cy (mgX2 (mgX2 σ s8) s15)) H := hP
  have hD : va_D A (wH h cy (mgX2 (mgX2 σ s8) s15)) := hD
  refine lv_aload_n hx hb dX3_winning_18 rfl (lv_at hl 0 rfl) ?_
  refine lv_iconst (v := 0) hx hb dX3_winning_19 (by decide) ?_
  refine cpVi (q0 := 16) (As := [.int 0]) (rest := []) ⟨hx, hb, hr, hml, hown, hts, hlocks⟩ hK hP rfl rfl (m_X3_lineTo l dC dI h cy fu (mgX2 (mgX2 σ s8) s15) 0 _ hF) k_X3_lineTo q737 ⟨rfl, rfl⟩ ⟨Nat.le_of_ble_eq_true rfl, Nat.le_of_ble_eq_true rfl⟩ hl.1 rfl rfl (Nat.le_of_ble_eq_true rfl) dX3_winning_20 ⟨Nat.le_of_ble_eq_true rfl, Nat.le_of_ble_eq_true rfl⟩ (fun r20 hF => ?_)
  refine lv_istore_n (lv' := [(1, .int r20), (0, .ref (h 16))]) hx hb dX3_winning_23 rfl hl (by decide) rfl (fun ls hl => ?_)
  refine lv_iload_n hx hb dX3_winning_24 rfl (lv_at hl 0 rfl) ?_
  refine lv_iconst (v := (-1)) hx hb dX3_winning_25 (by decide) ?_
  refine lv_icmp_ne (tgt := 39) hx hb dX3_winning_26 (by decide) (fun cz => ?_) (fun cz => ?_)
  · have hF := hF.1 cz
    refine lv_aload_n hx hb dX3_winning_39 rfl (lv_at hl 1 rfl) ?_
    refine va_get (D := (dC, dI)) (ci := 3) (v := .ref (h 0)) (C := RX3) (T := TX3) (N := 6) hx hb hts in_X3 hown hK.1 hP 16 rfl rfl 0 (by decide) (hts _ q141) (fun _ h9 => h9) rfl dX3_winning_40 ?_
    refine lv_iload_n hx hb dX3_winning_43 rfl (lv_at hl 0 rfl) ?_
    have hPc := hP.sub (ws' := wB h cy (mgX2 (mgX2 σ s8) s15)) [0, 1, 2, 3, 4, 5, 6, 7, 8, 9, 10, 11] rfl
    refine cpVi (q0 := 0) (As := [.int r20]) (rest := []) ⟨hx, hb, hr, hml, hown, hts, hlocks⟩ hK hPc rfl rfl (m_X0_codeOf l dC dI h cy (mgX2 (mgX2 σ s8) s15) r20 _ hF) k_X0_codeOf q685 ⟨rfl, rfl⟩ ⟨Nat.le_of_ble_eq_true rfl, Nat.le_of_ble_eq_true rfl⟩ hl.1 rfl rfl (Nat.le_of_ble_eq_true rfl) dX3_winning_44 ⟨Nat.le_of_ble_eq_true rfl, Nat.le_of_ble_eq_true rfl⟩ (fun r44 hF => ?_)
    refine vx_ret (W.widen (k := 1) (n := 6) (Nat.le_of_ble_eq_true rfl) (Nat.le_of_ble_eq_true rfl) ?_)
    exact W.iret (v := r44) hx hb hr (fun t ht hW => ⟨⟨r44, mgX2 (mgX2 σ s8) s15, rfl, hF, by rw [ht]; exact hP, hD⟩, hS.F ht⟩) hS.2.2 dX3_winning_47
  · have hF := hF.2 cz
    exact thrN (u := mgX2 (mgX2 σ s8) s15) (wn := fun (u : SX) => wH h cy u) (X := X) ⟨hx, hb, hr, hml, hown, hts, hlocks⟩ hno hl9 hK.2 rfl hXS hXZ hS hl.1 hP hD 17 rfl at_95_97 dX3_winning_29 dX3_winning_32 dX3_winning_33 dX3_winning_35 dX3_winning_38 (Nat.le_of_ble_eq_true rfl) (Nat.le_of_ble_eq_true rfl) (Nat.le_of_ble_eq_true rfl) (Nat.le_of_ble_eq_true rfl) (Nat.le_of_ble_eq_true rfl) (Nat.le_of_ble_eq_true rfl) hF
