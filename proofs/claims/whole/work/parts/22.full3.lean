theorem dX4_faultIn_0 : decode cX4_faultIn 0 = .ok (.aload_n 0, 1) := by decide +kernel
theorem dX4_faultIn_1 : decode cX4_faultIn 1 = .ok (.getfield 38, 3) := by decide +kernel
theorem dX4_faultIn_4 : decode cX4_faultIn 4 = .ok (.invokeinterface 81 1, 5) := by decide +kernel
theorem dX4_faultIn_9 : decode cX4_faultIn 9 = .ok (.aload_n 0, 1) := by decide +kernel
theorem dX4_faultIn_10 : decode cX4_faultIn 10 = .ok (.getfield 35, 3) := by decide +kernel
theorem dX4_faultIn_13 : decode cX4_faultIn 13 = .ok (.invokeinterface 194 1, 5) := by decide +kernel
theorem dX4_faultIn_18 : decode cX4_faultIn 18 = .ok (.ifCond .ne 29, 3) := by decide +kernel
theorem dX4_faultIn_21 : decode cX4_faultIn 21 = .ok (.aload_n 0, 1) := by decide +kernel
theorem dX4_faultIn_22 : decode cX4_faultIn 22 = .ok (.getfield 120, 3) := by decide +kernel
theorem dX4_faultIn_25 : decode cX4_faultIn 25 = .ok (.aload_n 0, 1) := by decide +kernel
theorem dX4_faultIn_26 : decode cX4_faultIn 26 = .ok (.getfield 35, 3) := by decide +kernel
theorem dX4_faultIn_29 : decode cX4_faultIn 29 = .ok (.iconst 0, 1) := by decide +kernel
theorem dX4_faultIn_30 : decode cX4_faultIn 30 = .ok (.invokeinterface 209 2, 5) := by decide +kernel
theorem dX4_faultIn_35 : decode cX4_faultIn 35 = .ok (.checkcast 170, 3) := by decide +kernel
theorem dX4_faultIn_38 : decode cX4_faultIn 38 = .ok (.invokevirtual 206, 3) := by decide +kernel
theorem dX4_faultIn_41 : decode cX4_faultIn 41 = .ok (.invokestatic 150, 3) := by decide +kernel
theorem dX4_faultIn_44 : decode cX4_faultIn 44 = .ok (.ifCond .ne 5, 3) := by decide +kernel
theorem dX4_faultIn_47 : decode cX4_faultIn 47 = .ok (.iconst 0, 1) := by decide +kernel
theorem dX4_faultIn_48 : decode cX4_faultIn 48 = .ok (.ireturn, 1) := by decide +kernel
theorem dX4_faultIn_49 : decode cX4_faultIn 49 = .ok (.aload_n 0, 1) := by decide +kernel
theorem dX4_faultIn_50 : decode cX4_faultIn 50 = .ok (.getfield 35, 3) := by decide +kernel
theorem dX4_faultIn_53 : decode cX4_faultIn 53 = .ok (.invokeinterface 198 1, 5) := by decide +kernel
theorem dX4_faultIn_58 : decode cX4_faultIn 58 = .ok (.iconst 1, 1) := by decide +kernel
theorem dX4_faultIn_59 : decode cX4_faultIn 59 = .ok (.if_icmp .ne 5, 3) := by decide +kernel
theorem dX4_faultIn_62 : decode cX4_faultIn 62 = .ok (.iconst 1, 1) := by decide +kernel
theorem dX4_faultIn_63 : decode cX4_faultIn 63 = .ok (.ireturn, 1) := by decide +kernel
theorem dX4_faultIn_64 : decode cX4_faultIn 64 = .ok (.aload_n 0, 1) := by decide +kernel
theorem dX4_faultIn_65 : decode cX4_faultIn 65 = .ok (.getfield 120, 3) := by decide +kernel
theorem dX4_faultIn_68 : decode cX4_faultIn 68 = .ok (.istore_n 1, 1) := by decide +kernel
theorem dX4_faultIn_69 : decode cX4_faultIn 69 = .ok (.iconst 1, 1) := by decide +kernel
theorem dX4_faultIn_70 : decode cX4_faultIn 70 = .ok (.istore_n 2, 1) := by decide +kernel
theorem dX4_faultIn_71 : decode cX4_faultIn 71 = .ok (.iload_n 2, 1) := by decide +kernel
theorem dX4_faultIn_72 : decode cX4_faultIn 72 = .ok (.aload_n 0, 1) := by decide +kernel
theorem dX4_faultIn_73 : decode cX4_faultIn 73 = .ok (.getfield 35, 3) := by decide +kernel
theorem dX4_faultIn_76 : decode cX4_faultIn 76 = .ok (.invokeinterface 198 1, 5) := by decide +kernel
theorem dX4_faultIn_81 : decode cX4_faultIn 81 = .ok (.if_icmp .ge 77, 3) := by decide +kernel
theorem dX4_faultIn_84 : decode cX4_faultIn 84 = .ok (.aload_n 0, 1) := by decide +kernel
theorem dX4_faultIn_85 : decode cX4_faultIn 85 = .ok (.iload_n 1, 1) := by decide +kernel
theorem dX4_faultIn_86 : decode cX4_faultIn 86 = .ok (.aload_n 0, 1) := by decide +kernel
theorem dX4_faultIn_87 : decode cX4_faultIn 87 = .ok (.getfield 35, 3) := by decide +kernel
theorem dX4_faultIn_90 : decode cX4_faultIn 90 = .ok (.iload_n 2, 1) := by decide +kernel
theorem dX4_faultIn_91 : decode cX4_faultIn 91 = .ok (.iconst 1, 1) := by decide +kernel
theorem dX4_faultIn_92 : decode cX4_faultIn 92 = .ok (.isub, 1) := by decide +kernel
theorem dX4_faultIn_93 : decode cX4_faultIn 93 = .ok (.invokeinterface 209 2, 5) := by decide +kernel
theorem dX4_faultIn_98 : decode cX4_faultIn 98 = .ok (.checkcast 170, 3) := by decide +kernel
theorem dX4_faultIn_101 : decode cX4_faultIn 101 = .ok (.invokevirtual 206, 3) := by decide +kernel
theorem dX4_faultIn_104 : decode cX4_faultIn 104 = .ok (.aload_n 0, 1) := by decide +kernel
theorem dX4_faultIn_105 : decode cX4_faultIn 105 = .ok (.getfield 35, 3) := by decide +kernel
theorem dX4_faultIn_108 : decode cX4_faultIn 108 = .ok (.iload_n 2, 1) := by decide +kernel
theorem dX4_faultIn_109 : decode cX4_faultIn 109 = .ok (.invokeinterface 209 2, 5) := by decide +kernel
theorem dX4_faultIn_114 : decode cX4_faultIn 114 = .ok (.checkcast 170, 3) := by decide +kernel
theorem dX4_faultIn_117 : decode cX4_faultIn 117 = .ok (.invokevirtual 206, 3) := by decide +kernel
theorem dX4_faultIn_120 : decode cX4_faultIn 120 = .ok (.invokevirtual 162, 3) := by decide +kernel
theorem dX4_faultIn_123 : decode cX4_faultIn 123 = .ok (.istore_n 3, 1) := by decide +kernel
theorem dX4_faultIn_124 : decode cX4_faultIn 124 = .ok (.iload_n 3, 1) := by decide +kernel
theorem dX4_faultIn_125 : decode cX4_faultIn 125 = .ok (.iconst (-1), 1) := by decide +kernel
theorem dX4_faultIn_126 : decode cX4_faultIn 126 = .ok (.if_icmp .ne 5, 3) := by decide +kernel
theorem dX4_faultIn_129 : decode cX4_faultIn 129 = .ok (.iload_n 2, 1) := by decide +kernel
theorem dX4_faultIn_130 : decode cX4_faultIn 130 = .ok (.ireturn, 1) := by decide +kernel
theorem dX4_faultIn_131 : decode cX4_faultIn 131 = .ok (.aload_n 0, 1) := by decide +kernel
theorem dX4_faultIn_132 : decode cX4_faultIn 132 = .ok (.getfield 38, 3) := by decide +kernel
theorem dX4_faultIn_135 : decode cX4_faultIn 135 = .ok (.iload_n 3, 1) := by decide +kernel
theorem dX4_faultIn_136 : decode cX4_faultIn 136 = .ok (.invokestatic 169, 3) := by decide +kernel
theorem dX4_faultIn_139 : decode cX4_faultIn 139 = .ok (.invokeinterface 175 2, 5) := by decide +kernel
theorem dX4_faultIn_144 : decode cX4_faultIn 144 = .ok (.pop, 1) := by decide +kernel
theorem dX4_faultIn_145 : decode cX4_faultIn 145 = .ok (.aload_n 0, 1) := by decide +kernel
theorem dX4_faultIn_146 : decode cX4_faultIn 146 = .ok (.iload_n 1, 1) := by decide +kernel
theorem dX4_faultIn_147 : decode cX4_faultIn 147 = .ok (.iload_n 3, 1) := by decide +kernel
theorem dX4_faultIn_148 : decode cX4_faultIn 148 = .ok (.invokevirtual 166, 3) := by decide +kernel
theorem dX4_faultIn_151 : decode cX4_faultIn 151 = .ok (.istore_n 1, 1) := by decide +kernel
theorem dX4_faultIn_152 : decode cX4_faultIn 152 = .ok (.iinc 2 1, 3) := by decide +kernel
theorem dX4_faultIn_155 : decode cX4_faultIn 155 = .ok (.goto (-84), 3) := by decide +kernel
theorem dX4_faultIn_158 : decode cX4_faultIn 158 = .ok (.iconst (-1), 1) := by decide +kernel
theorem dX4_faultIn_159 : decode cX4_faultIn 159 = .ok (.ireturn, 1) := by decide +kernel
def wp_X4_faultIn_B71 (fu : Nat) (P : Int32 → FX → Prop) (K71 : FX → Prop) (rec71 : Int32 → Int32 → FX → Prop) (v2_71 : Int32) (v1_71 : Int32) (s_71 : FX) : Prop := (okL s_71.2.2.2.1 ∧ (okL s_71.2.2.1 ∧ (((nI s_71.2.2.1.2.2.2.2.2) ≤ v2_71 → (K71 s_71)) ∧ (¬ (nI s_71.2.2.1.2.2.2.2.2) ≤ v2_71 → (okL s_71.2.2.1 ∧ (vp_in (v2_71 - 1) s_71.2.2.1.2.2.2.2.2 ∧ (okL s_71.2.2.1 ∧ (vp_in v2_71 s_71.2.2.1.2.2.2.2.2 ∧ (wp_X4_jumpOf fu s_71.1 v1_71 (nI (s_71.2.2.1.2.2.2.2.1 (v2_71 - 1).toNatClampNeg)) (nI (s_71.2.2.1.2.2.2.2.1 v2_71.toNatClampNeg)) (fun r120 => ((¬ r120 = (-1) → (vp_in r120 128 ∧ (okL s_71.2.2.2.1 ∧ (s_71.2.2.2.1.2.2.2.2.2 < 12 ∧ ∀ w139 : LST, okL w139 → w139.2.2.2.2.2 = s_71.2.2.2.1.2.2.2.2.2 + 1 → w139.2.2.2.2.1 = upN (s_71.2.2.2.1.2.2.2.2.1) s_71.2.2.2.1.2.2.2.2.2 r120.toNatClampNeg → (wp_X4_behind s_71.1 v1_71 r120 (fun r148 => (rec71 (v2_71 + 1) r148 (s_71.1, s_71.2.1, s_71.2.2.1, w139, s_71.2.2.2.2)))))))) ∧ (r120 = (-1) → (P v2_71 s_71)))))))))))))
def wp_X4_faultIn_L71 (fu : Nat) (P : Int32 → FX → Prop) (K71 : FX → Prop) : Nat → Int32 → Int32 → FX → Prop
  | 0, _, _, _ => False
  | nn + 1, v2_71, v1_71, s_71 => wp_X4_faultIn_B71 fu P K71 (wp_X4_faultIn_L71 fu P K71 nn) v2_71 v1_71 s_71
def wp_X4_faultIn (fu : Nat) (σ : FX) (P : Int32 → FX → Prop) : Prop := (okL σ.2.2.2.1 ∧ ∀ w4 : LST, okL w4 → w4.2.2.2.2.2 = 0 → (okL σ.2.2.1 ∧ ((¬ (isE (σ.2.2.1.2.2.2.2.2)) = 0 → (P 0 (σ.1, σ.2.1, σ.2.2.1, w4, σ.2.2.2.2))) ∧ ((isE (σ.2.2.1.2.2.2.2.2)) = 0 → (okL σ.2.2.1 ∧ (vp_in 0 σ.2.2.1.2.2.2.2.2 ∧ (wp_X4_has (σ.1.1 2) (nI (σ.2.2.1.2.2.2.2.1 (0 : Int32).toNatClampNeg)) (fun r41 => ((¬ r41 = 0 → (okL σ.2.2.1 ∧ ((¬ (nI σ.2.2.1.2.2.2.2.2) = 1 → (wp_X4_faultIn_L71 fu P (fun (s_158 : FX) => (okL s_158.2.2.2.1 ∧ (P (-1) s_158))) fu 1 (σ.1.1 2) (σ.1, σ.2.1, σ.2.2.1, w4, σ.2.2.2.2))) ∧ ((nI σ.2.2.1.2.2.2.2.2) = 1 → (P 1 (σ.1, σ.2.1, σ.2.2.1, w4, σ.2.2.2.2)))))) ∧ (r41 = 0 → (P 0 (σ.1, σ.2.1, σ.2.2.1, w4, σ.2.2.2.2))))))))))))
theorem k_X4_faultIn : KV RX4 yX4_faultIn cX4_faultIn 4 (some .int) 0 := ⟨q1746, qs57, q5, q1747, by decide +kernel⟩
set_option maxHeartbeats 4000000 in
set_option maxRecDepth 100000 in
theorem m_X4_faultIn (l : Launch) (dC : Nat → ClassId) (dI : Nat → Nat → Nat) (h : Nat → Nat) (cy : Nat → ClassId) (z ad : Nat → Nat) (sz : Nat) (fu : Nat) (σ : FX) (P : Int32 → FX → Prop) (hF : wp_X4_faultIn fu σ P) : Met l yX4_faultIn (ws_ yX4_faultIn cX4_faultIn 4 (some .int)) ({ frames := 7, cells := 12, slots := 180, locals := 226 } : Room) (va_Pc [.ref (h 0)] (PcF dC dI cy z ad (wC h cy σ.1 ++ (wl ad cy (z 0) (h 20) σ.2.1 ++ (wl ad cy (z 0) (h 21) σ.2.2.1 ++ (wl ad cy (z 0) (h 22) σ.2.2.2.1 ++ wS h cy σ.2.2.2.2)))) sz)) (va_Qi (fun r u => P r u) (fun (u : FX) t => va_P (dC, dI) classes (wC h cy u.1 ++ (wl ad cy (z 0) (h 20) u.2.1 ++ (wl ad cy (z 0) (h 21) u.2.2.1 ++ (wl ad cy (z 0) (h 22) u.2.2.2.1 ++ wS h cy u.2.2.2.2)))) t.heap ∧ va_D (va_A (wC h cy σ.1 ++ (wl ad cy (z 0) (h 20) σ.2.1 ++ (wl ad cy (z 0) (h 21) σ.2.2.1 ++ (wl ad cy (z 0) (h 22) σ.2.2.2.1 ++ wS h cy σ.2.2.2.2)))) sz) (wC h cy u.1 ++ (wl ad cy (z 0) (h 20) u.2.1 ++ (wl ad cy (z 0) (h 21) u.2.2.1 ++ (wl ad cy (z 0) (h 22) u.2.2.2.1 ++ wS h cy u.2.2.2.2))))) (va_A (wC h cy σ.1 ++ (wl ad cy (z 0) (h 20) σ.2.1 ++ (wl ad cy (z 0) (h 21) σ.2.2.1 ++ (wl ad cy (z 0) (h 22) σ.2.2.2.1 ++ wS h cy σ.2.2.2.2)))) sz)) 12 180 (va_A (wC h cy σ.1 ++ (wl ad cy (z 0) (h 20) σ.2.1 ++ (wl ad cy (z 0) (h 21) σ.2.2.1 ++ (wl ad cy (z 0) (h 22) σ.2.2.2.1 ++ wS h cy σ.2.2.2.2)))) sz) := by
  refine Met.ofCx (own := RX4) (by decide) rfl (Nat.le_of_ble_eq_true rfl) ?_
  intro p e s m below meth c hC hv ls hl
  obtain ⟨hx, hb, hr, hml, hown, hts, hlocks⟩ := hC
  have hl : lv_has ls 4 [(0, .ref (h 0))] := hl
  obtain ⟨hsz, hP, hK, hD0, hZ, hvk⟩ := hv
  subst hsz
  have hD := hD0.self (sz := s.heap.size)
  generalize hAe : va_A (wC h cy σ.1 ++ (wl ad cy (z 0) (h 20) σ.2.1 ++ (wl ad cy (z 0) (h 21) σ.2.2.1 ++ (wl ad cy (z 0) (h 22) σ.2.2.2.1 ++ wS h cy σ.2.2.2.2)))) s.heap.size = A at hD hZ ⊢
  have hA : ∀ q : Nat, s.heap.size ≤ q → A q := fun q h => by rw [← hAe]; exact Or.inr h
  have hS : va_S A s.heap s.heap [] := va_S.rf
  clear hAe
  unfold wp_X4_faultIn at hF
  refine lv_aload_n hx hb dX4_faultIn_0 rfl (lv_at hl 0 rfl) ?_
  refine va_get (D := (dC, dI)) (ci := 4) (v := .ref (h 22)) (C := RX4) (T := TX4) (N := 19) hx hb hts in_X4 hown hK.1 hP 0 rfl rfl 8 (by decide) (hts _ q958) (fun _ h9 => h9) rfl dX4_faultIn_1 ?_
  have hU := hF.1
  have hF := hF.2
  refine lsClear (fp3 _ _ _ _ _) ⟨hx, hb, hr, hml, hown, hts, hlocks⟩ hK hP hD hZ.1 hS hA hU q941 ⟨Nat.le_of_ble_eq_true rfl, Nat.le_of_ble_eq_true rfl⟩ hl.1 (Nat.le_of_ble_eq_true rfl) dX4_faultIn_4 ⟨Nat.le_of_ble_eq_true rfl, Nat.le_of_ble_eq_true rfl⟩ (fun w4 hw1 hw2 H1 locs hP1 hD1 hS => ?_)
  have hF := hF w4 hw1 hw2
  have hP := va_P.perm (fp3 _ _ _ _ _).symm hP1
  have hD := va_D.perm (fp3 _ _ _ _ _).symm hD1
  generalize H1 = H at hP hS ⊢
  have hP : va_P (dC, dI) classes (wC h cy σ.1 ++ (wl ad cy (z 0) (h 20) σ.2.1 ++ (wl ad cy (z 0) (h 21) σ.2.2.1 ++ (wl ad cy (z 0) (h 22) w4 ++ wS h cy σ.2.2.2.2)))) H := hP
  have hD : va_D A (wC h cy σ.1 ++ (wl ad cy (z 0) (h 20) σ.2.1 ++ (wl ad cy (z 0) (h 21) σ.2.2.1 ++ (wl ad cy (z 0) (h 22) w4 ++ wS h cy σ.2.2.2.2)))) := hD
  refine lv_aload_n hx hb dX4_faultIn_9 rfl (lv_at hl 0 rfl) ?_
  refine va_get (D := (dC, dI)) (ci := 4) (v := .ref (h 21)) (C := RX4) (T := TX4) (N := 19) hx hb hts in_X4 hown hK.1 hP 0 rfl rfl 7 (by decide) (hts _ q957) (fun _ h9 => h9) rfl dX4_faultIn_10 ?_
  have hU := hF.1
  have hF := hF.2
  refine lsEmpty2 (fp2 _ _ _ _) ⟨hx, hb, hr, hml, hown, hts, hlocks⟩ hK hP hU q1341 ⟨Nat.le_of_ble_eq_true rfl, Nat.le_of_ble_eq_true rfl⟩ hl.1 (Nat.le_of_ble_eq_true rfl) dX4_faultIn_13 ⟨Nat.le_of_ble_eq_true rfl, Nat.le_of_ble_eq_true rfl⟩ ?_
  refine lv_if_ne (tgt := 47) hx hb dX4_faultIn_18 (by decide) (fun cz => ?_) (fun cz => ?_)
  · have hF := hF.1 cz
    refine lv_iconst (v := 0) hx hb dX4_faultIn_47 (by decide) ?_
    refine W.widen (k := 12) (n := 180) (Nat.le_of_ble_eq_true rfl) (Nat.le_of_ble_eq_true rfl) ?_
    exact W.iret (v := 0) hx hb hr (fun t ht hW => ⟨⟨0, (σ.1, σ.2.1, σ.2.2.1, w4, σ.2.2.2.2), rfl, hF, by rw [ht]; exact hP, hD⟩, hS.F ht⟩) hS.2.2 dX4_faultIn_48
  · have hF := hF.2 cz
    refine lv_aload_n hx hb dX4_faultIn_21 rfl (lv_at hl 0 rfl) ?_
    refine va_get (D := (dC, dI)) (ci := 4) (v := .int (σ.1.1 2)) (C := RX4) (T := TX4) (N := 19) hx hb hts in_X4 hown hK.1 hP 0 rfl rfl 15 (by decide) (hts _ q965) (fun _ h9 => h9) rfl dX4_faultIn_22 ?_
    refine lv_aload_n hx hb dX4_faultIn_25 rfl (lv_at hl 0 rfl) ?_
    refine va_get (D := (dC, dI)) (ci := 4) (v := .ref (h 21)) (C := RX4) (T := TX4) (N := 19) hx hb hts in_X4 hown hK.1 hP 0 rfl rfl 7 (by decide) (hts _ q957) (fun _ h9 => h9) rfl dX4_faultIn_26 ?_
    refine lv_iconst (v := 0) hx hb dX4_faultIn_29 (by decide) ?_
    have hU := hF.1
    have hF := hF.2
    have hI := hF.1
    have hF := hF.2
    have hB30 : σ.2.2.1.2.2.2.2.1 (0 : Int32).toNatClampNeg < 128 := hU.2.1 _ (vp_in_lt hI)
    refine lsGet (fp2 _ _ _ _) ⟨hx, hb, hr, hml, hown, hts, hlocks⟩ hK hP hU hI q1390 ⟨Nat.le_of_ble_eq_true rfl, Nat.le_of_ble_eq_true rfl⟩ hl.1 (Nat.le_of_ble_eq_true rfl) dX4_faultIn_30 ⟨Nat.le_of_ble_eq_true rfl, Nat.le_of_ble_eq_true rfl⟩ ?_
    refine va_castE hx hb hown (hts _ q1376) (box_at hZ.1 hS (by have := hB30; omega)) dX4_faultIn_35 ?_
    refine czVi ⟨hx, hb, hr, hml, hown, hts, hlocks⟩ hZ.1 hS (by have := hB30; omega) (m_J6_intValue_8abf5 l (z 0) (z 1) ad (σ.2.2.1.2.2.2.2.1 (0 : Int32).toNatClampNeg) hB30) k_J6_intValue_8abf5 q1377 ⟨rfl, rfl⟩ ⟨Nat.le_of_ble_eq_true rfl, Nat.le_of_ble_eq_true rfl⟩ hl.1 (Nat.le_of_ble_eq_true rfl) dX4_faultIn_38 ⟨Nat.le_of_ble_eq_true rfl, Nat.le_of_ble_eq_true rfl⟩ (fun r9 hr9 => ?_)
    rw [hr9]
    refine cpSi (As := [.int (σ.1.1 2), .int (nI (σ.2.2.1.2.2.2.2.1 (0 : Int32).toNatClampNeg))]) (rest := []) ⟨hx, hb, hr, hml, hown, hts, hlocks⟩ (m_X4_has l (σ.1.1 2) (nI (σ.2.2.1.2.2.2.2.1 (0 : Int32).toNatClampNeg)) _ hF) k_X4_has q1194 ⟨rfl, rfl⟩ ⟨Nat.le_of_ble_eq_true rfl, Nat.le_of_ble_eq_true rfl⟩ hl.1 rfl rfl (Nat.le_of_ble_eq_true rfl) dX4_faultIn_41 ⟨Nat.le_of_ble_eq_true rfl, Nat.le_of_ble_eq_true rfl⟩ (fun r41 hF => ?_)
    refine lv_if_ne (tgt := 49) hx hb dX4_faultIn_44 (by decide) (fun cz => ?_) (fun cz => ?_)
    · have hF := hF.1 cz
      refine lv_aload_n hx hb dX4_faultIn_49 rfl (lv_at hl 0 rfl) ?_
      refine va_get (D := (dC, dI)) (ci := 4) (v := .ref (h 21)) (C := RX4) (T := TX4) (N := 19) hx hb hts in_X4 hown hK.1 hP 0 rfl rfl 7 (by decide) (hts _ q957) (fun _ h9 => h9) rfl dX4_faultIn_50 ?_
      have hU := hF.1
      have hF := hF.2
      refine lsSize (fp2 _ _ _ _) ⟨hx, hb, hr, hml, hown, hts, hlocks⟩ hK hP hU q1350 ⟨Nat.le_of_ble_eq_true rfl, Nat.le_of_ble_eq_true rfl⟩ hl.1 (Nat.le_of_ble_eq_true rfl) dX4_faultIn_53 ⟨Nat.le_of_ble_eq_true rfl, Nat.le_of_ble_eq_true rfl⟩ ?_
      refine lv_iconst (v := 1) hx hb dX4_faultIn_58 (by decide) ?_
      refine lv_icmp_ne (tgt := 64) hx hb dX4_faultIn_59 (by decide) (fun cz => ?_) (fun cz => ?_)
      · have hF := hF.1 cz
        refine lv_aload_n hx hb dX4_faultIn_64 rfl (lv_at hl 0 rfl) ?_
        refine va_get (D := (dC, dI)) (ci := 4) (v := .int (σ.1.1 2)) (C := RX4) (T := TX4) (N := 19) hx hb hts in_X4 hown hK.1 hP 0 rfl rfl 15 (by decide) (hts _ q965) (fun _ h9 => h9) rfl dX4_faultIn_65 ?_
        refine lv_istore_n (lv' := [(1, .int (σ.1.1 2)), (0, .ref (h 0))]) hx hb dX4_faultIn_68 rfl hl (by decide) rfl (fun ls hl => ?_)
        refine lv_iconst (v := 1) hx hb dX4_faultIn_69 (by decide) ?_
        refine lv_istore_n (lv' := [(2, .int 1), (1, .int (σ.1.1 2)), (0, .ref (h 0))]) hx hb dX4_faultIn_70 rfl hl (by decide) rfl (fun ls hl => ?_)
        refine W.widen (k := 0 + w4.2.2.2.2.2) (n := 0 + 15 * w4.2.2.2.2.2) (Nat.le_add_right _ _) (Nat.le_add_right _ _) ?_
        have hX71 : ∀ (s_158 : FX), (fun (s_158 : FX) => (okL s_158.2.2.2.1 ∧ (P (-1) s_158))) s_158 → ∀ (H : Heap) (locs : List Loc), va_P (dC, dI) classes (wC h cy s_158.1 ++ (wl ad cy (z 0) (h 20) s_158.2.1 ++ (wl ad cy (z 0) (h 21) s_158.2.2.1 ++ (wl ad cy (z 0) (h 22) s_158.2.2.2.1 ++ wS h cy s_158.2.2.2.2)))) H → va_D A (wC h cy s_158.1 ++ (wl ad cy (z 0) (h 20) s_158.2.1 ++ (wl ad cy (z 0) (h 21) s_158.2.2.1 ++ (wl ad cy (z 0) (h 22) s_158.2.2.2.1 ++ wS h cy s_158.2.2.2.2)))) → va_S A s.heap H locs → ∀ (ls : Array Slot), lv_has ls 4 [] → W p l e ({ frames := 7, cells := 12, slots := 180, locals := 226 } : Room) s m ([.ref (h 0)] : List Value).toArray below meth c H locs (0 + s_158.2.2.2.1.2.2.2.2.2) (0 + 15 * s_158.2.2.2.1.2.2.2.2.2) (MQ below (va_Qi (fun r u => P r u) (fun (u : FX) t => va_P (dC, dI) classes (wC h cy u.1 ++ (wl ad cy (z 0) (h 20) u.2.1 ++ (wl ad cy (z 0) (h 21) u.2.2.1 ++ (wl ad cy (z 0) (h 22) u.2.2.2.1 ++ wS h cy u.2.2.2.2)))) t.heap ∧ va_D A (wC h cy u.1 ++ (wl ad cy (z 0) (h 20) u.2.1 ++ (wl ad cy (z 0) (h 21) u.2.2.1 ++ (wl ad cy (z 0) (h 22) u.2.2.2.1 ++ wS h cy u.2.2.2.2))))) A) ([.ref (h 0)] : List Value).toArray s 12 180 A) (F0 m 158 ls []) := by
          intro s_158 hF H locs hP hD hS ls hl
          have hO9 := hF.1
          have hF := hF.2
          refine lv_iconst (v := (-1)) hx hb dX4_faultIn_158 (by decide) ?_
          refine W.widen (k := 12) (n := 180) (by have := (show okL s_158.2.2.2.1 from hO9).1; omega) (by have := (show okL s_158.2.2.2.1 from hO9).1; omega) ?_
          exact W.iret (v := (-1)) hx hb hr (fun t ht hW => ⟨⟨(-1), s_158, rfl, hF, by rw [ht]; exact hP, hD⟩, hS.F ht⟩) hS.2.2 dX4_faultIn_159
        have hL71 : ∀ (K71 : FX → Prop), (∀ (s_158 : FX), K71 s_158 → ∀ (H : Heap) (locs : List Loc), va_P (dC, dI) classes (wC h cy s_158.1 ++ (wl ad cy (z 0) (h 20) s_158.2.1 ++ (wl ad cy (z 0) (h 21) s_158.2.2.1 ++ (wl ad cy (z 0) (h 22) s_158.2.2.2.1 ++ wS h cy s_158.2.2.2.2)))) H → va_D A (wC h cy s_158.1 ++ (wl ad cy (z 0) (h 20) s_158.2.1 ++ (wl ad cy (z 0) (h 21) s_158.2.2.1 ++ (wl ad cy (z 0) (h 22) s_158.2.2.2.1 ++ wS h cy s_158.2.2.2.2)))) → va_S A s.heap H locs → ∀ (ls : Array Slot), lv_has ls 4 [] → W p l e ({ frames := 7, cells := 12, slots := 180, locals := 226 } : Room) s m ([.ref (h 0)] : List Value).toArray below meth c H locs (0 + s_158.2.2.2.1.2.2.2.2.2) (0 + 15 * s_158.2.2.2.1.2.2.2.2.2) (MQ below (va_Qi (fun r u => P r u) (fun (u : FX) t => va_P (dC, dI) classes (wC h cy u.1 ++ (wl ad cy (z 0) (h 20) u.2.1 ++ (wl ad cy (z 0) (h 21) u.2.2.1 ++ (wl ad cy (z 0) (h 22) u.2.2.2.1 ++ wS h cy u.2.2.2.2)))) t.heap ∧ va_D A (wC h cy u.1 ++ (wl ad cy (z 0) (h 20) u.2.1 ++ (wl ad cy (z 0) (h 21) u.2.2.1 ++ (wl ad cy (z 0) (h 22) u.2.2.2.1 ++ wS h cy u.2.2.2.2))))) A) ([.ref (h 0)] : List Value).toArray s 12 180 A) (F0 m 158 ls [])) → ∀ (nn : Nat), ∀ (v2_71 : Int32), ∀ (v1_71 : Int32), ∀ (s_71 : FX), wp_X4_faultIn_L71 fu P K71 nn v2_71 v1_71 s_71 → ∀ (H : Heap) (locs : List Loc), va_P (dC, dI) classes (wC h cy s_71.1 ++ (wl ad cy (z 0) (h 20) s_71.2.1 ++ (wl ad cy (z 0) (h 21) s_71.2.2.1 ++ (wl ad cy (z 0) (h 22) s_71.2.2.2.1 ++ wS h cy s_71.2.2.2.2)))) H → va_D A (wC h cy s_71.1 ++ (wl ad cy (z 0) (h 20) s_71.2.1 ++ (wl ad cy (z 0) (h 21) s_71.2.2.1 ++ (wl ad cy (z 0) (h 22) s_71.2.2.2.1 ++ wS h cy s_71.2.2.2.2)))) → va_S A s.heap H locs → ∀ (ls : Array Slot), lv_has ls 4 [(2, .int v2_71), (1, .int v1_71), (0, .ref (h 0))] → W p l e ({ frames := 7, cells := 12, slots := 180, locals := 226 } : Room) s m ([.ref (h 0)] : List Value).toArray below meth c H locs (0 + s_71.2.2.2.1.2.2.2.2.2) (0 + 15 * s_71.2.2.2.1.2.2.2.2.2) (MQ below (va_Qi (fun r u => P r u) (fun (u : FX) t => va_P (dC, dI) classes (wC h cy u.1 ++ (wl ad cy (z 0) (h 20) u.2.1 ++ (wl ad cy (z 0) (h 21) u.2.2.1 ++ (wl ad cy (z 0) (h 22) u.2.2.2.1 ++ wS h cy u.2.2.2.2)))) t.heap ∧ va_D A (wC h cy u.1 ++ (wl ad cy (z 0) (h 20) u.2.1 ++ (wl ad cy (z 0) (h 21) u.2.2.1 ++ (wl ad cy (z 0) (h 22) u.2.2.2.1 ++ wS h cy u.2.2.2.2))))) A) ([.ref (h 0)] : List Value).toArray s 12 180 A) (F0 m 71 ls []) := by
          intro K71 hX71 nn
          induction nn with
          | zero =>
            intro v2_71 v1_71 s_71 hF
            exact hF.elim
          | succ nn ih =>
            intro v2_71 v1_71 s_71 hF H locs hP hD hS ls hl
            obtain ⟨rec71, hrec⟩ : ∃ z : Int32 → Int32 → FX → Prop, z = wp_X4_faultIn_L71 fu P K71 nn := ⟨_, rfl⟩
            have hF : wp_X4_faultIn_B71 fu P K71 rec71 v2_71 v1_71 s_71 := by rw [hrec]; exact hF
            rw [← hrec] at ih
            clear hrec
            unfold wp_X4_faultIn_B71 at hF
            have hO9 := hF.1
            have hF := hF.2
            refine lv_iload_n hx hb dX4_faultIn_71 rfl (lv_at hl 0 rfl) ?_
            refine lv_aload_n hx hb dX4_faultIn_72 rfl (lv_at hl 2 rfl) ?_
            refine va_get (D := (dC, dI)) (ci := 4) (v := .ref (h 21)) (C := RX4) (T := TX4) (N := 19) hx hb hts in_X4 hown hK.1 hP 0 rfl rfl 7 (by decide) (hts _ q957) (fun _ h9 => h9) rfl dX4_faultIn_73 ?_
            have hU := hF.1
            have hF := hF.2
            refine lsSize (fp2 _ _ _ _) ⟨hx, hb, hr, hml, hown, hts, hlocks⟩ hK hP hU q1350 ⟨Nat.le_of_ble_eq_true rfl, Nat.le_of_ble_eq_true rfl⟩ hl.1 (Nat.le_of_ble_eq_true rfl) dX4_faultIn_76 ⟨by have := (show okL s_71.2.2.2.1 from hO9).1; show _ + s_71.2.2.2.1.2.2.2.2.2 ≤ 12; omega, by have := (show okL s_71.2.2.2.1 from hO9).1; show _ + 15 * s_71.2.2.2.1.2.2.2.2.2 ≤ 180; omega⟩ ?_
            refine lv_icmp_ge (tgt := 158) hx hb dX4_faultIn_81 (by decide) (fun cz => ?_) (fun cz => ?_)
            · have hF := hF.1 cz
              exact hX71 s_71 hF _ _ hP hD hS _ (lv_sub hl [] rfl)
            · have hF := hF.2 cz
              refine lv_aload_n hx hb dX4_faultIn_84 rfl (lv_at hl 2 rfl) ?_
              refine lv_iload_n hx hb dX4_faultIn_85 rfl (lv_at hl 1 rfl) ?_
              refine lv_aload_n hx hb dX4_faultIn_86 rfl (lv_at hl 2 rfl) ?_
              refine va_get (D := (dC, dI)) (ci := 4) (v := .ref (h 21)) (C := RX4) (T := TX4) (N := 19) hx hb hts in_X4 hown hK.1 hP 0 rfl rfl 7 (by decide) (hts _ q957) (fun _ h9 => h9) rfl dX4_faultIn_87 ?_
              refine lv_iload_n hx hb dX4_faultIn_90 rfl (lv_at hl 0 rfl) ?_
              refine lv_iconst (v := 1) hx hb dX4_faultIn_91 (by decide) ?_
              refine lv_isub hx hb dX4_faultIn_92 ?_
              have hU := hF.1
              have hF := hF.2
              have hI := hF.1
              have hF := hF.2
              have hB93 : s_71.2.2.1.2.2.2.2.1 (v2_71 - 1).toNatClampNeg < 128 := hU.2.1 _ (vp_in_lt hI)
              refine lsGet (fp2 _ _ _ _) ⟨hx, hb, hr, hml, hown, hts, hlocks⟩ hK hP hU hI q1390 ⟨Nat.le_of_ble_eq_true rfl, Nat.le_of_ble_eq_true rfl⟩ hl.1 (Nat.le_of_ble_eq_true rfl) dX4_faultIn_93 ⟨by have := (show okL s_71.2.2.2.1 from hO9).1; show _ + s_71.2.2.2.1.2.2.2.2.2 ≤ 12; omega, by have := (show okL s_71.2.2.2.1 from hO9).1; show _ + 15 * s_71.2.2.2.1.2.2.2.2.2 ≤ 180; omega⟩ ?_
              refine va_castE hx hb hown (hts _ q1376) (box_at hZ.1 hS (by have := hB93; omega)) dX4_faultIn_98 ?_
              refine czVi ⟨hx, hb, hr, hml, hown, hts, hlocks⟩ hZ.1 hS (by have := hB93; omega) (m_J6_intValue_8abf5 l (z 0) (z 1) ad (s_71.2.2.1.2.2.2.2.1 (v2_71 - 1).toNatClampNeg) hB93) k_J6_intValue_8abf5 q1377 ⟨rfl, rfl⟩ ⟨Nat.le_of_ble_eq_true rfl, Nat.le_of_ble_eq_true rfl⟩ hl.1 (Nat.le_of_ble_eq_true rfl) dX4_faultIn_101 ⟨by have := (show okL s_71.2.2.2.1 from hO9).1; show _ + s_71.2.2.2.1.2.2.2.2.2 ≤ 12; omega, by have := (show okL s_71.2.2.2.1 from hO9).1; show _ + 15 * s_71.2.2.2.1.2.2.2.2.2 ≤ 180; omega⟩ (fun r9 hr9 => ?_)
              rw [hr9]
              refine lv_aload_n hx hb dX4_faultIn_104 rfl (lv_at hl 2 rfl) ?_
              refine va_get (D := (dC, dI)) (ci := 4) (v := .ref (h 21)) (C := RX4) (T := TX4) (N := 19) hx hb hts in_X4 hown hK.1 hP 0 rfl rfl 7 (by decide) (hts _ q957) (fun _ h9 => h9) rfl dX4_faultIn_105 ?_
              refine lv_iload_n hx hb dX4_faultIn_108 rfl (lv_at hl 0 rfl) ?_
              have hU := hF.1
              have hF := hF.2
              have hI := hF.1
              have hF := hF.2
              have hB109 : s_71.2.2.1.2.2.2.2.1 v2_71.toNatClampNeg < 128 := hU.2.1 _ (vp_in_lt hI)
              refine lsGet (fp2 _ _ _ _) ⟨hx, hb, hr, hml, hown, hts, hlocks⟩ hK hP hU hI q1390 ⟨Nat.le_of_ble_eq_true rfl, Nat.le_of_ble_eq_true rfl⟩ hl.1 (Nat.le_of_ble_eq_true rfl) dX4_faultIn_109 ⟨by have := (show okL s_71.2.2.2.1 from hO9).1; show _ + s_71.2.2.2.1.2.2.2.2.2 ≤ 12; omega, by have := (show okL s_71.2.2.2.1 from hO9).1; show _ + 15 * s_71.2.2.2.1.2.2.2.2.2 ≤ 180; omega⟩ ?_
              refine va_castE hx hb hown (hts _ q1376) (box_at hZ.1 hS (by have := hB109; omega)) dX4_faultIn_114 ?_
              refine czVi ⟨hx, hb, hr, hml, hown, hts, hlocks⟩ hZ.1 hS (by have := hB109; omega) (m_J6_intValue_8abf5 l (z 0) (z 1) ad (s_71.2.2.1.2.2.2.2.1 v2_71.toNatClampNeg) hB109) k_J6_intValue_8abf5 q1377 ⟨rfl, rfl⟩ ⟨Nat.le_of_ble_eq_true rfl, Nat.le_of_ble_eq_true rfl⟩ hl.1 (Nat.le_of_ble_eq_true rfl) dX4_faultIn_117 ⟨by have := (show okL s_71.2.2.2.1 from hO9).1; show _ + s_71.2.2.2.1.2.2.2.2.2 ≤ 12; omega, by have := (show okL s_71.2.2.2.1 from hO9).1; show _ + 15 * s_71.2.2.2.1.2.2.2.2.2 ≤ 180; omega⟩ (fun r9 hr9 => ?_)
              rw [hr9]
              have hPc := fw_get (fp0 _ _) hP
              refine cpVi (q0 := 0) (As := [.int v1_71, .int (nI (s_71.2.2.1.2.2.2.2.1 (v2_71 - 1).toNatClampNeg)), .int (nI (s_71.2.2.1.2.2.2.2.1 v2_71.toNatClampNeg))]) (rest := []) ⟨hx, hb, hr, hml, hown, hts, hlocks⟩ hK hPc rfl rfl (m_X4_jumpOf l dC dI h cy fu s_71.1 v1_71 (nI (s_71.2.2.1.2.2.2.2.1 (v2_71 - 1).toNatClampNeg)) (nI (s_71.2.2.1.2.2.2.2.1 v2_71.toNatClampNeg)) _ hF) k_X4_jumpOf q1210 ⟨rfl, rfl⟩ ⟨Nat.le_of_ble_eq_true rfl, Nat.le_of_ble_eq_true rfl⟩ hl.1 rfl rfl (Nat.le_of_ble_eq_true rfl) dX4_faultIn_120 ⟨by have := (show okL s_71.2.2.2.1 from hO9).1; show _ + s_71.2.2.2.1.2.2.2.2.2 ≤ 12; omega, by have := (show okL s_71.2.2.2.1 from hO9).1; show _ + 15 * s_71.2.2.2.1.2.2.2.2.2 ≤ 180; omega⟩ (fun r120 hF => ?_)
              refine lv_istore_n (lv' := [(3, .int r120), (2, .int v2_71), (1, .int v1_71), (0, .ref (h 0))]) hx hb dX4_faultIn_123 rfl hl (by decide) rfl (fun ls hl => ?_)
              refine lv_iload_n hx hb dX4_faultIn_124 rfl (lv_at hl 0 rfl) ?_
              refine lv_iconst (v := (-1)) hx hb dX4_faultIn_125 (by decide) ?_
              refine lv_icmp_ne (tgt := 131) hx hb dX4_faultIn_126 (by decide) (fun cz => ?_) (fun cz => ?_)
              · have hF := hF.1 cz
                refine lv_aload_n hx hb dX4_faultIn_131 rfl (lv_at hl 3 rfl) ?_
                refine va_get (D := (dC, dI)) (ci := 4) (v := .ref (h 22)) (C := RX4) (T := TX4) (N := 19) hx hb hts in_X4 hown hK.1 hP 0 rfl rfl 8 (by decide) (hts _ q958) (fun _ h9 => h9) rfl dX4_faultIn_132 ?_
                refine lv_iload_n hx hb dX4_faultIn_135 rfl (lv_at hl 0 rfl) ?_
                have hI := hF.1
                have hF := hF.2
                have hB136 : r120.toNatClampNeg < 128 := vp_in_lt hI
                refine W.eq (g2 := F0 m 136 ls [.int (nI r120.toNatClampNeg), .ref (h 22)]) (by rw [nI_of_in hI (by decide)]) ?_
                refine czSq (As := [.int (nI r120.toNatClampNeg)]) (rest := [.ref (h 22)]) ⟨hx, hb, hr, hml, hown, hts, hlocks⟩ hZ.1 hS (m_J6_valueOf_2dffe l (z 0) (z 1) ad _ hB136) k_J6_valueOf_2dffe q1234 ⟨rfl, rfl⟩ ⟨Nat.le_of_ble_eq_true rfl, Nat.le_of_ble_eq_true rfl⟩ hl.1 rfl rfl (Nat.le_of_ble_eq_true rfl) dX4_faultIn_136 ⟨by have := (show okL s_71.2.2.2.1 from hO9).1; show _ + s_71.2.2.2.1.2.2.2.2.2 ≤ 12; omega, by have := (show okL s_71.2.2.2.1 from hO9).1; show _ + 15 * s_71.2.2.2.1.2.2.2.2.2 ≤ 180; omega⟩ ?_
                have hU := hF.1
                have hF := hF.2
                have hN := hF.1
                have hF := hF.2
                refine lsAdd (k := r120.toNatClampNeg) (fp3 _ _ _ _ _) ⟨hx, hb, hr, hml, hown, hts, hlocks⟩ hK hP hD hZ.1 hS hA hU hN hB136 q1255 ⟨Nat.le_of_ble_eq_true rfl, Nat.le_of_ble_eq_true rfl⟩ hl.1 (Nat.le_of_ble_eq_true rfl) dX4_faultIn_139 ⟨by have := hN; show _ + s_71.2.2.2.1.2.2.2.2.2 + 1 ≤ 12; omega, by have := hN; show _ + 15 * s_71.2.2.2.1.2.2.2.2.2 + 15 ≤ 180; omega⟩ (fun w139 hw1 hw2 hw3 H1 locs hP1 hD1 hS => ?_)
                have hF := hF w139 hw1 hw2 hw3
                refine W.widen (k := 0 + w139.2.2.2.2.2) (n := 0 + 15 * w139.2.2.2.2.2) (by rw [hw2]; omega) (by rw [hw2]; omega) ?_
                have hO9 := hw1
                have hP := va_P.perm (fp3 _ _ _ _ _).symm hP1
                have hD := va_D.perm (fp3 _ _ _ _ _).symm hD1
                generalize H1 = H at hP hS ⊢
                have hP : va_P (dC, dI) classes (wC h cy s_71.1 ++ (wl ad cy (z 0) (h 20) s_71.2.1 ++ (wl ad cy (z 0) (h 21) s_71.2.2.1 ++ (wl ad cy (z 0) (h 22) w139 ++ wS h cy s_71.2.2.2.2)))) H := hP
                have hD : va_D A (wC h cy s_71.1 ++ (wl ad cy (z 0) (h 20) s_71.2.1 ++ (wl ad cy (z 0) (h 21) s_71.2.2.1 ++ (wl ad cy (z 0) (h 22) w139 ++ wS h cy s_71.2.2.2.2)))) := hD
                refine lv_pop hx hb dX4_faultIn_144 rfl ?_
                refine lv_aload_n hx hb dX4_faultIn_145 rfl (lv_at hl 3 rfl) ?_
                refine lv_iload_n hx hb dX4_faultIn_146 rfl (lv_at hl 2 rfl) ?_
                refine lv_iload_n hx hb dX4_faultIn_147 rfl (lv_at hl 0 rfl) ?_
                have hPc := fw_get (fp0 _ _) hP
                refine cpVi (q0 := 0) (As := [.int v1_71, .int r120]) (rest := []) ⟨hx, hb, hr, hml, hown, hts, hlocks⟩ hK hPc rfl rfl (m_X4_behind l dC dI h cy s_71.1 v1_71 r120 _ hF) k_X4_behind q1230 ⟨rfl, rfl⟩ ⟨Nat.le_of_ble_eq_true rfl, Nat.le_of_ble_eq_true rfl⟩ hl.1 rfl rfl (Nat.le_of_ble_eq_true rfl) dX4_faultIn_148 ⟨by have := (show okL w139 from hO9).1; show _ + w139.2.2.2.2.2 ≤ 12; omega, by have := (show okL w139 from hO9).1; show _ + 15 * w139.2.2.2.2.2 ≤ 180; omega⟩ (fun r148 hF => ?_)
                refine lv_istore_n (lv' := [(1, .int r148), (3, .int r120), (2, .int v2_71), (0, .ref (h 0))]) hx hb dX4_faultIn_151 rfl hl (by decide) rfl (fun ls hl => ?_)
                refine lv_iinc (v := v2_71 + 1) (lv' := [(2, .int (v2_71 + 1)), (1, .int r148), (3, .int r120), (0, .ref (h 0))]) hx hb dX4_faultIn_152 hl (k := 2) rfl (by rfl) (by decide) rfl (fun ls hl => ?_)
                refine lv_goto (tgt := 71) hx hb dX4_faultIn_155 (by decide) ?_
                exact ih (v2_71 + 1) r148 (s_71.1, s_71.2.1, s_71.2.2.1, w139, s_71.2.2.2.2) hF _ _ hP hD hS _ (lv_sub hl [0, 1, 3] rfl)
              · have hF := hF.2 cz
                refine lv_iload_n hx hb dX4_faultIn_129 rfl (lv_at hl 1 rfl) ?_
                refine W.widen (k := 12) (n := 180) (by have := (show okL s_71.2.2.2.1 from hO9).1; omega) (by have := (show okL s_71.2.2.2.1 from hO9).1; omega) ?_
                exact W.iret (v := v2_71) hx hb hr (fun t ht hW => ⟨⟨v2_71, s_71, rfl, hF, by rw [ht]; exact hP, hD⟩, hS.F ht⟩) hS.2.2 dX4_faultIn_130
        exact hL71 _ hX71 fu 1 (σ.1.1 2) (σ.1, σ.2.1, σ.2.2.1, w4, σ.2.2.2.2) hF _ _ hP hD hS _ (lv_sub hl [0, 1, 2] rfl)
      · have hF := hF.2 cz
        refine lv_iconst (v := 1) hx hb dX4_faultIn_62 (by decide) ?_
        refine W.widen (k := 12) (n := 180) (Nat.le_of_ble_eq_true rfl) (Nat.le_of_ble_eq_true rfl) ?_
        exact W.iret (v := 1) hx hb hr (fun t ht hW => ⟨⟨1, (σ.1, σ.2.1, σ.2.2.1, w4, σ.2.2.2.2), rfl, hF, by rw [ht]; exact hP, hD⟩, hS.F ht⟩) hS.2.2 dX4_faultIn_63
    · have hF := hF.2 cz
      refine lv_iconst (v := 0) hx hb dX4_faultIn_47 (by decide) ?_
      refine W.widen (k := 12) (n := 180) (Nat.le_of_ble_eq_true rfl) (Nat.le_of_ble_eq_true rfl) ?_
      exact W.iret (v := 0) hx hb hr (fun t ht hW => ⟨⟨0, (σ.1, σ.2.1, σ.2.2.1, w4, σ.2.2.2.2), rfl, hF, by rw [ht]; exact hP, hD⟩, hS.F ht⟩) hS.2.2 dX4_faultIn_48
theorem dX4_faultAt_0 : decode cX4_faultAt 0 = .ok (.aload_n 0, 1) := by decide +kernel
theorem dX4_faultAt_1 : decode cX4_faultAt 1 = .ok (.invokevirtual 256, 3) := by decide +kernel
theorem dX4_faultAt_4 : decode cX4_faultAt 4 = .ok (.istore_n 1, 1) := by decide +kernel
theorem dX4_faultAt_5 : decode cX4_faultAt 5 = .ok (.aload_n 0, 1) := by decide +kernel
theorem dX4_faultAt_6 : decode cX4_faultAt 6 = .ok (.iload_n 1, 1) := by decide +kernel
theorem dX4_faultAt_7 : decode cX4_faultAt 7 = .ok (.iconst (-1), 1) := by decide +kernel
theorem dX4_faultAt_8 : decode cX4_faultAt 8 = .ok (.if_icmp .ne 7, 3) := by decide +kernel
theorem dX4_faultAt_11 : decode cX4_faultAt 11 = .ok (.iconst 1, 1) := by decide +kernel
theorem dX4_faultAt_12 : decode cX4_faultAt 12 = .ok (.goto 4, 3) := by decide +kernel
theorem dX4_faultAt_15 : decode cX4_faultAt 15 = .ok (.iconst 0, 1) := by decide +kernel
theorem dX4_faultAt_16 : decode cX4_faultAt 16 = .ok (.invokevirtual 100, 3) := by decide +kernel
theorem dX4_faultAt_19 : decode cX4_faultAt 19 = .ok (.ifCond .eq 7, 3) := by decide +kernel
theorem dX4_faultAt_22 : decode cX4_faultAt 22 = .ok (.iconst 0, 1) := by decide +kernel
theorem dX4_faultAt_23 : decode cX4_faultAt 23 = .ok (.goto 4, 3) := by decide +kernel
theorem dX4_faultAt_26 : decode cX4_faultAt 26 = .ok (.iload_n 1, 1) := by decide +kernel
theorem dX4_faultAt_27 : decode cX4_faultAt 27 = .ok (.ireturn, 1) := by decide +kernel
def wp_X4_faultAt_J16 (P : Int32 → FX → Prop) (r1 : Int32) (s1 : FX) (t1_16 : Int32) : Prop := (wp_X4_fails s1.1 t1_16 (fun r16 s16 => ((r16 = 0 → (P r1 (s16, s1.2.1, s1.2.2.1, s1.2.2.2.1, s1.2.2.2.2))) ∧ (¬ r16 = 0 → (P 0 (s16, s1.2.1, s1.2.2.1, s1.2.2.2.1, s1.2.2.2.2))))))
def wp_X4_faultAt (fu : Nat) (σ : FX) (P : Int32 → FX → Prop) : Prop := (wp_X4_faultIn fu σ (fun r1 s1 => ((¬ r1 = (-1) → (wp_X4_faultAt_J16 P r1 s1 0)) ∧ (r1 = (-1) → (wp_X4_faultAt_J16 P r1 s1 1)))))
theorem k_X4_faultAt : KV RX4 yX4_faultAt cX4_faultAt 2 (some .int) 0 := ⟨q1811, q1812, q5, q1813, by decide +kernel⟩
set_option maxHeartbeats 4000000 in
set_option maxRecDepth 100000 in
theorem m_X4_faultAt (l : Launch) (dC : Nat → ClassId) (dI : Nat → Nat → Nat) (h : Nat → Nat) (cy : Nat → ClassId) (z ad : Nat → Nat) (sz : Nat) (fu : Nat) (σ : FX) (P : Int32 → FX → Prop) (hF : wp_X4_faultAt fu σ P) : Met l yX4_faultAt (ws_ yX4_faultAt cX4_faultAt 2 (some .int)) ({ frames := 8, cells := 12, slots := 180, locals := 249 } : Room) (va_Pc [.ref (h 0)] (PcF dC dI cy z ad (wC h cy σ.1 ++ (wl ad cy (z 0) (h 20) σ.2.1 ++ (wl ad cy (z 0) (h 21) σ.2.2.1 ++ (wl ad cy (z 0) (h 22) σ.2.2.2.1 ++ wS h cy σ.2.2.2.2)))) sz)) (va_Qi (fun r u => P r u) (fun (u : FX) t => va_P (dC, dI) classes (wC h cy u.1 ++ (wl ad cy (z 0) (h 20) u.2.1 ++ (wl ad cy (z 0) (h 21) u.2.2.1 ++ (wl ad cy (z 0) (h 22) u.2.2.2.1 ++ wS h cy u.2.2.2.2)))) t.heap ∧ va_D (va_A (wC h cy σ.1 ++ (wl ad cy (z 0) (h 20) σ.2.1 ++ (wl ad cy (z 0) (h 21) σ.2.2.1 ++ (wl ad cy (z 0) (h 22) σ.2.2.2.1 ++ wS h cy σ.2.2.2.2)))) sz) (wC h cy u.1 ++ (wl ad cy (z 0) (h 20) u.2.1 ++ (wl ad cy (z 0) (h 21) u.2.2.1 ++ (wl ad cy (z 0) (h 22) u.2.2.2.1 ++ wS h cy u.2.2.2.2))))) (va_A (wC h cy σ.1 ++ (wl ad cy (z 0) (h 20) σ.2.1 ++ (wl ad cy (z 0) (h 21) σ.2.2.1 ++ (wl ad cy (z 0) (h 22) σ.2.2.2.1 ++ wS h cy σ.2.2.2.2)))) sz)) 12 180 (va_A (wC h cy σ.1 ++ (wl ad cy (z 0) (h 20) σ.2.1 ++ (wl ad cy (z 0) (h 21) σ.2.2.1 ++ (wl ad cy (z 0) (h 22) σ.2.2.2.1 ++ wS h cy σ.2.2.2.2)))) sz) := by
  refine Met.ofCx (own := RX4) (by decide) rfl (Nat.le_of_ble_eq_true rfl) ?_
  intro p e s m below meth c hC hv ls hl
  obtain ⟨hx, hb, hr, hml, hown, hts, hlocks⟩ := hC
  have hl : lv_has ls 2 [(0, .ref (h 0))] := hl
  obtain ⟨hsz, hP, hK, hD0, hZ, hvk⟩ := hv
  subst hsz
  have hD := hD0.self (sz := s.heap.size)
  generalize hAe : va_A (wC h cy σ.1 ++ (wl ad cy (z 0) (h 20) σ.2.1 ++ (wl ad cy (z 0) (h 21) σ.2.2.1 ++ (wl ad cy (z 0) (h 22) σ.2.2.2.1 ++ wS h cy σ.2.2.2.2)))) s.heap.size = A at hD hZ ⊢
  have hA : ∀ q : Nat, s.heap.size ≤ q → A q := fun q h => by rw [← hAe]; exact Or.inr h
  have hS : va_S A s.heap s.heap [] := va_S.rf
  clear hAe
  unfold wp_X4_faultAt at hF
  refine lv_aload_n hx hb dX4_faultAt_0 rfl (lv_at hl 0 rfl) ?_
  refine cfVi (x := wC h cy σ.1 ++ (wl ad cy (z 0) (h 20) σ.2.1 ++ (wl ad cy (z 0) (h 21) σ.2.2.1 ++ (wl ad cy (z 0) (h 22) σ.2.2.2.1 ++ wS h cy σ.2.2.2.2)))) (fpN _) ⟨hx, hb, hr, hml, hown, hts, hlocks⟩ hK hP hD hZ hvk hS hA rfl (m_X4_faultIn l dC dI h cy z ad _ fu σ  _ hF) (As := []) (rest := []) k_X4_faultIn q1744 ⟨rfl, rfl⟩ ⟨Nat.le_of_ble_eq_true rfl, Nat.le_of_ble_eq_true rfl⟩ hl.1 rfl rfl (Nat.le_of_ble_eq_true rfl) dX4_faultAt_1 ⟨Nat.le_of_ble_eq_true rfl, Nat.le_of_ble_eq_true rfl⟩ (fun r1 s1 H1 locs hF hP1 hD1 hS => ?_)
  have hP := va_P.perm (fpN _).symm hP1
  have hD := va_D.perm (fpN _).symm hD1
  generalize H1 = H at hP hS ⊢
  have hP : va_P (dC, dI) classes (wC h cy s1.1 ++ (wl ad cy (z 0) (h 20) s1.2.1 ++ (wl ad cy (z 0) (h 21) s1.2.2.1 ++ (wl ad cy (z 0) (h 22) s1.2.2.2.1 ++ wS h cy s1.2.2.2.2)))) H := hP
  have hD : va_D A (wC h cy s1.1 ++ (wl ad cy (z 0) (h 20) s1.2.1 ++ (wl ad cy (z 0) (h 21) s1.2.2.1 ++ (wl ad cy (z 0) (h 22) s1.2.2.2.1 ++ wS h cy s1.2.2.2.2)))) := hD
  refine lv_istore_n (lv' := [(1, .int r1), (0, .ref (h 0))]) hx hb dX4_faultAt_4 rfl hl (by decide) rfl (fun ls hl => ?_)
  refine lv_aload_n hx hb dX4_faultAt_5 rfl (lv_at hl 1 rfl) ?_
  refine lv_iload_n hx hb dX4_faultAt_6 rfl (lv_at hl 0 rfl) ?_
  refine lv_iconst (v := (-1)) hx hb dX4_faultAt_7 (by decide) ?_
  have hJ16 : ∀ (t1_16 : Int32), wp_X4_faultAt_J16 P r1 s1 t1_16 → ∀ (H : Heap) (locs : List Loc), va_P (dC, dI) classes (wC h cy s1.1 ++ (wl ad cy (z 0) (h 20) s1.2.1 ++ (wl ad cy (z 0) (h 21) s1.2.2.1 ++ (wl ad cy (z 0) (h 22) s1.2.2.2.1 ++ wS h cy s1.2.2.2.2)))) H → va_D A (wC h cy s1.1 ++ (wl ad cy (z 0) (h 20) s1.2.1 ++ (wl ad cy (z 0) (h 21) s1.2.2.1 ++ (wl ad cy (z 0) (h 22) s1.2.2.2.1 ++ wS h cy s1.2.2.2.2)))) → va_S A s.heap H locs → ∀ (ls : Array Slot), lv_has ls 2 [(1, .int r1)] → W p l e ({ frames := 8, cells := 12, slots := 180, locals := 249 } : Room) s m ([.ref (h 0)] : List Value).toArray below meth c H locs 12 180 (MQ below (va_Qi (fun r u => P r u) (fun (u : FX) t => va_P (dC, dI) classes (wC h cy u.1 ++ (wl ad cy (z 0) (h 20) u.2.1 ++ (wl ad cy (z 0) (h 21) u.2.2.1 ++ (wl ad cy (z 0) (h 22) u.2.2.2.1 ++ wS h cy u.2.2.2.2)))) t.heap ∧ va_D A (wC h cy u.1 ++ (wl ad cy (z 0) (h 20) u.2.1 ++ (wl ad cy (z 0) (h 21) u.2.2.1 ++ (wl ad cy (z 0) (h 22) u.2.2.2.1 ++ wS h cy u.2.2.2.2))))) A) ([.ref (h 0)] : List Value).toArray s 12 180 A) (F0 m 16 ls [.int t1_16, .ref (h 0)]) := by
    intro t1_16 hF H locs hP hD hS ls hl
    unfold wp_X4_faultAt_J16 at hF
    have hPc := fw_get (fp0 _ _) hP
    have hDc := fw_getD (fp0 _ _) hD
    have hFc := fw_free (fp0 _ _) hD hS hA
    refine cwVi (q0 := 0) (As := [.int t1_16]) (rest := []) ⟨hx, hb, hr, hml, hown, hts, hlocks⟩ hK hPc hDc rfl rfl hS hFc (m_X4_fails l dC dI h cy _ s1.1 t1_16 _ hF) k_X4_fails q1102 ⟨rfl, rfl⟩ ⟨Nat.le_of_ble_eq_true rfl, Nat.le_of_ble_eq_true rfl⟩ hl.1 rfl rfl (Nat.le_of_ble_eq_true rfl) dX4_faultAt_16 ⟨Nat.le_of_ble_eq_true rfl, Nat.le_of_ble_eq_true rfl⟩ (fun r16 u H1 locs hF hP1 hD1 hk1 hS => ?_)
    obtain ⟨s16, rfl⟩ : ∃ z, z = u := ⟨_, rfl⟩
    obtain ⟨hP, hD⟩ := fw_join (fp0 _ _) hP hD hk1 hFc hP1 hD1
    generalize H1 = H at hP hS ⊢
    have hP : va_P (dC, dI) classes (wC h cy s16 ++ (wl ad cy (z 0) (h 20) s1.2.1 ++ (wl ad cy (z 0) (h 21) s1.2.2.1 ++ (wl ad cy (z 0) (h 22) s1.2.2.2.1 ++ wS h cy s1.2.2.2.2)))) H := hP
    have hD : va_D A (wC h cy s16 ++ (wl ad cy (z 0) (h 20) s1.2.1 ++ (wl ad cy (z 0) (h 21) s1.2.2.1 ++ (wl ad cy (z 0) (h 22) s1.2.2.2.1 ++ wS h cy s1.2.2.2.2)))) := hD
    refine lv_if_eq (tgt := 26) hx hb dX4_faultAt_19 (by decide) (fun cz => ?_) (fun cz => ?_)
    · have hF := hF.1 cz
      refine lv_iload_n hx hb dX4_faultAt_26 rfl (lv_at hl 0 rfl) ?_
      exact W.iret (v := r1) hx hb hr (fun t ht hW => ⟨⟨r1, (s16, s1.2.1, s1.2.2.1, s1.2.2.2.1, s1.2.2.2.2), rfl, hF, by rw [ht]; exact hP, hD⟩, hS.F ht⟩) hS.2.2 dX4_faultAt_27
    · have hF := hF.2 cz
      refine lv_iconst (v := 0) hx hb dX4_faultAt_22 (by decide) ?_
      refine lv_goto (tgt := 27) hx hb dX4_faultAt_23 (by decide) ?_
      exact W.iret (v := 0) hx hb hr (fun t ht hW => ⟨⟨0, (s16, s1.2.1, s1.2.2.1, s1.2.2.2.1, s1.2.2.2.2), rfl, hF, by rw [ht]; exact hP, hD⟩, hS.F ht⟩) hS.2.2 dX4_faultAt_27
  refine lv_icmp_ne (tgt := 15) hx hb dX4_faultAt_8 (by decide) (fun cz => ?_) (fun cz => ?_)
  · have hF := hF.1 cz
    refine lv_iconst (v := 0) hx hb dX4_faultAt_15 (by decide) ?_
    exact hJ16 0 hF _ _ hP hD hS _ (lv_sub hl [0] rfl)
  · have hF := hF.2 cz
    refine lv_iconst (v := 1) hx hb dX4_faultAt_11 (by decide) ?_
    refine lv_goto (tgt := 16) hx hb dX4_faultAt_12 (by decide) ?_
    exact hJ16 1 hF _ _ hP hD hS _ (lv_sub hl [0] rfl)
theorem dX4_play_0 : decode cX4_play 0 = .ok (.aload_n 0, 1) := by decide +kernel
theorem dX4_play_1 : decode cX4_play 1 = .ok (.aload_n 0, 1) := by decide +kernel
theorem dX4_play_2 : decode cX4_play 2 = .ok (.invokevirtual 256, 3) := by decide +kernel
theorem dX4_play_5 : decode cX4_play 5 = .ok (.iconst (-1), 1) := by decide +kernel
theorem dX4_play_6 : decode cX4_play 6 = .ok (.if_icmp .ne 7, 3) := by decide +kernel
theorem dX4_play_9 : decode cX4_play 9 = .ok (.iconst 0, 1) := by decide +kernel
theorem dX4_play_10 : decode cX4_play 10 = .ok (.goto 4, 3) := by decide +kernel
theorem dX4_play_13 : decode cX4_play 13 = .ok (.iconst 1, 1) := by decide +kernel
theorem dX4_play_14 : decode cX4_play 14 = .ok (.invokevirtual 100, 3) := by decide +kernel
theorem dX4_play_17 : decode cX4_play 17 = .ok (.ifCond .eq 5, 3) := by decide +kernel
theorem dX4_play_20 : decode cX4_play 20 = .ok (.iconst 0, 1) := by decide +kernel
theorem dX4_play_21 : decode cX4_play 21 = .ok (.ireturn, 1) := by decide +kernel
theorem dX4_play_22 : decode cX4_play 22 = .ok (.aload_n 0, 1) := by decide +kernel
theorem dX4_play_23 : decode cX4_play 23 = .ok (.getfield 38, 3) := by decide +kernel
theorem dX4_play_26 : decode cX4_play 26 = .ok (.invokeinterface 259 1, 5) := by decide +kernel
theorem dX4_play_31 : decode cX4_play 31 = .ok (.astore_n 1, 1) := by decide +kernel
theorem dX4_play_32 : decode cX4_play 32 = .ok (.aload_n 1, 1) := by decide +kernel
theorem dX4_play_33 : decode cX4_play 33 = .ok (.invokeinterface 263 1, 5) := by decide +kernel
theorem dX4_play_38 : decode cX4_play 38 = .ok (.ifCond .eq 25, 3) := by decide +kernel
theorem dX4_play_41 : decode cX4_play 41 = .ok (.aload_n 1, 1) := by decide +kernel
theorem dX4_play_42 : decode cX4_play 42 = .ok (.invokeinterface 268 1, 5) := by decide +kernel
theorem dX4_play_47 : decode cX4_play 47 = .ok (.checkcast 170, 3) := by decide +kernel
theorem dX4_play_50 : decode cX4_play 50 = .ok (.invokevirtual 206, 3) := by decide +kernel
theorem dX4_play_53 : decode cX4_play 53 = .ok (.istore_n 2, 1) := by decide +kernel
theorem dX4_play_54 : decode cX4_play 54 = .ok (.aload_n 0, 1) := by decide +kernel
theorem dX4_play_55 : decode cX4_play 55 = .ok (.iload_n 2, 1) := by decide +kernel
theorem dX4_play_56 : decode cX4_play 56 = .ok (.invokevirtual 185, 3) := by decide +kernel
theorem dX4_play_59 : decode cX4_play 59 = .ok (.pop, 1) := by decide +kernel
theorem dX4_play_60 : decode cX4_play 60 = .ok (.goto (-28), 3) := by decide +kernel
theorem dX4_play_63 : decode cX4_play 63 = .ok (.aload_n 0, 1) := by decide +kernel
theorem dX4_play_64 : decode cX4_play 64 = .ok (.getfield 35, 3) := by decide +kernel
theorem dX4_play_67 : decode cX4_play 67 = .ok (.invokeinterface 81 1, 5) := by decide +kernel
theorem dX4_play_72 : decode cX4_play 72 = .ok (.aload_n 0, 1) := by decide +kernel
theorem dX4_play_73 : decode cX4_play 73 = .ok (.getfield 38, 3) := by decide +kernel
theorem dX4_play_76 : decode cX4_play 76 = .ok (.invokeinterface 198 1, 5) := by decide +kernel
theorem dX4_play_81 : decode cX4_play 81 = .ok (.ireturn, 1) := by decide +kernel
def wp_X4_play_B32 (K32 : FX → Nat → Int32 → Int32 → Prop) (rec32 : FX → Nat → Int32 → Int32 → Prop) (s_32 : FX) (i_32 : Nat) (lr_32 : Int32) (mc_32 : Int32) : Prop := (okL s_32.2.1 ∧ (okL s_32.2.2.2.1 ∧ (i_32 ≤ s_32.2.2.2.1.2.2.2.2.2 ∧ (((isH i_32 (s_32.2.2.2.1.2.2.2.2.2)) = 0 → (K32 s_32 i_32 lr_32 mc_32)) ∧ (¬ (isH i_32 (s_32.2.2.2.1.2.2.2.2.2)) = 0 → (okL s_32.2.2.2.1 ∧ (i_32 < s_32.2.2.2.1.2.2.2.2.2 ∧ (mc_32 = s_32.2.2.2.1.2.2.2.1 ∧ (wp_X4_makes s_32 (nI (s_32.2.2.2.1.2.2.2.2.1 i_32)) (fun r56 s56 => (s56.2.1.2.2.2.2.2 = s_32.2.1.2.2.2.2.2 + 1 ∧ okL s56.2.1 ∧ (rec32 s56 (i_32 + 1) (nI i_32) mc_32))))))))))))
def wp_X4_play_L32 (K32 : FX → Nat → Int32 → Int32 → Prop) : Nat → FX → Nat → Int32 → Int32 → Prop
  | 0, _, _, _, _ => False
  | nn + 1, s_32, i_32, lr_32, mc_32 => wp_X4_play_B32 K32 (wp_X4_play_L32 K32 nn) s_32 i_32 lr_32 mc_32
def wp_X4_play_J14 (fu : Nat) (P : Int32 → FX → Prop) (s2 : FX) (t1_14 : Int32) : Prop := (wp_X4_fails s2.1 t1_14 (fun r14 s14 => ((r14 = 0 → (okL s2.2.2.2.1 ∧ (wp_X4_play_L32 (fun (s_63 : FX) (i_63 : Nat) (lr_63 : Int32) (mc_63 : Int32) => (okL s_63.2.1 ∧ (okL s_63.2.2.1 ∧ ∀ w67 : LST, okL w67 → w67.2.2.2.2.2 = 0 → (okL s_63.2.2.2.1 ∧ (P (nI s_63.2.2.2.1.2.2.2.2.2) (s_63.1, s_63.2.1, w67, s_63.2.2.2.1, s_63.2.2.2.2)))))) fu (s14, s2.2.1, s2.2.2.1, s2.2.2.2.1, s2.2.2.2.2) 0 (-1) s2.2.2.2.1.2.2.2.1))) ∧ (¬ r14 = 0 → (P 0 (s14, s2.2.1, s2.2.2.1, s2.2.2.2.1, s2.2.2.2.2))))))
def wp_X4_play (fu : Nat) (σ : FX) (P : Int32 → FX → Prop) : Prop := (wp_X4_faultIn fu σ (fun r2 s2 => ((¬ r2 = (-1) → (wp_X4_play_J14 fu P s2 1)) ∧ (r2 = (-1) → (wp_X4_play_J14 fu P s2 0)))))
theorem k_X4_play : KV RX4 yX4_play cX4_play 3 (some .int) 0 := ⟨q1741, q1742, q5, q1743, by decide +kernel⟩
set_option maxHeartbeats 4000000 in
set_option maxRecDepth 100000 in
theorem m_X4_play (l : Launch) (dC : Nat → ClassId) (dI : Nat → Nat → Nat) (h : Nat → Nat) (cy : Nat → ClassId) (z ad : Nat → Nat) (sz : Nat) (fu : Nat) (σ : FX) (P : Int32 → FX → Prop) (hF : wp_X4_play fu σ P) : Met l yX4_play (ws_ yX4_play cX4_play 3 (some .int)) ({ frames := 8, cells := 26, slots := 390, locals := 249 } : Room) (va_Pc [.ref (h 0)] (PcF dC dI cy z ad (wC h cy σ.1 ++ (wl ad cy (z 0) (h 20) σ.2.1 ++ (wl ad cy (z 0) (h 21) σ.2.2.1 ++ (wl ad cy (z 0) (h 22) σ.2.2.2.1 ++ wS h cy σ.2.2.2.2)))) sz)) (va_Qi (fun r u => P r u) (fun (u : FX) t => va_P (dC, dI) classes (wC h cy u.1 ++ (wl ad cy (z 0) (h 20) u.2.1 ++ (wl ad cy (z 0) (h 21) u.2.2.1 ++ (wl ad cy (z 0) (h 22) u.2.2.2.1 ++ wS h cy u.2.2.2.2)))) t.heap ∧ va_D (va_A (wC h cy σ.1 ++ (wl ad cy (z 0) (h 20) σ.2.1 ++ (wl ad cy (z 0) (h 21) σ.2.2.1 ++ (wl ad cy (z 0) (h 22) σ.2.2.2.1 ++ wS h cy σ.2.2.2.2)))) sz) (wC h cy u.1 ++ (wl ad cy (z 0) (h 20) u.2.1 ++ (wl ad cy (z 0) (h 21) u.2.2.1 ++ (wl ad cy (z 0) (h 22) u.2.2.2.1 ++ wS h cy u.2.2.2.2))))) (va_A (wC h cy σ.1 ++ (wl ad cy (z 0) (h 20) σ.2.1 ++ (wl ad cy (z 0) (h 21) σ.2.2.1 ++ (wl ad cy (z 0) (h 22) σ.2.2.2.1 ++ wS h cy σ.2.2.2.2)))) sz)) 26 390 (va_A (wC h cy σ.1 ++ (wl ad cy (z 0) (h 20) σ.2.1 ++ (wl ad cy (z 0) (h 21) σ.2.2.1 ++ (wl ad cy (z 0) (h 22) σ.2.2.2.1 ++ wS h cy σ.2.2.2.2)))) sz) := by
  refine Met.ofCx (own := RX4) (by decide) rfl (Nat.le_of_ble_eq_true rfl) ?_
  intro p e s m below meth c hC hv ls hl
  obtain ⟨hx, hb, hr, hml, hown, hts, hlocks⟩ := hC
  have hl : lv_has ls 3 [(0, .ref (h 0))] := hl
  obtain ⟨hsz, hP, hK, hD0, hZ, hvk⟩ := hv
  subst hsz
  have hD := hD0.self (sz := s.heap.size)
  generalize hAe : va_A (wC h cy σ.1 ++ (wl ad cy (z 0) (h 20) σ.2.1 ++ (wl ad cy (z 0) (h 21) σ.2.2.1 ++ (wl ad cy (z 0) (h 22) σ.2.2.2.1 ++ wS h cy σ.2.2.2.2)))) s.heap.size = A at hD hZ ⊢
  have hA : ∀ q : Nat, s.heap.size ≤ q → A q := fun q h => by rw [← hAe]; exact Or.inr h
  have hS : va_S A s.heap s.heap [] := va_S.rf
  clear hAe
  unfold wp_X4_play at hF
  refine lv_aload_n hx hb dX4_play_0 rfl (lv_at hl 0 rfl) ?_
  refine lv_aload_n hx hb dX4_play_1 rfl (lv_at hl 0 rfl) ?_
  refine cfVi (x := wC h cy σ.1 ++ (wl ad cy (z 0) (h 20) σ.2.1 ++ (wl ad cy (z 0) (h 21) σ.2.2.1 ++ (wl ad cy (z 0) (h 22) σ.2.2.2.1 ++ wS h cy σ.2.2.2.2)))) (fpN _) ⟨hx, hb, hr, hml, hown, hts, hlocks⟩ hK hP hD hZ hvk hS hA rfl (m_X4_faultIn l dC dI h cy z ad _ fu σ  _ hF) (As := []) (rest := [.ref (h 0)]) k_X4_faultIn q1744 ⟨rfl, rfl⟩ ⟨Nat.le_of_ble_eq_true rfl, Nat.le_of_ble_eq_true rfl⟩ hl.1 rfl rfl (Nat.le_of_ble_eq_true rfl) dX4_play_2 ⟨Nat.le_of_ble_eq_true rfl, Nat.le_of_ble_eq_true rfl⟩ (fun r2 s2 H1 locs hF hP1 hD1 hS => ?_)
  have hP := va_P.perm (fpN _).symm hP1
  have hD := va_D.perm (fpN _).symm hD1
  generalize H1 = H at hP hS ⊢
  have hP : va_P (dC, dI) classes (wC h cy s2.1 ++ (wl ad cy (z 0) (h 20) s2.2.1 ++ (wl ad cy (z 0) (h 21) s2.2.2.1 ++ (wl ad cy (z 0) (h 22) s2.2.2.2.1 ++ wS h cy s2.2.2.2.2)))) H := hP
  have hD : va_D A (wC h cy s2.1 ++ (wl ad cy (z 0) (h 20) s2.2.1 ++ (wl ad cy (z 0) (h 21) s2.2.2.1 ++ (wl ad cy (z 0) (h 22) s2.2.2.2.1 ++ wS h cy s2.2.2.2.2)))) := hD
  refine lv_iconst (v := (-1)) hx hb dX4_play_5 (by decide) ?_
  have hJ14 : ∀ (t1_14 : Int32), wp_X4_play_J14 fu P s2 t1_14 → ∀ (H : Heap) (locs : List Loc), va_P (dC, dI) classes (wC h cy s2.1 ++ (wl ad cy (z 0) (h 20) s2.2.1 ++ (wl ad cy (z 0) (h 21) s2.2.2.1 ++ (wl ad cy (z 0) (h 22) s2.2.2.2.1 ++ wS h cy s2.2.2.2.2)))) H → va_D A (wC h cy s2.1 ++ (wl ad cy (z 0) (h 20) s2.2.1 ++ (wl ad cy (z 0) (h 21) s2.2.2.1 ++ (wl ad cy (z 0) (h 22) s2.2.2.2.1 ++ wS h cy s2.2.2.2.2)))) → va_S A s.heap H locs → ∀ (ls : Array Slot), lv_has ls 3 [(0, .ref (h 0))] → W p l e ({ frames := 8, cells := 26, slots := 390, locals := 249 } : Room) s m ([.ref (h 0)] : List Value).toArray below meth c H locs 12 180 (MQ below (va_Qi (fun r u => P r u) (fun (u : FX) t => va_P (dC, dI) classes (wC h cy u.1 ++ (wl ad cy (z 0) (h 20) u.2.1 ++ (wl ad cy (z 0) (h 21) u.2.2.1 ++ (wl ad cy (z 0) (h 22) u.2.2.2.1 ++ wS h cy u.2.2.2.2)))) t.heap ∧ va_D A (wC h cy u.1 ++ (wl ad cy (z 0) (h 20) u.2.1 ++ (wl ad cy (z 0) (h 21) u.2.2.1 ++ (wl ad cy (z 0) (h 22) u.2.2.2.1 ++ wS h cy u.2.2.2.2))))) A) ([.ref (h 0)] : List Value).toArray s 26 390 A) (F0 m 14 ls [.int t1_14, .ref (h 0)]) := by
    intro t1_14 hF H locs hP hD hS ls hl
    unfold wp_X4_play_J14 at hF
    have hPc := fw_get (fp0 _ _) hP
    have hDc := fw_getD (fp0 _ _) hD
    have hFc := fw_free (fp0 _ _) hD hS hA
    refine cwVi (q0 := 0) (As := [.int t1_14]) (rest := []) ⟨hx, hb, hr, hml, hown, hts, hlocks⟩ hK hPc hDc rfl rfl hS hFc (m_X4_fails l dC dI h cy _ s2.1 t1_14 _ hF) k_X4_fails q1102 ⟨rfl, rfl⟩ ⟨Nat.le_of_ble_eq_true rfl, Nat.le_of_ble_eq_true rfl⟩ hl.1 rfl rfl (Nat.le_of_ble_eq_true rfl) dX4_play_14 ⟨Nat.le_of_ble_eq_true rfl, Nat.le_of_ble_eq_true rfl⟩ (fun r14 u H1 locs hF hP1 hD1 hk1 hS => ?_)
    obtain ⟨s14, rfl⟩ : ∃ z, z = u := ⟨_, rfl⟩
    obtain ⟨hP, hD⟩ := fw_join (fp0 _ _) hP hD hk1 hFc hP1 hD1
    generalize H1 = H at hP hS ⊢
    have hP : va_P (dC, dI) classes (wC h cy s14 ++ (wl ad cy (z 0) (h 20) s2.2.1 ++ (wl ad cy (z 0) (h 21) s2.2.2.1 ++ (wl ad cy (z 0) (h 22) s2.2.2.2.1 ++ wS h cy s2.2.2.2.2)))) H := hP
    have hD : va_D A (wC h cy s14 ++ (wl ad cy (z 0) (h 20) s2.2.1 ++ (wl ad cy (z 0) (h 21) s2.2.2.1 ++ (wl ad cy (z 0) (h 22) s2.2.2.2.1 ++ wS h cy s2.2.2.2.2)))) := hD
    refine lv_if_eq (tgt := 22) hx hb dX4_play_17 (by decide) (fun cz => ?_) (fun cz => ?_)
    · have hF := hF.1 cz
      refine lv_aload_n hx hb dX4_play_22 rfl (lv_at hl 0 rfl) ?_
      refine va_get (D := (dC, dI)) (ci := 4) (v := .ref (h 22)) (C := RX4) (T := TX4) (N := 19) hx hb hts in_X4 hown hK.1 hP 0 rfl rfl 8 (by decide) (hts _ q958) (fun _ h9 => h9) rfl dX4_play_23 ?_
      have hU := hF.1
      have hF := hF.2
      refine lsIter (fp3 _ _ _ _ _) ⟨hx, hb, hr, hml, hown, hts, hlocks⟩ hK hP hD hZ.1 hS hA hU q1749 ⟨Nat.le_of_ble_eq_true rfl, Nat.le_of_ble_eq_true rfl⟩ hl.1 (Nat.le_of_ble_eq_true rfl) dX4_play_26 ⟨Nat.le_of_ble_eq_true rfl, Nat.le_of_ble_eq_true rfl⟩ (fun it26 H1 locs hP1 hD1 hS => ?_)
      have hP := va_P.perm (fpI3 _ _ _ _ _ _).symm hP1
      have hD := va_D.perm (fpI3 _ _ _ _ _ _).symm hD1
      generalize H1 = H at hP hS ⊢
      have hP : va_P (dC, dI) classes (wC h cy s14 ++ (wl ad cy (z 0) (h 20) s2.2.1 ++ (wl ad cy (z 0) (h 21) s2.2.2.1 ++ (wl ad cy (z 0) (h 22) s2.2.2.2.1 ++ (wS h cy s2.2.2.2.2 ++ [wI it26 (h 22) 0 (-1) s2.2.2.2.1.2.2.2.1]))))) H := hP
      have hD : va_D A (wC h cy s14 ++ (wl ad cy (z 0) (h 20) s2.2.1 ++ (wl ad cy (z 0) (h 21) s2.2.2.1 ++ (wl ad cy (z 0) (h 22) s2.2.2.2.1 ++ (wS h cy s2.2.2.2.2 ++ [wI it26 (h 22) 0 (-1) s2.2.2.2.1.2.2.2.1]))))) := hD
      refine lv_astore_n (lv' := [(1, .ref it26), (0, .ref (h 0))]) hx hb dX4_play_31 rfl hl (by decide) rfl (fun ls hl => ?_)
      refine W.widen (k := 13 + s2.2.1.2.2.2.2.2) (n := 184 + 15 * s2.2.1.2.2.2.2.2) (Nat.le_add_right _ _) (Nat.le_add_right _ _) ?_
      have hX32 : ∀ (s_63 : FX), ∀ (i_63 : Nat), ∀ (lr_63 : Int32), ∀ (mc_63 : Int32), (fun (s_63 : FX) (i_63 : Nat) (lr_63 : Int32) (mc_63 : Int32) => (okL s_63.2.1 ∧ (okL s_63.2.2.1 ∧ ∀ w67 : LST, okL w67 → w67.2.2.2.2.2 = 0 → (okL s_63.2.2.2.1 ∧ (P (nI s_63.2.2.2.1.2.2.2.2.2) (s_63.1, s_63.2.1, w67, s_63.2.2.2.1, s_63.2.2.2.2)))))) s_63 i_63 lr_63 mc_63 → ∀ (H : Heap) (locs : List Loc), va_P (dC, dI) classes (wC h cy s_63.1 ++ (wl ad cy (z 0) (h 20) s_63.2.1 ++ (wl ad cy (z 0) (h 21) s_63.2.2.1 ++ (wl ad cy (z 0) (h 22) s_63.2.2.2.1 ++ (wS h cy s_63.2.2.2.2 ++ [wI it26 (h 22) i_63 lr_63 mc_63]))))) H → va_D A (wC h cy s_63.1 ++ (wl ad cy (z 0) (h 20) s_63.2.1 ++ (wl ad cy (z 0) (h 21) s_63.2.2.1 ++ (wl ad cy (z 0) (h 22) s_63.2.2.2.1 ++ (wS h cy s_63.2.2.2.2 ++ [wI it26 (h 22) i_63 lr_63 mc_63]))))) → va_S A s.heap H locs → ∀ (ls : Array Slot), lv_has ls 3 [(0, .ref (h 0))] → W p l e ({ frames := 8, cells := 26, slots := 390, locals := 249 } : Room) s m ([.ref (h 0)] : List Value).toArray below meth c H locs (13 + s_63.2.1.2.2.2.2.2) (184 + 15 * s_63.2.1.2.2.2.2.2) (MQ below (va_Qi (fun r u => P r u) (fun (u : FX) t => va_P (dC, dI) classes (wC h cy u.1 ++ (wl ad cy (z 0) (h 20) u.2.1 ++ (wl ad cy (z 0) (h 21) u.2.2.1 ++ (wl ad cy (z 0) (h 22) u.2.2.2.1 ++ wS h cy u.2.2.2.2)))) t.heap ∧ va_D A (wC h cy u.1 ++ (wl ad cy (z 0) (h 20) u.2.1 ++ (wl ad cy (z 0) (h 21) u.2.2.1 ++ (wl ad cy (z 0) (h 22) u.2.2.2.1 ++ wS h cy u.2.2.2.2))))) A) ([.ref (h 0)] : List Value).toArray s 26 390 A) (F0 m 63 ls []) := by
        intro s_63 i_63 lr_63 mc_63 hF H locs hP hD hS ls hl
        have hO9 := hF.1
        have hF := hF.2
        refine lv_aload_n hx hb dX4_play_63 rfl (lv_at hl 0 rfl) ?_
        refine va_get (D := (dC, dI)) (ci := 4) (v := .ref (h 21)) (C := RX4) (T := TX4) (N := 19) hx hb hts in_X4 hown hK.1 hP 0 rfl rfl 7 (by decide) (hts _ q957) (fun _ h9 => h9) rfl dX4_play_64 ?_
        have hU := hF.1
        have hF := hF.2
        refine lsClear (fp2 _ _ _ _) ⟨hx, hb, hr, hml, hown, hts, hlocks⟩ hK hP hD hZ.1 hS hA hU q941 ⟨Nat.le_of_ble_eq_true rfl, Nat.le_of_ble_eq_true rfl⟩ hl.1 (Nat.le_of_ble_eq_true rfl) dX4_play_67 ⟨by have := (show okL s_63.2.1 from hO9).1; show _ + s_63.2.1.2.2.2.2.2 ≤ 26; omega, by have := (show okL s_63.2.1 from hO9).1; show _ + 15 * s_63.2.1.2.2.2.2.2 ≤ 390; omega⟩ (fun w67 hw1 hw2 H1 locs hP1 hD1 hS => ?_)
        have hF := hF w67 hw1 hw2
        have hP := va_P.perm (fp2 _ _ _ _).symm hP1
        have hD := va_D.perm (fp2 _ _ _ _).symm hD1
        generalize H1 = H at hP hS ⊢
        have hP : va_P (dC, dI) classes (wC h cy s_63.1 ++ (wl ad cy (z 0) (h 20) s_63.2.1 ++ (wl ad cy (z 0) (h 21) w67 ++ (wl ad cy (z 0) (h 22) s_63.2.2.2.1 ++ (wS h cy s_63.2.2.2.2 ++ [wI it26 (h 22) i_63 lr_63 mc_63]))))) H := hP
        have hD : va_D A (wC h cy s_63.1 ++ (wl ad cy (z 0) (h 20) s_63.2.1 ++ (wl ad cy (z 0) (h 21) w67 ++ (wl ad cy (z 0) (h 22) s_63.2.2.2.1 ++ (wS h cy s_63.2.2.2.2 ++ [wI it26 (h 22) i_63 lr_63 mc_63]))))) := hD
        refine lv_aload_n hx hb dX4_play_72 rfl (lv_at hl 0 rfl) ?_
        refine va_get (D := (dC, dI)) (ci := 4) (v := .ref (h 22)) (C := RX4) (T := TX4) (N := 19) hx hb hts in_X4 hown hK.1 hP 0 rfl rfl 8 (by decide) (hts _ q958) (fun _ h9 => h9) rfl dX4_play_73 ?_
        have hU := hF.1
        have hF := hF.2
        refine lsSize (fp3 _ _ _ _ _) ⟨hx, hb, hr, hml, hown, hts, hlocks⟩ hK hP hU q1350 ⟨Nat.le_of_ble_eq_true rfl, Nat.le_of_ble_eq_true rfl⟩ hl.1 (Nat.le_of_ble_eq_true rfl) dX4_play_76 ⟨by have := (show okL s_63.2.1 from hO9).1; show _ + s_63.2.1.2.2.2.2.2 ≤ 26; omega, by have := (show okL s_63.2.1 from hO9).1; show _ + 15 * s_63.2.1.2.2.2.2.2 ≤ 390; omega⟩ ?_
        have hP := fw_get (fpE _ _ _ _ _ _) hP
        have hD := fw_getD (fpE _ _ _ _ _ _) hD
        refine W.widen (k := 26) (n := 390) (by have := (show okL s_63.2.1 from hO9).1; omega) (by have := (show okL s_63.2.1 from hO9).1; omega) ?_
        exact W.iret (v := nI s_63.2.2.2.1.2.2.2.2.2) hx hb hr (fun t ht hW => ⟨⟨nI s_63.2.2.2.1.2.2.2.2.2, (s_63.1, s_63.2.1, w67, s_63.2.2.2.1, s_63.2.2.2.2), rfl, hF, by rw [ht]; exact hP, hD⟩, hS.F ht⟩) hS.2.2 dX4_play_81
      have hL32 : ∀ (K32 : FX → Nat → Int32 → Int32 → Prop), (∀ (s_63 : FX), ∀ (i_63 : Nat), ∀ (lr_63 : Int32), ∀ (mc_63 : Int32), K32 s_63 i_63 lr_63 mc_63 → ∀ (H : Heap) (locs : List Loc), va_P (dC, dI) classes (wC h cy s_63.1 ++ (wl ad cy (z 0) (h 20) s_63.2.1 ++ (wl ad cy (z 0) (h 21) s_63.2.2.1 ++ (wl ad cy (z 0) (h 22) s_63.2.2.2.1 ++ (wS h cy s_63.2.2.2.2 ++ [wI it26 (h 22) i_63 lr_63 mc_63]))))) H → va_D A (wC h cy s_63.1 ++ (wl ad cy (z 0) (h 20) s_63.2.1 ++ (wl ad cy (z 0) (h 21) s_63.2.2.1 ++ (wl ad cy (z 0) (h 22) s_63.2.2.2.1 ++ (wS h cy s_63.2.2.2.2 ++ [wI it26 (h 22) i_63 lr_63 mc_63]))))) → va_S A s.heap H locs → ∀ (ls : Array Slot), lv_has ls 3 [(0, .ref (h 0))] → W p l e ({ frames := 8, cells := 26, slots := 390, locals := 249 } : Room) s m ([.ref (h 0)] : List Value).toArray below meth c H locs (13 + s_63.2.1.2.2.2.2.2) (184 + 15 * s_63.2.1.2.2.2.2.2) (MQ below (va_Qi (fun r u => P r u) (fun (u : FX) t => va_P (dC, dI) classes (wC h cy u.1 ++ (wl ad cy (z 0) (h 20) u.2.1 ++ (wl ad cy (z 0) (h 21) u.2.2.1 ++ (wl ad cy (z 0) (h 22) u.2.2.2.1 ++ wS h cy u.2.2.2.2)))) t.heap ∧ va_D A (wC h cy u.1 ++ (wl ad cy (z 0) (h 20) u.2.1 ++ (wl ad cy (z 0) (h 21) u.2.2.1 ++ (wl ad cy (z 0) (h 22) u.2.2.2.1 ++ wS h cy u.2.2.2.2))))) A) ([.ref (h 0)] : List Value).toArray s 26 390 A) (F0 m 63 ls [])) → ∀ (nn : Nat), ∀ (s_32 : FX), ∀ (i_32 : Nat), ∀ (lr_32 : Int32), ∀ (mc_32 : Int32), wp_X4_play_L32 K32 nn s_32 i_32 lr_32 mc_32 → ∀ (H : Heap) (locs : List Loc), va_P (dC, dI) classes (wC h cy s_32.1 ++ (wl ad cy (z 0) (h 20) s_32.2.1 ++ (wl ad cy (z 0) (h 21) s_32.2.2.1 ++ (wl ad cy (z 0) (h 22) s_32.2.2.2.1 ++ (wS h cy s_32.2.2.2.2 ++ [wI it26 (h 22) i_32 lr_32 mc_32]))))) H → va_D A (wC h cy s_32.1 ++ (wl ad cy (z 0) (h 20) s_32.2.1 ++ (wl ad cy (z 0) (h 21) s_32.2.2.1 ++ (wl ad cy (z 0) (h 22) s_32.2.2.2.1 ++ (wS h cy s_32.2.2.2.2 ++ [wI it26 (h 22) i_32 lr_32 mc_32]))))) → va_S A s.heap H locs → ∀ (ls : Array Slot), lv_has ls 3 [(1, .ref it26), (0, .ref (h 0))] → W p l e ({ frames := 8, cells := 26, slots := 390, locals := 249 } : Room) s m ([.ref (h 0)] : List Value).toArray below meth c H locs (13 + s_32.2.1.2.2.2.2.2) (184 + 15 * s_32.2.1.2.2.2.2.2) (MQ below (va_Qi (fun r u => P r u) (fun (u : FX) t => va_P (dC, dI) classes (wC h cy u.1 ++ (wl ad cy (z 0) (h 20) u.2.1 ++ (wl ad cy (z 0) (h 21) u.2.2.1 ++ (wl ad cy (z 0) (h 22) u.2.2.2.1 ++ wS h cy u.2.2.2.2)))) t.heap ∧ va_D A (wC h cy u.1 ++ (wl ad cy (z 0) (h 20) u.2.1 ++ (wl ad cy (z 0) (h 21) u.2.2.1 ++ (wl ad cy (z 0) (h 22) u.2.2.2.1 ++ wS h cy u.2.2.2.2))))) A) ([.ref (h 0)] : List Value).toArray s 26 390 A) (F0 m 32 ls []) := by
        intro K32 hX32 nn
        induction nn with
        | zero =>
          intro s_32 i_32 lr_32 mc_32 hF
          exact hF.elim
        | succ nn ih =>
          intro s_32 i_32 lr_32 mc_32 hF H locs hP hD hS ls hl
          obtain ⟨rec32, hrec⟩ : ∃ z : FX → Nat → Int32 → Int32 → Prop, z = wp_X4_play_L32 K32 nn := ⟨_, rfl⟩
          have hF : wp_X4_play_B32 K32 rec32 s_32 i_32 lr_32 mc_32 := by rw [hrec]; exact hF
          rw [← hrec] at ih
          clear hrec
          unfold wp_X4_play_B32 at hF
          have hO9 := hF.1
          have hF := hF.2
          refine lv_aload_n hx hb dX4_play_32 rfl (lv_at hl 0 rfl) ?_
          have hU := hF.1
          have hI := hF.2.1
          have hF := hF.2.2
          refine lsHas2 (fpI3 _ _ _ _ _ _) ⟨hx, hb, hr, hml, hown, hts, hlocks⟩ hK hP hU hI q1777 ⟨Nat.le_of_ble_eq_true rfl, Nat.le_of_ble_eq_true rfl⟩ hl.1 (Nat.le_of_ble_eq_true rfl) dX4_play_33 ⟨by have := (show okL s_32.2.1 from hO9).1; show _ + s_32.2.1.2.2.2.2.2 ≤ 26; omega, by have := (show okL s_32.2.1 from hO9).1; show _ + 15 * s_32.2.1.2.2.2.2.2 ≤ 390; omega⟩ ?_
          refine lv_if_eq (tgt := 63) hx hb dX4_play_38 (by decide) (fun cz => ?_) (fun cz => ?_)
          · have hF := hF.1 cz
            exact hX32 s_32 i_32 lr_32 mc_32 hF _ _ hP hD hS _ (lv_sub hl [1] rfl)
          · have hF := hF.2 cz
            refine lv_aload_n hx hb dX4_play_41 rfl (lv_at hl 0 rfl) ?_
            have hU := hF.1
            have hI := hF.2.1
            have hM9 := hF.2.2.1
            have hF := hF.2.2.2
            have hB42 : s_32.2.2.2.1.2.2.2.2.1 i_32 < 128 := hU.2.1 _ hI
            refine lsNext (fpI3 _ _ _ _ _ _) ⟨hx, hb, hr, hml, hown, hts, hlocks⟩ hK hP hD hZ.1 hS hA hU hI hM9 q1787 ⟨Nat.le_of_ble_eq_true rfl, Nat.le_of_ble_eq_true rfl⟩ hl.1 (Nat.le_of_ble_eq_true rfl) dX4_play_42 ⟨by have := (show okL s_32.2.1 from hO9).1; show _ + s_32.2.1.2.2.2.2.2 ≤ 26; omega, by have := (show okL s_32.2.1 from hO9).1; show _ + 15 * s_32.2.1.2.2.2.2.2 ≤ 390; omega⟩ (fun H1 locs hP1 hD1 hS => ?_)
            have hP := va_P.perm (fpI3 _ _ _ _ _ _).symm hP1
            have hD := va_D.perm (fpI3 _ _ _ _ _ _).symm hD1
            generalize H1 = H at hP hS ⊢
            have hP : va_P (dC, dI) classes (wC h cy s_32.1 ++ (wl ad cy (z 0) (h 20) s_32.2.1 ++ (wl ad cy (z 0) (h 21) s_32.2.2.1 ++ (wl ad cy (z 0) (h 22) s_32.2.2.2.1 ++ (wS h cy s_32.2.2.2.2 ++ [wI it26 (h 22) (i_32 + 1) (nI i_32) mc_32]))))) H := hP
            have hD : va_D A (wC h cy s_32.1 ++ (wl ad cy (z 0) (h 20) s_32.2.1 ++ (wl ad cy (z 0) (h 21) s_32.2.2.1 ++ (wl ad cy (z 0) (h 22) s_32.2.2.2.1 ++ (wS h cy s_32.2.2.2.2 ++ [wI it26 (h 22) (i_32 + 1) (nI i_32) mc_32]))))) := hD
            refine va_castE hx hb hown (hts _ q1376) (box_at hZ.1 hS (by have := hB42; omega)) dX4_play_47 ?_
            refine czVi ⟨hx, hb, hr, hml, hown, hts, hlocks⟩ hZ.1 hS (by have := hB42; omega) (m_J6_intValue_8abf5 l (z 0) (z 1) ad (s_32.2.2.2.1.2.2.2.2.1 i_32) hB42) k_J6_intValue_8abf5 q1377 ⟨rfl, rfl⟩ ⟨Nat.le_of_ble_eq_true rfl, Nat.le_of_ble_eq_true rfl⟩ hl.1 (Nat.le_of_ble_eq_true rfl) dX4_play_50 ⟨by have := (show okL s_32.2.1 from hO9).1; show _ + s_32.2.1.2.2.2.2.2 ≤ 26; omega, by have := (show okL s_32.2.1 from hO9).1; show _ + 15 * s_32.2.1.2.2.2.2.2 ≤ 390; omega⟩ (fun r9 hr9 => ?_)
            rw [hr9]
            refine lv_istore_n (lv' := [(2, .int (nI (s_32.2.2.2.1.2.2.2.2.1 i_32))), (1, .ref it26), (0, .ref (h 0))]) hx hb dX4_play_53 rfl hl (by decide) rfl (fun ls hl => ?_)
            refine lv_aload_n hx hb dX4_play_54 rfl (lv_at hl 2 rfl) ?_
            refine lv_iload_n hx hb dX4_play_55 rfl (lv_at hl 0 rfl) ?_
            refine cfVi (x := wC h cy s_32.1 ++ (wl ad cy (z 0) (h 20) s_32.2.1 ++ (wl ad cy (z 0) (h 21) s_32.2.2.1 ++ (wl ad cy (z 0) (h 22) s_32.2.2.2.1 ++ wS h cy s_32.2.2.2.2)))) (fpE _ _ _ _ _ _) ⟨hx, hb, hr, hml, hown, hts, hlocks⟩ hK hP hD hZ hvk hS hA rfl (m_X4_makes l dC dI h cy z ad _ s_32 (nI (s_32.2.2.2.1.2.2.2.2.1 i_32)) _ hF) (As := [.int (nI (s_32.2.2.2.1.2.2.2.2.1 i_32))]) (rest := []) k_X4_makes q1226 ⟨rfl, rfl⟩ ⟨Nat.le_of_ble_eq_true rfl, Nat.le_of_ble_eq_true rfl⟩ hl.1 rfl rfl (Nat.le_of_ble_eq_true rfl) dX4_play_56 ⟨by have := hO9.1; show _ + s_32.2.1.2.2.2.2.2 + 1 ≤ 26; omega, by have := hO9.1; show _ + 15 * s_32.2.1.2.2.2.2.2 + 15 ≤ 390; omega⟩ (fun r56 s56 H1 locs hF hP1 hD1 hS => ?_)
            have hG := hF.1
            have hO9 := hF.2.1
            have hF := hF.2.2
            refine W.widen (k := 13 + s56.2.1.2.2.2.2.2) (n := 184 + 15 * s56.2.1.2.2.2.2.2) (by rw [hG]; omega) (by rw [hG]; omega) ?_
            have hP := va_P.perm (fpE _ _ _ _ _ _).symm hP1
            have hD := va_D.perm (fpE _ _ _ _ _ _).symm hD1
            generalize H1 = H at hP hS ⊢
            have hP : va_P (dC, dI) classes (wC h cy s56.1 ++ (wl ad cy (z 0) (h 20) s56.2.1 ++ (wl ad cy (z 0) (h 21) s56.2.2.1 ++ (wl ad cy (z 0) (h 22) s56.2.2.2.1 ++ (wS h cy s56.2.2.2.2 ++ [wI it26 (h 22) (i_32 + 1) (nI i_32) mc_32]))))) H := hP
            have hD : va_D A (wC h cy s56.1 ++ (wl ad cy (z 0) (h 20) s56.2.1 ++ (wl ad cy (z 0) (h 21) s56.2.2.1 ++ (wl ad cy (z 0) (h 22) s56.2.2.2.1 ++ (wS h cy s56.2.2.2.2 ++ [wI it26 (h 22) (i_32 + 1) (nI i_32) mc_32]))))) := hD
            refine lv_pop hx hb dX4_play_59 rfl ?_
            refine lv_goto (tgt := 32) hx hb dX4_play_60 (by decide) ?_
            exact ih s56 (i_32 + 1) (nI i_32) mc_32 hF _ _ hP hD hS _ (lv_sub hl [1, 2] rfl)
      exact hL32 _ hX32 fu (s14, s2.2.1, s2.2.2.1, s2.2.2.2.1, s2.2.2.2.2) 0 (-1) s2.2.2.2.1.2.2.2.1 hF _ _ hP hD hS _ (lv_sub hl [0, 1] rfl)
    · have hF := hF.2 cz
      refine lv_iconst (v := 0) hx hb dX4_play_20 (by decide) ?_
      refine W.widen (k := 26) (n := 390) (Nat.le_of_ble_eq_true rfl) (Nat.le_of_ble_eq_true rfl) ?_
      exact W.iret (v := 0) hx hb hr (fun t ht hW => ⟨⟨0, (s14, s2.2.1, s2.2.2.1, s2.2.2.2.1, s2.2.2.2.2), rfl, hF, by rw [ht]; exact hP, hD⟩, hS.F ht⟩) hS.2.2 dX4_play_21
  refine lv_icmp_ne (tgt := 13) hx hb dX4_play_6 (by decide) (fun cz => ?_) (fun cz => ?_)
  · have hF := hF.1 cz
    refine lv_iconst (v := 1) hx hb dX4_play_13 (by decide) ?_
    exact hJ14 1 hF _ _ hP hD hS _ (lv_sub hl [0] rfl)
  · have hF := hF.2 cz
    refine lv_iconst (v := 0) hx hb dX4_play_9 (by decide) ?_
    refine lv_goto (tgt := 14) hx hb dX4_play_10 (by decide) ?_
    exact hJ14 0 hF _ _ hP hD hS _ (lv_sub hl [0] rfl)
theorem dX4_checksum_0 : decode cX4_checksum 0 = .ok (.aload_n 0, 1) := by decide +kernel
theorem dX4_checksum_1 : decode cX4_checksum 1 = .ok (.iconst 0, 1) := by decide +kernel
theorem dX4_checksum_2 : decode cX4_checksum 2 = .ok (.putfield 60, 3) := by decide +kernel
theorem dX4_checksum_5 : decode cX4_checksum 5 = .ok (.ldc2_w 272, 3) := by decide +kernel
theorem dX4_checksum_8 : decode cX4_checksum 8 = .ok (.lstore_n 1, 1) := by decide +kernel
theorem dX4_checksum_9 : decode cX4_checksum 9 = .ok (.iconst 0, 1) := by decide +kernel
theorem dX4_checksum_10 : decode cX4_checksum 10 = .ok (.istore_n 3, 1) := by decide +kernel
theorem dX4_checksum_11 : decode cX4_checksum 11 = .ok (.iload_n 3, 1) := by decide +kernel
theorem dX4_checksum_12 : decode cX4_checksum 12 = .ok (.aload_n 0, 1) := by decide +kernel
theorem dX4_checksum_13 : decode cX4_checksum 13 = .ok (.getfield 64, 3) := by decide +kernel
theorem dX4_checksum_16 : decode cX4_checksum 16 = .ok (.if_icmp .ge 35, 3) := by decide +kernel
theorem dX4_checksum_19 : decode cX4_checksum 19 = .ok (.ldc2_w 274, 3) := by decide +kernel
theorem dX4_checksum_22 : decode cX4_checksum 22 = .ok (.ldc2_w 274, 3) := by decide +kernel
theorem dX4_checksum_25 : decode cX4_checksum 25 = .ok (.lload_n 1, 1) := by decide +kernel
theorem dX4_checksum_26 : decode cX4_checksum 26 = .ok (.lmul, 1) := by decide +kernel
theorem dX4_checksum_27 : decode cX4_checksum 27 = .ok (.aload_n 0, 1) := by decide +kernel
theorem dX4_checksum_28 : decode cX4_checksum 28 = .ok (.getfield 13, 3) := by decide +kernel
theorem dX4_checksum_31 : decode cX4_checksum 31 = .ok (.iload_n 3, 1) := by decide +kernel
theorem dX4_checksum_32 : decode cX4_checksum 32 = .ok (.iaload, 1) := by decide +kernel
theorem dX4_checksum_33 : decode cX4_checksum 33 = .ok (.i2l, 1) := by decide +kernel
theorem dX4_checksum_34 : decode cX4_checksum 34 = .ok (.ladd, 1) := by decide +kernel
theorem dX4_checksum_35 : decode cX4_checksum 35 = .ok (.lmul, 1) := by decide +kernel
theorem dX4_checksum_36 : decode cX4_checksum 36 = .ok (.aload_n 0, 1) := by decide +kernel
theorem dX4_checksum_37 : decode cX4_checksum 37 = .ok (.getfield 16, 3) := by decide +kernel
theorem dX4_checksum_40 : decode cX4_checksum 40 = .ok (.iload_n 3, 1) := by decide +kernel
theorem dX4_checksum_41 : decode cX4_checksum 41 = .ok (.iaload, 1) := by decide +kernel
theorem dX4_checksum_42 : decode cX4_checksum 42 = .ok (.i2l, 1) := by decide +kernel
theorem dX4_checksum_43 : decode cX4_checksum 43 = .ok (.ladd, 1) := by decide +kernel
theorem dX4_checksum_44 : decode cX4_checksum 44 = .ok (.lstore_n 1, 1) := by decide +kernel
theorem dX4_checksum_45 : decode cX4_checksum 45 = .ok (.iinc 3 1, 3) := by decide +kernel
theorem dX4_checksum_48 : decode cX4_checksum 48 = .ok (.goto (-37), 3) := by decide +kernel
theorem dX4_checksum_51 : decode cX4_checksum 51 = .ok (.ldc2_w 274, 3) := by decide +kernel
theorem dX4_checksum_54 : decode cX4_checksum 54 = .ok (.ldc2_w 274, 3) := by decide +kernel
theorem dX4_checksum_57 : decode cX4_checksum 57 = .ok (.lload_n 1, 1) := by decide +kernel
theorem dX4_checksum_58 : decode cX4_checksum 58 = .ok (.lmul, 1) := by decide +kernel
theorem dX4_checksum_59 : decode cX4_checksum 59 = .ok (.aload_n 0, 1) := by decide +kernel
theorem dX4_checksum_60 : decode cX4_checksum 60 = .ok (.getfield 120, 3) := by decide +kernel
theorem dX4_checksum_63 : decode cX4_checksum 63 = .ok (.i2l, 1) := by decide +kernel
theorem dX4_checksum_64 : decode cX4_checksum 64 = .ok (.ladd, 1) := by decide +kernel
theorem dX4_checksum_65 : decode cX4_checksum 65 = .ok (.lmul, 1) := by decide +kernel
theorem dX4_checksum_66 : decode cX4_checksum 66 = .ok (.aload_n 0, 1) := by decide +kernel
theorem dX4_checksum_67 : decode cX4_checksum 67 = .ok (.getfield 114, 3) := by decide +kernel
theorem dX4_checksum_70 : decode cX4_checksum 70 = .ok (.i2l, 1) := by decide +kernel
theorem dX4_checksum_71 : decode cX4_checksum 71 = .ok (.ladd, 1) := by decide +kernel
theorem dX4_checksum_72 : decode cX4_checksum 72 = .ok (.lstore_n 1, 1) := by decide +kernel
theorem dX4_checksum_73 : decode cX4_checksum 73 = .ok (.aload_n 0, 1) := by decide +kernel
theorem dX4_checksum_74 : decode cX4_checksum 74 = .ok (.getfield 31, 3) := by decide +kernel
theorem dX4_checksum_77 : decode cX4_checksum 77 = .ok (.invokeinterface 259 1, 5) := by decide +kernel
theorem dX4_checksum_82 : decode cX4_checksum 82 = .ok (.astore_n 3, 1) := by decide +kernel
theorem dX4_checksum_83 : decode cX4_checksum 83 = .ok (.aload_n 3, 1) := by decide +kernel
theorem dX4_checksum_84 : decode cX4_checksum 84 = .ok (.invokeinterface 263 1, 5) := by decide +kernel
theorem dX4_checksum_89 : decode cX4_checksum 89 = .ok (.ifCond .eq 34, 3) := by decide +kernel
theorem dX4_checksum_92 : decode cX4_checksum 92 = .ok (.aload_n 3, 1) := by decide +kernel
theorem dX4_checksum_93 : decode cX4_checksum 93 = .ok (.invokeinterface 268 1, 5) := by decide +kernel
theorem dX4_checksum_98 : decode cX4_checksum 98 = .ok (.checkcast 170, 3) := by decide +kernel
theorem dX4_checksum_101 : decode cX4_checksum 101 = .ok (.invokevirtual 206, 3) := by decide +kernel
theorem dX4_checksum_104 : decode cX4_checksum 104 = .ok (.istore 4, 2) := by decide +kernel
theorem dX4_checksum_106 : decode cX4_checksum 106 = .ok (.ldc2_w 274, 3) := by decide +kernel
theorem dX4_checksum_109 : decode cX4_checksum 109 = .ok (.lload_n 1, 1) := by decide +kernel
theorem dX4_checksum_110 : decode cX4_checksum 110 = .ok (.lmul, 1) := by decide +kernel
theorem dX4_checksum_111 : decode cX4_checksum 111 = .ok (.aload_n 0, 1) := by decide +kernel
theorem dX4_checksum_112 : decode cX4_checksum 112 = .ok (.iload 4, 2) := by decide +kernel
theorem dX4_checksum_114 : decode cX4_checksum 114 = .ok (.invokevirtual 191, 3) := by decide +kernel
theorem dX4_checksum_117 : decode cX4_checksum 117 = .ok (.i2l, 1) := by decide +kernel
theorem dX4_checksum_118 : decode cX4_checksum 118 = .ok (.ladd, 1) := by decide +kernel
theorem dX4_checksum_119 : decode cX4_checksum 119 = .ok (.lstore_n 1, 1) := by decide +kernel
theorem dX4_checksum_120 : decode cX4_checksum 120 = .ok (.goto (-37), 3) := by decide +kernel
theorem dX4_checksum_123 : decode cX4_checksum 123 = .ok (.lload_n 1, 1) := by decide +kernel
theorem dX4_checksum_124 : decode cX4_checksum 124 = .ok (.lreturn, 1) := by decide +kernel
def wp_X4_checksum_B83 (σ : FX) (K83 : Int64 → Nat → Int32 → Prop) (rec83 : Int64 → Nat → Int32 → Prop) (v1_83 : Int64) (i_83 : Nat) (lr_83 : Int32) : Prop := (okL σ.2.1 ∧ (i_83 ≤ σ.2.1.2.2.2.2.2 ∧ (((isH i_83 (σ.2.1.2.2.2.2.2)) = 0 → (K83 v1_83 i_83 lr_83)) ∧ (¬ (isH i_83 (σ.2.1.2.2.2.2.2)) = 0 → (okL σ.2.1 ∧ (i_83 < σ.2.1.2.2.2.2.2 ∧ (σ.2.1.2.2.2.1 = σ.2.1.2.2.2.1 ∧ (wp_X4_codeOf (sI σ.1 5 0) (nI (σ.2.1.2.2.2.2.1 i_83)) (fun r114 => (rec83 ((31 * v1_83) + r114.toInt64) (i_83 + 1) (nI i_83)))))))))))
def wp_X4_checksum_L83 (σ : FX) (K83 : Int64 → Nat → Int32 → Prop) : Nat → Int64 → Nat → Int32 → Prop
  | 0, _, _, _ => False
  | nn + 1, v1_83, i_83, lr_83 => wp_X4_checksum_B83 σ K83 (wp_X4_checksum_L83 σ K83 nn) v1_83 i_83 lr_83
def wp_X4_checksum_B11 (σ : FX) (K11 : Int64 → Prop) (rec11 : Int32 → Int64 → Prop) (v3_11 : Int32) (v1_11 : Int64) : Prop := (((σ.1.1 0) ≤ v3_11 → (K11 v1_11)) ∧ (¬ (σ.1.1 0) ≤ v3_11 → (vp_in v3_11 13 ∧ (vp_in v3_11 13 ∧ (rec11 (v3_11 + 1) ((31 * ((31 * v1_11) + (((σ.1.2.1 1) v3_11.toNatClampNeg).toInt64))) + (((σ.1.2.1 2) v3_11.toNatClampNeg).toInt64)))))))
def wp_X4_checksum_L11 (σ : FX) (K11 : Int64 → Prop) : Nat → Int32 → Int64 → Prop
  | 0, _, _ => False
  | nn + 1, v3_11, v1_11 => wp_X4_checksum_B11 σ K11 (wp_X4_checksum_L11 σ K11 nn) v3_11 v1_11
def wp_X4_checksum (fu : Nat) (σ : FX) (P : Int64 → FX → Prop) : Prop := (wp_X4_checksum_L11 σ (fun (v1_51 : Int64) => (okL σ.2.1 ∧ (wp_X4_checksum_L83 σ (fun (v1_123 : Int64) (i_123 : Nat) (lr_123 : Int32) => (P v1_123 (sI σ.1 5 0, σ.2.1, σ.2.2.1, σ.2.2.2.1, σ.2.2.2.2))) fu ((31 * ((31 * v1_51) + ((σ.1.1 2).toInt64))) + ((σ.1.1 3).toInt64)) 0 (-1)))) fu 0 7)
theorem k_X4_checksum : KV RX4 yX4_checksum cX4_checksum 5 (some .long) 0 := ⟨q1819, q1820, q5, q1821, by decide +kernel⟩
set_option maxHeartbeats 4000000 in
set_option maxRecDepth 100000 in
theorem m_X4_checksum (l : Launch) (dC : Nat → ClassId) (dI : Nat → Nat → Nat) (h : Nat → Nat) (cy : Nat → ClassId) (z ad : Nat → Nat) (sz : Nat) (fu : Nat) (σ : FX) (P : Int64 → FX → Prop) (hF : wp_X4_checksum fu σ P) : Met l yX4_checksum (ws_ yX4_checksum cX4_checksum 5 (some .long)) ({ frames := 3, cells := 1, slots := 15, locals := 80 } : Room) (va_Pc [.ref (h 0)] (PcF dC dI cy z ad (wC h cy σ.1 ++ (wl ad cy (z 0) (h 20) σ.2.1 ++ (wl ad cy (z 0) (h 21) σ.2.2.1 ++ (wl ad cy (z 0) (h 22) σ.2.2.2.1 ++ wS h cy σ.2.2.2.2)))) sz)) (va_Ql (fun r u => P r u) (fun (u : FX) t => va_P (dC, dI) classes (wC h cy u.1 ++ (wl ad cy (z 0) (h 20) u.2.1 ++ (wl ad cy (z 0) (h 21) u.2.2.1 ++ (wl ad cy (z 0) (h 22) u.2.2.2.1 ++ wS h cy u.2.2.2.2)))) t.heap ∧ va_D (va_A (wC h cy σ.1 ++ (wl ad cy (z 0) (h 20) σ.2.1 ++ (wl ad cy (z 0) (h 21) σ.2.2.1 ++ (wl ad cy (z 0) (h 22) σ.2.2.2.1 ++ wS h cy σ.2.2.2.2)))) sz) (wC h cy u.1 ++ (wl ad cy (z 0) (h 20) u.2.1 ++ (wl ad cy (z 0) (h 21) u.2.2.1 ++ (wl ad cy (z 0) (h 22) u.2.2.2.1 ++ wS h cy u.2.2.2.2))))) (va_A (wC h cy σ.1 ++ (wl ad cy (z 0) (h 20) σ.2.1 ++ (wl ad cy (z 0) (h 21) σ.2.2.1 ++ (wl ad cy (z 0) (h 22) σ.2.2.2.1 ++ wS h cy σ.2.2.2.2)))) sz)) 1 15 (va_A (wC h cy σ.1 ++ (wl ad cy (z 0) (h 20) σ.2.1 ++ (wl ad cy (z 0) (h 21) σ.2.2.1 ++ (wl ad cy (z 0) (h 22) σ.2.2.2.1 ++ wS h cy σ.2.2.2.2)))) sz) := by
  refine Met.ofCx (own := RX4) (by decide) rfl (Nat.le_of_ble_eq_true rfl) ?_
  intro p e s m below meth c hC hv ls hl
  obtain ⟨hx, hb, hr, hml, hown, hts, hlocks⟩ := hC
  have hl : lv_has ls 5 [(0, .ref (h 0))] := hl
  obtain ⟨hsz, hP, hK, hD0, hZ, hvk⟩ := hv
  subst hsz
  have hD := hD0.self (sz := s.heap.size)
  generalize hAe : va_A (wC h cy σ.1 ++ (wl ad cy (z 0) (h 20) σ.2.1 ++ (wl ad cy (z 0) (h 21) σ.2.2.1 ++ (wl ad cy (z 0) (h 22) σ.2.2.2.1 ++ wS h cy σ.2.2.2.2)))) s.heap.size = A at hD hZ ⊢
  have hA : ∀ q : Nat, s.heap.size ≤ q → A q := fun q h => by rw [← hAe]; exact Or.inr h
  have hS : va_S A s.heap s.heap [] := va_S.rf
  clear hAe
  unfold wp_X4_checksum at hF
  refine lv_aload_n hx hb dX4_checksum_0 rfl (lv_at hl 0 rfl) ?_
  refine lv_iconst (v := 0) hx hb dX4_checksum_1 (by decide) ?_
  refine va_put (D := (dC, dI)) (ci := 4) (v := .int 0) (ty := .int) (C := RX4) (T := TX4) (N := 19) hx hb hts in_X4 tyX4 tyX4_ok nmX4 hown hK.1 hP hD hS 0 rfl rfl 18 (by decide) (hts _ q968) (fun _ h9 => h9) rfl (by decide +kernel) rfl rfl (Nat.le_of_ble_eq_true rfl) dX4_checksum_2 (fun H locs hP hD hS => ?_)
  have hP : va_P (dC, dI) classes (wC h cy (sI σ.1 5 0) ++ (wl ad cy (z 0) (h 20) σ.2.1 ++ (wl ad cy (z 0) (h 21) σ.2.2.1 ++ (wl ad cy (z 0) (h 22) σ.2.2.2.1 ++ wS h cy σ.2.2.2.2)))) H := hP
  have hD : va_D A (wC h cy (sI σ.1 5 0) ++ (wl ad cy (z 0) (h 20) σ.2.1 ++ (wl ad cy (z 0) (h 21) σ.2.2.1 ++ (wl ad cy (z 0) (h 22) σ.2.2.2.1 ++ wS h cy σ.2.2.2.2)))) := hD
  refine lv_ldc2 (v := 7) hx hb hown (hts _ q1822) dX4_checksum_5 ?_
  refine lv_lstore_n (lv' := [(1, .long 7), (0, .ref (h 0))]) hx hb dX4_checksum_8 rfl hl (by decide) rfl (fun ls hl => ?_)
  refine lv_iconst (v := 0) hx hb dX4_checksum_9 (by decide) ?_
  refine lv_istore_n (lv' := [(3, .int 0), (1, .long 7), (0, .ref (h 0))]) hx hb dX4_checksum_10 rfl hl (by decide) rfl (fun ls hl => ?_)
  have hX11 : ∀ (v1_51 : Int64), (fun (v1_51 : Int64) => (okL σ.2.1 ∧ (wp_X4_checksum_L83 σ (fun (v1_123 : Int64) (i_123 : Nat) (lr_123 : Int32) => (P v1_123 (sI σ.1 5 0, σ.2.1, σ.2.2.1, σ.2.2.2.1, σ.2.2.2.2))) fu ((31 * ((31 * v1_51) + ((σ.1.1 2).toInt64))) + ((σ.1.1 3).toInt64)) 0 (-1)))) v1_51 → ∀ (H : Heap) (locs : List Loc), va_P (dC, dI) classes (wC h cy (sI σ.1 5 0) ++ (wl ad cy (z 0) (h 20) σ.2.1 ++ (wl ad cy (z 0) (h 21) σ.2.2.1 ++ (wl ad cy (z 0) (h 22) σ.2.2.2.1 ++ wS h cy σ.2.2.2.2)))) H → va_D A (wC h cy (sI σ.1 5 0) ++ (wl ad cy (z 0) (h 20) σ.2.1 ++ (wl ad cy (z 0) (h 21) σ.2.2.1 ++ (wl ad cy (z 0) (h 22) σ.2.2.2.1 ++ wS h cy σ.2.2.2.2)))) → va_S A s.heap H locs → ∀ (ls : Array Slot), lv_has ls 5 [(1, .long v1_51), (0, .ref (h 0))] → W p l e ({ frames := 3, cells := 1, slots := 15, locals := 80 } : Room) s m ([.ref (h 0)] : List Value).toArray below meth c H locs 0 0 (MQ below (va_Ql (fun r u => P r u) (fun (u : FX) t => va_P (dC, dI) classes (wC h cy u.1 ++ (wl ad cy (z 0) (h 20) u.2.1 ++ (wl ad cy (z 0) (h 21) u.2.2.1 ++ (wl ad cy (z 0) (h 22) u.2.2.2.1 ++ wS h cy u.2.2.2.2)))) t.heap ∧ va_D A (wC h cy u.1 ++ (wl ad cy (z 0) (h 20) u.2.1 ++ (wl ad cy (z 0) (h 21) u.2.2.1 ++ (wl ad cy (z 0) (h 22) u.2.2.2.1 ++ wS h cy u.2.2.2.2))))) A) ([.ref (h 0)] : List Value).toArray s 1 15 A) (F0 m 51 ls []) := by
    intro v1_51 hF H locs hP hD hS ls hl
    refine lv_ldc2 (v := 31) hx hb hown (hts _ q1823) dX4_checksum_51 ?_
    refine lv_ldc2 (v := 31) hx hb hown (hts _ q1823) dX4_checksum_54 ?_
    refine lv_lload_n hx hb dX4_checksum_57 rfl (lv_at hl 0 rfl) ?_
    refine lv_lmul hx hb dX4_checksum_58 ?_
    refine lv_aload_n hx hb dX4_checksum_59 rfl (lv_at hl 1 rfl) ?_
    refine va_get (D := (dC, dI)) (ci := 4) (v := .int (σ.1.1 2)) (C := RX4) (T := TX4) (N := 19) hx hb hts in_X4 hown hK.1 hP 0 rfl rfl 15 (by decide) (hts _ q965) (fun _ h9 => h9) rfl dX4_checksum_60 ?_
    refine lv_i2l hx hb dX4_checksum_63 rfl ?_
    refine lv_ladd hx hb dX4_checksum_64 ?_
    refine lv_lmul hx hb dX4_checksum_65 ?_
    refine lv_aload_n hx hb dX4_checksum_66 rfl (lv_at hl 1 rfl) ?_
    refine va_get (D := (dC, dI)) (ci := 4) (v := .int (σ.1.1 3)) (C := RX4) (T := TX4) (N := 19) hx hb hts in_X4 hown hK.1 hP 0 rfl rfl 16 (by decide) (hts _ q966) (fun _ h9 => h9) rfl dX4_checksum_67 ?_
    refine lv_i2l hx hb dX4_checksum_70 rfl ?_
    refine lv_ladd hx hb dX4_checksum_71 ?_
    refine lv_lstore_n (lv' := [(1, .long ((31 * ((31 * v1_51) + ((σ.1.1 2).toInt64))) + ((σ.1.1 3).toInt64))), (0, .ref (h 0))]) hx hb dX4_checksum_72 rfl hl (by decide) rfl (fun ls hl => ?_)
    refine lv_aload_n hx hb dX4_checksum_73 rfl (lv_at hl 1 rfl) ?_
    refine va_get (D := (dC, dI)) (ci := 4) (v := .ref (h 20)) (C := RX4) (T := TX4) (N := 19) hx hb hts in_X4 hown hK.1 hP 0 rfl rfl 6 (by decide) (hts _ q956) (fun _ h9 => h9) rfl dX4_checksum_74 ?_
    have hU := hF.1
    have hF := hF.2
    refine lsIter (fp1 _ _ _) ⟨hx, hb, hr, hml, hown, hts, hlocks⟩ hK hP hD hZ.1 hS hA hU q1749 ⟨Nat.le_of_ble_eq_true rfl, Nat.le_of_ble_eq_true rfl⟩ hl.1 (Nat.le_of_ble_eq_true rfl) dX4_checksum_77 ⟨Nat.le_of_ble_eq_true rfl, Nat.le_of_ble_eq_true rfl⟩ (fun it77 H1 locs hP1 hD1 hS => ?_)
    have hP := va_P.perm (fpI1 _ _ _ _ _ _).symm hP1
    have hD := va_D.perm (fpI1 _ _ _ _ _ _).symm hD1
    generalize H1 = H at hP hS ⊢
    have hP : va_P (dC, dI) classes (wC h cy (sI σ.1 5 0) ++ (wl ad cy (z 0) (h 20) σ.2.1 ++ (wl ad cy (z 0) (h 21) σ.2.2.1 ++ (wl ad cy (z 0) (h 22) σ.2.2.2.1 ++ (wS h cy σ.2.2.2.2 ++ [wI it77 (h 20) 0 (-1) σ.2.1.2.2.2.1]))))) H := hP
    have hD : va_D A (wC h cy (sI σ.1 5 0) ++ (wl ad cy (z 0) (h 20) σ.2.1 ++ (wl ad cy (z 0) (h 21) σ.2.2.1 ++ (wl ad cy (z 0) (h 22) σ.2.2.2.1 ++ (wS h cy σ.2.2.2.2 ++ [wI it77 (h 20) 0 (-1) σ.2.1.2.2.2.1]))))) := hD
    refine lv_astore_n (lv' := [(3, .ref it77), (1, .long ((31 * ((31 * v1_51) + ((σ.1.1 2).toInt64))) + ((σ.1.1 3).toInt64))), (0, .ref (h 0))]) hx hb dX4_checksum_82 rfl hl (by decide) rfl (fun ls hl => ?_)
    have hX83 : ∀ (v1_123 : Int64), ∀ (i_123 : Nat), ∀ (lr_123 : Int32), (fun (v1_123 : Int64) (i_123 : Nat) (lr_123 : Int32) => (P v1_123 (sI σ.1 5 0, σ.2.1, σ.2.2.1, σ.2.2.2.1, σ.2.2.2.2))) v1_123 i_123 lr_123 → ∀ (H : Heap) (locs : List Loc), va_P (dC, dI) classes (wC h cy (sI σ.1 5 0) ++ (wl ad cy (z 0) (h 20) σ.2.1 ++ (wl ad cy (z 0) (h 21) σ.2.2.1 ++ (wl ad cy (z 0) (h 22) σ.2.2.2.1 ++ (wS h cy σ.2.2.2.2 ++ [wI it77 (h 20) i_123 lr_123 σ.2.1.2.2.2.1]))))) H → va_D A (wC h cy (sI σ.1 5 0) ++ (wl ad cy (z 0) (h 20) σ.2.1 ++ (wl ad cy (z 0) (h 21) σ.2.2.1 ++ (wl ad cy (z 0) (h 22) σ.2.2.2.1 ++ (wS h cy σ.2.2.2.2 ++ [wI it77 (h 20) i_123 lr_123 σ.2.1.2.2.2.1]))))) → va_S A s.heap H locs → ∀ (ls : Array Slot), lv_has ls 5 [(1, .long v1_123)] → W p l e ({ frames := 3, cells := 1, slots := 15, locals := 80 } : Room) s m ([.ref (h 0)] : List Value).toArray below meth c H locs 1 4 (MQ below (va_Ql (fun r u => P r u) (fun (u : FX) t => va_P (dC, dI) classes (wC h cy u.1 ++ (wl ad cy (z 0) (h 20) u.2.1 ++ (wl ad cy (z 0) (h 21) u.2.2.1 ++ (wl ad cy (z 0) (h 22) u.2.2.2.1 ++ wS h cy u.2.2.2.2)))) t.heap ∧ va_D A (wC h cy u.1 ++ (wl ad cy (z 0) (h 20) u.2.1 ++ (wl ad cy (z 0) (h 21) u.2.2.1 ++ (wl ad cy (z 0) (h 22) u.2.2.2.1 ++ wS h cy u.2.2.2.2))))) A) ([.ref (h 0)] : List Value).toArray s 1 15 A) (F0 m 123 ls []) := by
      intro v1_123 i_123 lr_123 hF H locs hP hD hS ls hl
      refine lv_lload_n hx hb dX4_checksum_123 rfl (lv_at hl 0 rfl) ?_
      have hP := fw_get (fpE _ _ _ _ _ _) hP
      have hD := fw_getD (fpE _ _ _ _ _ _) hD
      refine W.widen (k := 1) (n := 15) (Nat.le_of_ble_eq_true rfl) (Nat.le_of_ble_eq_true rfl) ?_
      exact W.lret (v := v1_123) hx hb hr (fun t ht hW => ⟨⟨v1_123, (sI σ.1 5 0, σ.2.1, σ.2.2.1, σ.2.2.2.1, σ.2.2.2.2), rfl, hF, by rw [ht]; exact hP, hD⟩, hS.F ht⟩) hS.2.2 dX4_checksum_124
    have hL83 : ∀ (K83 : Int64 → Nat → Int32 → Prop), (∀ (v1_123 : Int64), ∀ (i_123 : Nat), ∀ (lr_123 : Int32), K83 v1_123 i_123 lr_123 → ∀ (H : Heap) (locs : List Loc), va_P (dC, dI) classes (wC h cy (sI σ.1 5 0) ++ (wl ad cy (z 0) (h 20) σ.2.1 ++ (wl ad cy (z 0) (h 21) σ.2.2.1 ++ (wl ad cy (z 0) (h 22) σ.2.2.2.1 ++ (wS h cy σ.2.2.2.2 ++ [wI it77 (h 20) i_123 lr_123 σ.2.1.2.2.2.1]))))) H → va_D A (wC h cy (sI σ.1 5 0) ++ (wl ad cy (z 0) (h 20) σ.2.1 ++ (wl ad cy (z 0) (h 21) σ.2.2.1 ++ (wl ad cy (z 0) (h 22) σ.2.2.2.1 ++ (wS h cy σ.2.2.2.2 ++ [wI it77 (h 20) i_123 lr_123 σ.2.1.2.2.2.1]))))) → va_S A s.heap H locs → ∀ (ls : Array Slot), lv_has ls 5 [(1, .long v1_123)] → W p l e ({ frames := 3, cells := 1, slots := 15, locals := 80 } : Room) s m ([.ref (h 0)] : List Value).toArray below meth c H locs 1 4 (MQ below (va_Ql (fun r u => P r u) (fun (u : FX) t => va_P (dC, dI) classes (wC h cy u.1 ++ (wl ad cy (z 0) (h 20) u.2.1 ++ (wl ad cy (z 0) (h 21) u.2.2.1 ++ (wl ad cy (z 0) (h 22) u.2.2.2.1 ++ wS h cy u.2.2.2.2)))) t.heap ∧ va_D A (wC h cy u.1 ++ (wl ad cy (z 0) (h 20) u.2.1 ++ (wl ad cy (z 0) (h 21) u.2.2.1 ++ (wl ad cy (z 0) (h 22) u.2.2.2.1 ++ wS h cy u.2.2.2.2))))) A) ([.ref (h 0)] : List Value).toArray s 1 15 A) (F0 m 123 ls [])) → ∀ (nn : Nat), ∀ (v1_83 : Int64), ∀ (i_83 : Nat), ∀ (lr_83 : Int32), wp_X4_checksum_L83 σ K83 nn v1_83 i_83 lr_83 → ∀ (H : Heap) (locs : List Loc), va_P (dC, dI) classes (wC h cy (sI σ.1 5 0) ++ (wl ad cy (z 0) (h 20) σ.2.1 ++ (wl ad cy (z 0) (h 21) σ.2.2.1 ++ (wl ad cy (z 0) (h 22) σ.2.2.2.1 ++ (wS h cy σ.2.2.2.2 ++ [wI it77 (h 20) i_83 lr_83 σ.2.1.2.2.2.1]))))) H → va_D A (wC h cy (sI σ.1 5 0) ++ (wl ad cy (z 0) (h 20) σ.2.1 ++ (wl ad cy (z 0) (h 21) σ.2.2.1 ++ (wl ad cy (z 0) (h 22) σ.2.2.2.1 ++ (wS h cy σ.2.2.2.2 ++ [wI it77 (h 20) i_83 lr_83 σ.2.1.2.2.2.1]))))) → va_S A s.heap H locs → ∀ (ls : Array Slot), lv_has ls 5 [(3, .ref it77), (1, .long v1_83), (0, .ref (h 0))] → W p l e ({ frames := 3, cells := 1, slots := 15, locals := 80 } : Room) s m ([.ref (h 0)] : List Value).toArray below meth c H locs 1 4 (MQ below (va_Ql (fun r u => P r u) (fun (u : FX) t => va_P (dC, dI) classes (wC h cy u.1 ++ (wl ad cy (z 0) (h 20) u.2.1 ++ (wl ad cy (z 0) (h 21) u.2.2.1 ++ (wl ad cy (z 0) (h 22) u.2.2.2.1 ++ wS h cy u.2.2.2.2)))) t.heap ∧ va_D A (wC h cy u.1 ++ (wl ad cy (z 0) (h 20) u.2.1 ++ (wl ad cy (z 0) (h 21) u.2.2.1 ++ (wl ad cy (z 0) (h 22) u.2.2.2.1 ++ wS h cy u.2.2.2.2))))) A) ([.ref (h 0)] : List Value).toArray s 1 15 A) (F0 m 83 ls []) := by
      intro K83 hX83 nn
      induction nn with
      | zero =>
        intro v1_83 i_83 lr_83 hF
        exact hF.elim
      | succ nn ih =>
        intro v1_83 i_83 lr_83 hF H locs hP hD hS ls hl
        obtain ⟨rec83, hrec⟩ : ∃ z : Int64 → Nat → Int32 → Prop, z = wp_X4_checksum_L83 σ K83 nn := ⟨_, rfl⟩
        have hF : wp_X4_checksum_B83 σ K83 rec83 v1_83 i_83 lr_83 := by rw [hrec]; exact hF
        rw [← hrec] at ih
        clear hrec
        unfold wp_X4_checksum_B83 at hF
        refine lv_aload_n hx hb dX4_checksum_83 rfl (lv_at hl 0 rfl) ?_
        have hU := hF.1
        have hI := hF.2.1
        have hF := hF.2.2
        refine lsHas2 (fpI1 _ _ _ _ _ _) ⟨hx, hb, hr, hml, hown, hts, hlocks⟩ hK hP hU hI q1777 ⟨Nat.le_of_ble_eq_true rfl, Nat.le_of_ble_eq_true rfl⟩ hl.1 (Nat.le_of_ble_eq_true rfl) dX4_checksum_84 ⟨Nat.le_of_ble_eq_true rfl, Nat.le_of_ble_eq_true rfl⟩ ?_
        refine lv_if_eq (tgt := 123) hx hb dX4_checksum_89 (by decide) (fun cz => ?_) (fun cz => ?_)
        · have hF := hF.1 cz
          exact hX83 v1_83 i_83 lr_83 hF _ _ hP hD hS _ (lv_sub hl [1] rfl)
        · have hF := hF.2 cz
          refine lv_aload_n hx hb dX4_checksum_92 rfl (lv_at hl 0 rfl) ?_
          have hU := hF.1
          have hI := hF.2.1
          have hM9 := hF.2.2.1
          have hF := hF.2.2.2
          have hB93 : σ.2.1.2.2.2.2.1 i_83 < 128 := hU.2.1 _ hI
          refine lsNext (fpI1 _ _ _ _ _ _) ⟨hx, hb, hr, hml, hown, hts, hlocks⟩ hK hP hD hZ.1 hS hA hU hI hM9 q1787 ⟨Nat.le_of_ble_eq_true rfl, Nat.le_of_ble_eq_true rfl⟩ hl.1 (Nat.le_of_ble_eq_true rfl) dX4_checksum_93 ⟨Nat.le_of_ble_eq_true rfl, Nat.le_of_ble_eq_true rfl⟩ (fun H1 locs hP1 hD1 hS => ?_)
          have hP := va_P.perm (fpI1 _ _ _ _ _ _).symm hP1
          have hD := va_D.perm (fpI1 _ _ _ _ _ _).symm hD1
          generalize H1 = H at hP hS ⊢
          have hP : va_P (dC, dI) classes (wC h cy (sI σ.1 5 0) ++ (wl ad cy (z 0) (h 20) σ.2.1 ++ (wl ad cy (z 0) (h 21) σ.2.2.1 ++ (wl ad cy (z 0) (h 22) σ.2.2.2.1 ++ (wS h cy σ.2.2.2.2 ++ [wI it77 (h 20) (i_83 + 1) (nI i_83) σ.2.1.2.2.2.1]))))) H := hP
          have hD : va_D A (wC h cy (sI σ.1 5 0) ++ (wl ad cy (z 0) (h 20) σ.2.1 ++ (wl ad cy (z 0) (h 21) σ.2.2.1 ++ (wl ad cy (z 0) (h 22) σ.2.2.2.1 ++ (wS h cy σ.2.2.2.2 ++ [wI it77 (h 20) (i_83 + 1) (nI i_83) σ.2.1.2.2.2.1]))))) := hD
          refine va_castE hx hb hown (hts _ q1376) (box_at hZ.1 hS (by have := hB93; omega)) dX4_checksum_98 ?_
          refine czVi ⟨hx, hb, hr, hml, hown, hts, hlocks⟩ hZ.1 hS (by have := hB93; omega) (m_J6_intValue_8abf5 l (z 0) (z 1) ad (σ.2.1.2.2.2.2.1 i_83) hB93) k_J6_intValue_8abf5 q1377 ⟨rfl, rfl⟩ ⟨Nat.le_of_ble_eq_true rfl, Nat.le_of_ble_eq_true rfl⟩ hl.1 (Nat.le_of_ble_eq_true rfl) dX4_checksum_101 ⟨Nat.le_of_ble_eq_true rfl, Nat.le_of_ble_eq_true rfl⟩ (fun r9 hr9 => ?_)
          rw [hr9]
          refine lv_istore (lv' := [(4, .int (nI (σ.2.1.2.2.2.2.1 i_83))), (3, .ref it77), (1, .long v1_83), (0, .ref (h 0))]) hx hb dX4_checksum_104 hl (by decide) rfl (fun ls hl => ?_)
          refine lv_ldc2 (v := 31) hx hb hown (hts _ q1823) dX4_checksum_106 ?_
          refine lv_lload_n hx hb dX4_checksum_109 rfl (lv_at hl 2 rfl) ?_
          refine lv_lmul hx hb dX4_checksum_110 ?_
          refine lv_aload_n hx hb dX4_checksum_111 rfl (lv_at hl 3 rfl) ?_
          refine lv_iload hx hb dX4_checksum_112 (lv_at hl 0 rfl) ?_
          have hPc := fw_get (fp0 _ _) hP
          refine cpVi (q0 := 0) (As := [.int (nI (σ.2.1.2.2.2.2.1 i_83))]) (rest := [.long (31 * v1_83)]) ⟨hx, hb, hr, hml, hown, hts, hlocks⟩ hK hPc rfl rfl (m_X4_codeOf l dC dI h cy (sI σ.1 5 0) (nI (σ.2.1.2.2.2.2.1 i_83)) _ hF) k_X4_codeOf q1332 ⟨rfl, rfl⟩ ⟨Nat.le_of_ble_eq_true rfl, Nat.le_of_ble_eq_true rfl⟩ hl.1 rfl rfl (Nat.le_of_ble_eq_true rfl) dX4_checksum_114 ⟨Nat.le_of_ble_eq_true rfl, Nat.le_of_ble_eq_true rfl⟩ (fun r114 hF => ?_)
          refine lv_i2l hx hb dX4_checksum_117 rfl ?_
          refine lv_ladd hx hb dX4_checksum_118 ?_
          refine lv_lstore_n (lv' := [(1, .long ((31 * v1_83) + r114.toInt64)), (4, .int (nI (σ.2.1.2.2.2.2.1 i_83))), (3, .ref it77), (0, .ref (h 0))]) hx hb dX4_checksum_119 rfl hl (by decide) rfl (fun ls hl => ?_)
          refine lv_goto (tgt := 83) hx hb dX4_checksum_120 (by decide) ?_
          exact ih ((31 * v1_83) + r114.toInt64) (i_83 + 1) (nI i_83) hF _ _ hP hD hS _ (lv_sub hl [2, 0, 3] rfl)
    exact hL83 _ hX83 fu ((31 * ((31 * v1_51) + ((σ.1.1 2).toInt64))) + ((σ.1.1 3).toInt64)) 0 (-1) hF _ _ hP hD hS _ (lv_sub hl [0, 1, 2] rfl)
  have hL11 : ∀ (K11 : Int64 → Prop), (∀ (v1_51 : Int64), K11 v1_51 → ∀ (H : Heap) (locs : List Loc), va_P (dC, dI) classes (wC h cy (sI σ.1 5 0) ++ (wl ad cy (z 0) (h 20) σ.2.1 ++ (wl ad cy (z 0) (h 21) σ.2.2.1 ++ (wl ad cy (z 0) (h 22) σ.2.2.2.1 ++ wS h cy σ.2.2.2.2)))) H → va_D A (wC h cy (sI σ.1 5 0) ++ (wl ad cy (z 0) (h 20) σ.2.1 ++ (wl ad cy (z 0) (h 21) σ.2.2.1 ++ (wl ad cy (z 0) (h 22) σ.2.2.2.1 ++ wS h cy σ.2.2.2.2)))) → va_S A s.heap H locs → ∀ (ls : Array Slot), lv_has ls 5 [(1, .long v1_51), (0, .ref (h 0))] → W p l e ({ frames := 3, cells := 1, slots := 15, locals := 80 } : Room) s m ([.ref (h 0)] : List Value).toArray below meth c H locs 0 0 (MQ below (va_Ql (fun r u => P r u) (fun (u : FX) t => va_P (dC, dI) classes (wC h cy u.1 ++ (wl ad cy (z 0) (h 20) u.2.1 ++ (wl ad cy (z 0) (h 21) u.2.2.1 ++ (wl ad cy (z 0) (h 22) u.2.2.2.1 ++ wS h cy u.2.2.2.2)))) t.heap ∧ va_D A (wC h cy u.1 ++ (wl ad cy (z 0) (h 20) u.2.1 ++ (wl ad cy (z 0) (h 21) u.2.2.1 ++ (wl ad cy (z 0) (h 22) u.2.2.2.1 ++ wS h cy u.2.2.2.2))))) A) ([.ref (h 0)] : List Value).toArray s 1 15 A) (F0 m 51 ls [])) → ∀ (nn : Nat), ∀ (v3_11 : Int32), ∀ (v1_11 : Int64), wp_X4_checksum_L11 σ K11 nn v3_11 v1_11 → ∀ (H : Heap) (locs : List Loc), va_P (dC, dI) classes (wC h cy (sI σ.1 5 0) ++ (wl ad cy (z 0) (h 20) σ.2.1 ++ (wl ad cy (z 0) (h 21) σ.2.2.1 ++ (wl ad cy (z 0) (h 22) σ.2.2.2.1 ++ wS h cy σ.2.2.2.2)))) H → va_D A (wC h cy (sI σ.1 5 0) ++ (wl ad cy (z 0) (h 20) σ.2.1 ++ (wl ad cy (z 0) (h 21) σ.2.2.1 ++ (wl ad cy (z 0) (h 22) σ.2.2.2.1 ++ wS h cy σ.2.2.2.2)))) → va_S A s.heap H locs → ∀ (ls : Array Slot), lv_has ls 5 [(3, .int v3_11), (1, .long v1_11), (0, .ref (h 0))] → W p l e ({ frames := 3, cells := 1, slots := 15, locals := 80 } : Room) s m ([.ref (h 0)] : List Value).toArray below meth c H locs 0 0 (MQ below (va_Ql (fun r u => P r u) (fun (u : FX) t => va_P (dC, dI) classes (wC h cy u.1 ++ (wl ad cy (z 0) (h 20) u.2.1 ++ (wl ad cy (z 0) (h 21) u.2.2.1 ++ (wl ad cy (z 0) (h 22) u.2.2.2.1 ++ wS h cy u.2.2.2.2)))) t.heap ∧ va_D A (wC h cy u.1 ++ (wl ad cy (z 0) (h 20) u.2.1 ++ (wl ad cy (z 0) (h 21) u.2.2.1 ++ (wl ad cy (z 0) (h 22) u.2.2.2.1 ++ wS h cy u.2.2.2.2))))) A) ([.ref (h 0)] : List Value).toArray s 1 15 A) (F0 m 11 ls []) := by
    intro K11 hX11 nn
    induction nn with
    | zero =>
      intro v3_11 v1_11 hF
      exact hF.elim
    | succ nn ih =>
      intro v3_11 v1_11 hF H locs hP hD hS ls hl
      obtain ⟨rec11, hrec⟩ : ∃ z : Int32 → Int64 → Prop, z = wp_X4_checksum_L11 σ K11 nn := ⟨_, rfl⟩
      have hF : wp_X4_checksum_B11 σ K11 rec11 v3_11 v1_11 := by rw [hrec]; exact hF
      rw [← hrec] at ih
      clear hrec
      unfold wp_X4_checksum_B11 at hF
      refine lv_iload_n hx hb dX4_checksum_11 rfl (lv_at hl 0 rfl) ?_
      refine lv_aload_n hx hb dX4_checksum_12 rfl (lv_at hl 2 rfl) ?_
      refine va_get (D := (dC, dI)) (ci := 4) (v := .int (σ.1.1 0)) (C := RX4) (T := TX4) (N := 19) hx hb hts in_X4 hown hK.1 hP 0 rfl rfl 13 (by decide) (hts _ q963) (fun _ h9 => h9) rfl dX4_checksum_13 ?_
      refine lv_icmp_ge (tgt := 51) hx hb dX4_checksum_16 (by decide) (fun cz => ?_) (fun cz => ?_)
      · have hF := hF.1 cz
        exact hX11 v1_11 hF _ _ hP hD hS _ (lv_sub hl [1, 2] rfl)
      · have hF := hF.2 cz
        refine lv_ldc2 (v := 31) hx hb hown (hts _ q1823) dX4_checksum_19 ?_
        refine lv_ldc2 (v := 31) hx hb hown (hts _ q1823) dX4_checksum_22 ?_
        refine lv_lload_n hx hb dX4_checksum_25 rfl (lv_at hl 1 rfl) ?_
        refine lv_lmul hx hb dX4_checksum_26 ?_
        refine lv_aload_n hx hb dX4_checksum_27 rfl (lv_at hl 2 rfl) ?_
        refine va_get (D := (dC, dI)) (ci := 4) (v := .ref (h 2)) (C := RX4) (T := TX4) (N := 19) hx hb hts in_X4 hown hK.1 hP 0 rfl rfl 1 (by decide) (hts _ q951) (fun _ h9 => h9) rfl dX4_checksum_28 ?_
        refine lv_iload_n hx hb dX4_checksum_31 rfl (lv_at hl 0 rfl) ?_
        have hI := hF.1
        have hF := hF.2
        refine va_iald hx hb hK.1 hP 2 0 rfl rfl hI dX4_checksum_32 ?_
        refine lv_i2l hx hb dX4_checksum_33 rfl ?_
        refine lv_ladd hx hb dX4_checksum_34 ?_
        refine lv_lmul hx hb dX4_checksum_35 ?_
        refine lv_aload_n hx hb dX4_checksum_36 rfl (lv_at hl 2 rfl) ?_
        refine va_get (D := (dC, dI)) (ci := 4) (v := .ref (h 3)) (C := RX4) (T := TX4) (N := 19) hx hb hts in_X4 hown hK.1 hP 0 rfl rfl 2 (by decide) (hts _ q952) (fun _ h9 => h9) rfl dX4_checksum_37 ?_
        refine lv_iload_n hx hb dX4_checksum_40 rfl (lv_at hl 0 rfl) ?_
        have hI := hF.1
        have hF := hF.2
        refine va_iald hx hb hK.1 hP 3 0 rfl rfl hI dX4_checksum_41 ?_
        refine lv_i2l hx hb dX4_checksum_42 rfl ?_
        refine lv_ladd hx hb dX4_checksum_43 ?_
        refine lv_lstore_n (lv' := [(1, .long ((31 * ((31 * v1_11) + (((σ.1.2.1 1) v3_11.toNatClampNeg).toInt64))) + (((σ.1.2.1 2) v3_11.toNatClampNeg).toInt64))), (3, .int v3_11), (0, .ref (h 0))]) hx hb dX4_checksum_44 rfl hl (by decide) rfl (fun ls hl => ?_)
        refine lv_iinc (v := v3_11 + 1) (lv' := [(3, .int (v3_11 + 1)), (1, .long ((31 * ((31 * v1_11) + (((σ.1.2.1 1) v3_11.toNatClampNeg).toInt64))) + (((σ.1.2.1 2) v3_11.toNatClampNeg).toInt64))), (0, .ref (h 0))]) hx hb dX4_checksum_45 hl (k := 1) rfl (by rfl) (by decide) rfl (fun ls hl => ?_)
        refine lv_goto (tgt := 11) hx hb dX4_checksum_48 (by decide) ?_
        exact ih (v3_11 + 1) ((31 * ((31 * v1_11) + (((σ.1.2.1 1) v3_11.toNatClampNeg).toInt64))) + (((σ.1.2.1 2) v3_11.toNatClampNeg).toInt64)) hF _ _ hP hD hS _ (lv_sub hl [0, 1, 2] rfl)
  exact hL11 _ hX11 fu 0 7 hF _ _ hP hD hS _ (lv_sub hl [0, 1, 2] rfl)
