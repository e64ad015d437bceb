theorem dX2_wipe_0 : decode cX2_wipe 0 = .ok (.iconst 0, 1) := by decide +kernel
theorem dX2_wipe_1 : decode cX2_wipe 1 = .ok (.istore_n 1, 1) := by decide +kernel
theorem dX2_wipe_2 : decode cX2_wipe 2 = .ok (.iload_n 1, 1) := by decide +kernel
theorem dX2_wipe_3 : decode cX2_wipe 3 = .ok (.aload_n 0, 1) := by decide +kernel
theorem dX2_wipe_4 : decode cX2_wipe 4 = .ok (.getfield 49, 3) := by decide +kernel
theorem dX2_wipe_7 : decode cX2_wipe 7 = .ok (.if_icmp .ge 45, 3) := by decide +kernel
theorem dX2_wipe_10 : decode cX2_wipe 10 = .ok (.iload_n 1, 1) := by decide +kernel
theorem dX2_wipe_11 : decode cX2_wipe 11 = .ok (.aload_n 0, 1) := by decide +kernel
theorem dX2_wipe_12 : decode cX2_wipe 12 = .ok (.getfield 9, 3) := by decide +kernel
theorem dX2_wipe_15 : decode cX2_wipe 15 = .ok (.arraylength, 1) := by decide +kernel
theorem dX2_wipe_16 : decode cX2_wipe 16 = .ok (.if_icmp .ge 36, 3) := by decide +kernel
theorem dX2_wipe_19 : decode cX2_wipe 19 = .ok (.aload_n 0, 1) := by decide +kernel
theorem dX2_wipe_20 : decode cX2_wipe 20 = .ok (.getfield 9, 3) := by decide +kernel
theorem dX2_wipe_23 : decode cX2_wipe 23 = .ok (.iload_n 1, 1) := by decide +kernel
theorem dX2_wipe_24 : decode cX2_wipe 24 = .ok (.iaload, 1) := by decide +kernel
theorem dX2_wipe_25 : decode cX2_wipe 25 = .ok (.istore_n 2, 1) := by decide +kernel
theorem dX2_wipe_26 : decode cX2_wipe 26 = .ok (.iload_n 2, 1) := by decide +kernel
theorem dX2_wipe_27 : decode cX2_wipe 27 = .ok (.ifCond .lt 19, 3) := by decide +kernel
theorem dX2_wipe_30 : decode cX2_wipe 30 = .ok (.iload_n 2, 1) := by decide +kernel
theorem dX2_wipe_31 : decode cX2_wipe 31 = .ok (.aload_n 0, 1) := by decide +kernel
theorem dX2_wipe_32 : decode cX2_wipe 32 = .ok (.getfield 15, 3) := by decide +kernel
theorem dX2_wipe_35 : decode cX2_wipe 35 = .ok (.arraylength, 1) := by decide +kernel
theorem dX2_wipe_36 : decode cX2_wipe 36 = .ok (.if_icmp .ge 10, 3) := by decide +kernel
theorem dX2_wipe_39 : decode cX2_wipe 39 = .ok (.aload_n 0, 1) := by decide +kernel
theorem dX2_wipe_40 : decode cX2_wipe 40 = .ok (.getfield 15, 3) := by decide +kernel
theorem dX2_wipe_43 : decode cX2_wipe 43 = .ok (.iload_n 2, 1) := by decide +kernel
theorem dX2_wipe_44 : decode cX2_wipe 44 = .ok (.lconst 0, 1) := by decide +kernel
theorem dX2_wipe_45 : decode cX2_wipe 45 = .ok (.lastore, 1) := by decide +kernel
theorem dX2_wipe_46 : decode cX2_wipe 46 = .ok (.iinc 1 1, 3) := by decide +kernel
theorem dX2_wipe_49 : decode cX2_wipe 49 = .ok (.goto (-47), 3) := by decide +kernel
theorem dX2_wipe_52 : decode cX2_wipe 52 = .ok (.aload_n 0, 1) := by decide +kernel
theorem dX2_wipe_53 : decode cX2_wipe 53 = .ok (.iconst 0, 1) := by decide +kernel
theorem dX2_wipe_54 : decode cX2_wipe 54 = .ok (.putfield 49, 3) := by decide +kernel
theorem dX2_wipe_57 : decode cX2_wipe 57 = .ok (.aload_n 0, 1) := by decide +kernel
theorem dX2_wipe_58 : decode cX2_wipe 58 = .ok (.iconst 0, 1) := by decide +kernel
theorem dX2_wipe_59 : decode cX2_wipe 59 = .ok (.putfield 56, 3) := by decide +kernel
theorem dX2_wipe_62 : decode cX2_wipe 62 = .ok (.aload_n 0, 1) := by decide +kernel
theorem dX2_wipe_63 : decode cX2_wipe 63 = .ok (.iconst 0, 1) := by decide +kernel
theorem dX2_wipe_64 : decode cX2_wipe 64 = .ok (.putfield 59, 3) := by decide +kernel
theorem dX2_wipe_67 : decode cX2_wipe 67 = .ok (.aload_n 0, 1) := by decide +kernel
theorem dX2_wipe_68 : decode cX2_wipe 68 = .ok (.iconst 0, 1) := by decide +kernel
theorem dX2_wipe_69 : decode cX2_wipe 69 = .ok (.putfield 62, 3) := by decide +kernel
theorem dX2_wipe_72 : decode cX2_wipe 72 = .ok (.aload_n 0, 1) := by decide +kernel
theorem dX2_wipe_73 : decode cX2_wipe 73 = .ok (.iconst 0, 1) := by decide +kernel
theorem dX2_wipe_74 : decode cX2_wipe 74 = .ok (.putfield 26, 3) := by decide +kernel
theorem dX2_wipe_77 : decode cX2_wipe 77 = .ok (.return_, 1) := by decide +kernel
def wp_X2_wipe_J46 (rec2 : Int32 → SX → Prop) (v1_2 : Int32) (s_46 : SX) : Prop := (rec2 (v1_2 + 1) s_46)
def wp_X2_wipe_B2 (K2 : SX → Prop) (rec2 : Int32 → SX → Prop) (v1_2 : Int32) (s_2 : SX) : Prop := (((s_2.1 7) ≤ v1_2 → (K2 s_2)) ∧ (¬ (s_2.1 7) ≤ v1_2 → ((8192 ≤ v1_2 → (K2 s_2)) ∧ (¬ 8192 ≤ v1_2 → (vp_in v1_2 8192 ∧ ((((s_2.2.1 6) v1_2.toNatClampNeg) < 0 → (wp_X2_wipe_J46 rec2 v1_2 s_2)) ∧ (¬ ((s_2.2.1 6) v1_2.toNatClampNeg) < 0 → ((8192 ≤ ((s_2.2.1 6) v1_2.toNatClampNeg) → (wp_X2_wipe_J46 rec2 v1_2 s_2)) ∧ (¬ 8192 ≤ ((s_2.2.1 6) v1_2.toNatClampNeg) → (vp_in ((s_2.2.1 6) v1_2.toNatClampNeg) 8192 ∧ (wp_X2_wipe_J46 rec2 v1_2 (sJ s_2 (vp_updL s_2.2.2 ((s_2.2.1 6) v1_2.toNatClampNeg).toNatClampNeg 0)))))))))))))
def wp_X2_wipe_L2 (K2 : SX → Prop) : Nat → Int32 → SX → Prop
  | 0, _, _ => False
  | nn + 1, v1_2, s_2 => wp_X2_wipe_B2 K2 (wp_X2_wipe_L2 K2 nn) v1_2 s_2
def wp_X2_wipe (fu : Nat) (σ : SX) (P : SX → Prop) : Prop := (wp_X2_wipe_L2 (fun (s_52 : SX) => (P (sI (sI (sI (sI (sI s_52 7 0) 9 0) 11 0) 12 0) 13 0))) fu 0 σ)
theorem k_X2_wipe : KV RX2 yX2_wipe cX2_wipe 3 none 0 := ⟨q238, qs2, q4, q239, by decide +kernel⟩
set_option maxHeartbeats 4000000 in
set_option maxRecDepth 100000 in
theorem m_X2_wipe (l : Launch) (dC : Nat → ClassId) (dI : Nat → Nat → Nat) (h : Nat → Nat) (cy : Nat → ClassId) (sz : Nat) (fu : Nat) (σ : SX) (P : SX → Prop) (hF : wp_X2_wipe fu σ P) : Met l yX2_wipe (ws_ yX2_wipe cX2_wipe 3 none) ({ frames := 0, cells := 0, slots := 0, locals := 0 } : Room) (va_Pc [.ref (h 12)] (fun U => U.heap.size = sz ∧ va_P (dC, dI) classes (wW h cy σ) U.heap ∧ kwX dC dI cy U ∧ va_D (fun _ => True) (wW h cy σ))) (va_Qv (fun u => P u) (fun (u : SX) t => va_P (dC, dI) classes (wW h cy u) t.heap ∧ kwX dC dI cy t ∧ va_D (va_A (wW h cy σ) sz) (wW h cy u)) (va_A (wW h cy σ) sz)) 0 0 (va_A (wW h cy σ) sz) := by
  refine Met.ofCx (own := RX2) (by decide) rfl (Nat.le_of_ble_eq_true rfl) ?_
  intro p e s m below meth c hC hv ls hl
  obtain ⟨hx, hb, hr, hml, hown, hts, hlocks⟩ := hC
  have hl : lv_has ls 3 [(0, .ref (h 12))] := hl
  obtain ⟨hsz, hP, hK, hD0⟩ := hv
  subst hsz
  have hD := hD0.self (sz := s.heap.size)
  generalize hAe : va_A (wW h cy σ) s.heap.size = A at hD ⊢
  have hA : ∀ q : Nat, s.heap.size ≤ q → A q := fun q h => by rw [← hAe]; exact Or.inr h
  have hS : va_S A s.heap s.heap [] := va_S.rf
  clear hAe
  unfold wp_X2_wipe at hF
  refine lv_iconst (v := 0) hx hb dX2_wipe_0 (by decide) ?_
  refine lv_istore_n (lv' := [(1, .int 0), (0, .ref (h 12))]) hx hb dX2_wipe_1 rfl hl (by decide) rfl (fun ls hl => ?_)
  have hX2 : ∀ (s_52 : SX), (fun (s_52 : SX) => (P (sI (sI (sI (sI (sI s_52 7 0) 9 0) 11 0) 12 0) 13 0))) s_52 → ∀ (H : Heap) (locs : List Loc), va_P (dC, dI) classes (wW h cy s_52) H → va_D A (wW h cy s_52) → va_S A s.heap H locs → ∀ (ls : Array Slot), lv_has ls 3 [(0, .ref (h 12))] → W p l e ({ frames := 0, cells := 0, slots := 0, locals := 0 } : Room) s m ([.ref (h 12)] : List Value).toArray below meth c H locs 0 0 (MQ below (va_Qv (fun u => P u) (fun (u : SX) t => va_P (dC, dI) classes (wW h cy u) t.heap ∧ kwX dC dI cy t ∧ va_D A (wW h cy u)) A) ([.ref (h 12)] : List Value).toArray s 0 0 A) (F0 m 52 ls []) := by
    intro s_52 hF H locs hP hD hS ls hl
    refine lv_aload_n hx hb dX2_wipe_52 rfl (lv_at hl 0 rfl) ?_
    refine lv_iconst (v := 0) hx hb dX2_wipe_53 (by decide) ?_
    refine va_put (D := (dC, dI)) (ci := 2) (v := .int 0) (ty := .int) (C := RX2) (T := TX2) (N := 12) hx hb hts in_X2 tyX2 tyX2_ok nmX2 hown hK.1 hP hD hS 12 rfl rfl 4 (by decide) (hts _ q100) (fun _ h9 => h9) rfl (by decide +kernel) rfl rfl (Nat.le_of_ble_eq_true rfl) dX2_wipe_54 (fun H locs hP hD hS => ?_)
    have hP : va_P (dC, dI) classes (wW h cy (sI s_52 7 0)) H := hP
    have hD : va_D A (wW h cy (sI s_52 7 0)) := hD
    refine lv_aload_n hx hb dX2_wipe_57 rfl (lv_at hl 0 rfl) ?_
    refine lv_iconst (v := 0) hx hb dX2_wipe_58 (by decide) ?_
    refine va_put (D := (dC, dI)) (ci := 2) (v := .int 0) (ty := .int) (C := RX2) (T := TX2) (N := 12) hx hb hts in_X2 tyX2 tyX2_ok nmX2 hown hK.1 hP hD hS 12 rfl rfl 6 (by decide) (hts _ q103) (fun _ h9 => h9) rfl (by decide +kernel) rfl rfl (Nat.le_of_ble_eq_true rfl) dX2_wipe_59 (fun H locs hP hD hS => ?_)
    have hP : va_P (dC, dI) classes (wW h cy (sI (sI s_52 7 0) 9 0)) H := hP
    have hD : va_D A (wW h cy (sI (sI s_52 7 0) 9 0)) := hD
    refine lv_aload_n hx hb dX2_wipe_62 rfl (lv_at hl 0 rfl) ?_
    refine lv_iconst (v := 0) hx hb dX2_wipe_63 (by decide) ?_
    refine va_put (D := (dC, dI)) (ci := 2) (v := .int 0) (ty := .int) (C := RX2) (T := TX2) (N := 12) hx hb hts in_X2 tyX2 tyX2_ok nmX2 hown hK.1 hP hD hS 12 rfl rfl 8 (by decide) (hts _ q107) (fun _ h9 => h9) rfl (by decide +kernel) rfl rfl (Nat.le_of_ble_eq_true rfl) dX2_wipe_64 (fun H locs hP hD hS => ?_)
    have hP : va_P (dC, dI) classes (wW h cy (sI (sI (sI s_52 7 0) 9 0) 11 0)) H := hP
    have hD : va_D A (wW h cy (sI (sI (sI s_52 7 0) 9 0) 11 0)) := hD
    refine lv_aload_n hx hb dX2_wipe_67 rfl (lv_at hl 0 rfl) ?_
    refine lv_iconst (v := 0) hx hb dX2_wipe_68 (by decide) ?_
    refine va_put (D := (dC, dI)) (ci := 2) (v := .int 0) (ty := .int) (C := RX2) (T := TX2) (N := 12) hx hb hts in_X2 tyX2 tyX2_ok nmX2 hown hK.1 hP hD hS 12 rfl rfl 9 (by decide) (hts _ q109) (fun _ h9 => h9) rfl (by decide +kernel) rfl rfl (Nat.le_of_ble_eq_true rfl) dX2_wipe_69 (fun H locs hP hD hS => ?_)
    have hP : va_P (dC, dI) classes (wW h cy (sI (sI (sI (sI s_52 7 0) 9 0) 11 0) 12 0)) H := hP
    have hD : va_D A (wW h cy (sI (sI (sI (sI s_52 7 0) 9 0) 11 0) 12 0)) := hD
    refine lv_aload_n hx hb dX2_wipe_72 rfl (lv_at hl 0 rfl) ?_
    refine lv_iconst (v := 0) hx hb dX2_wipe_73 (by decide) ?_
    refine va_put (D := (dC, dI)) (ci := 2) (v := .int 0) (ty := .int) (C := RX2) (T := TX2) (N := 12) hx hb hts in_X2 tyX2 tyX2_ok nmX2 hown hK.1 hP hD hS 12 rfl rfl 10 (by decide) (hts _ q111) (fun _ h9 => h9) rfl (by decide +kernel) rfl rfl (Nat.le_of_ble_eq_true rfl) dX2_wipe_74 (fun H locs hP hD hS => ?_)
    have hP : va_P (dC, dI) classes (wW h cy (sI (sI (sI (sI (sI s_52 7 0) 9 0) 11 0) 12 0) 13 0)) H := hP
    have hD : va_D A (wW h cy (sI (sI (sI (sI (sI s_52 7 0) 9 0) 11 0) 12 0) 13 0)) := hD
    exact W.vret hx hb hr (fun t ht hW => ⟨⟨sI (sI (sI (sI (sI s_52 7 0) 9 0) 11 0) 12 0) 13 0, rfl, hF, by rw [ht]; exact hP, hK.warm hW, hD⟩, hS.F ht⟩) hS.2.2 dX2_wipe_77
  have hL2 : ∀ (K2 : SX → Prop), (∀ (s_52 : SX), K2 s_52 → ∀ (H : Heap) (locs : List Loc), va_P (dC, dI) classes (wW h cy s_52) H → va_D A (wW h cy s_52) → va_S A s.heap H locs → ∀ (ls : Array Slot), lv_has ls 3 [(0, .ref (h 12))] → W p l e ({ frames := 0, cells := 0, slots := 0, locals := 0 } : Room) s m ([.ref (h 12)] : List Value).toArray below meth c H locs 0 0 (MQ below (va_Qv (fun u => P u) (fun (u : SX) t => va_P (dC, dI) classes (wW h cy u) t.heap ∧ kwX dC dI cy t ∧ va_D A (wW h cy u)) A) ([.ref (h 12)] : List Value).toArray s 0 0 A) (F0 m 52 ls [])) → ∀ (nn : Nat), ∀ (v1_2 : Int32), ∀ (s_2 : SX), wp_X2_wipe_L2 K2 nn v1_2 s_2 → ∀ (H : Heap) (locs : List Loc), va_P (dC, dI) classes (wW h cy s_2) H → va_D A (wW h cy s_2) → va_S A s.heap H locs → ∀ (ls : Array Slot), lv_has ls 3 [(1, .int v1_2), (0, .ref (h 12))] → W p l e ({ frames := 0, cells := 0, slots := 0, locals := 0 } : Room) s m ([.ref (h 12)] : List Value).toArray below meth c H locs 0 0 (MQ below (va_Qv (fun u => P u) (fun (u : SX) t => va_P (dC, dI) classes (wW h cy u) t.heap ∧ kwX dC dI cy t ∧ va_D A (wW h cy u)) A) ([.ref (h 12)] : List Value).toArray s 0 0 A) (F0 m 2 ls []) := by
    intro K2 hX2 nn
    induction nn with
    | zero =>
      intro v1_2 s_2 hF
      exact hF.elim
    | succ nn ih =>
      intro v1_2 s_2 hF H locs hP hD hS ls hl
      obtain ⟨rec2, hrec⟩ : ∃ z : Int32 → SX → Prop, z = wp_X2_wipe_L2 K2 nn := ⟨_, rfl⟩
      have hF : wp_X2_wipe_B2 K2 rec2 v1_2 s_2 := by rw [hrec]; exact hF
      rw [← hrec] at ih
      clear hrec
      unfold wp_X2_wipe_B2 at hF
      refine lv_iload_n hx hb dX2_wipe_2 rfl (lv_at hl 0 rfl) ?_
      refine lv_aload_n hx hb dX2_wipe_3 rfl (lv_at hl 1 rfl) ?_
      refine va_get (D := (dC, dI)) (ci := 2) (v := .int (s_2.1 7)) (C := RX2) (T := TX2) (N := 12) hx hb hts in_X2 hown hK.1 hP 12 rfl rfl 4 (by decide) (hts _ q100) (fun _ h9 => h9) rfl dX2_wipe_4 ?_
      refine lv_icmp_ge (tgt := 52) hx hb dX2_wipe_7 (by decide) (fun cz => ?_) (fun cz => ?_)
      · have hF := hF.1 cz
        exact hX2 s_2 hF _ _ hP hD hS _ (lv_sub hl [1] rfl)
      · have hF := hF.2 cz
        refine lv_iload_n hx hb dX2_wipe_10 rfl (lv_at hl 0 rfl) ?_
        refine lv_aload_n hx hb dX2_wipe_11 rfl (lv_at hl 1 rfl) ?_
        refine va_get (D := (dC, dI)) (ci := 2) (v := .ref (h 13)) (C := RX2) (T := TX2) (N := 12) hx hb hts in_X2 hown hK.1 hP 12 rfl rfl 1 (by decide) (hts _ q97) (fun _ h9 => h9) rfl dX2_wipe_12 ?_
        refine va_alen hx hb hK.1 hP 13 0 rfl rfl (v := 8192) (by rfl) dX2_wipe_15 ?_
        refine lv_icmp_ge (tgt := 52) hx hb dX2_wipe_16 (by decide) (fun cz => ?_) (fun cz => ?_)
        · have hF := hF.1 cz
          exact hX2 s_2 hF _ _ hP hD hS _ (lv_sub hl [1] rfl)
        · have hF := hF.2 cz
          refine lv_aload_n hx hb dX2_wipe_19 rfl (lv_at hl 1 rfl) ?_
          refine va_get (D := (dC, dI)) (ci := 2) (v := .ref (h 13)) (C := RX2) (T := TX2) (N := 12) hx hb hts in_X2 hown hK.1 hP 12 rfl rfl 1 (by decide) (hts _ q97) (fun _ h9 => h9) rfl dX2_wipe_20 ?_
          refine lv_iload_n hx hb dX2_wipe_23 rfl (lv_at hl 0 rfl) ?_
          have hI := hF.1
          have hF := hF.2
          refine va_iald hx hb hK.1 hP 13 0 rfl rfl hI dX2_wipe_24 ?_
          refine lv_istore_n (lv' := [(2, .int ((s_2.2.1 6) v1_2.toNatClampNeg)), (1, .int v1_2), (0, .ref (h 12))]) hx hb dX2_wipe_25 rfl hl (by decide) rfl (fun ls hl => ?_)
          refine lv_iload_n hx hb dX2_wipe_26 rfl (lv_at hl 0 rfl) ?_
          have hJ46 : ∀ (s_46 : SX), wp_X2_wipe_J46 rec2 v1_2 s_46 → ∀ (H : Heap) (locs : List Loc), va_P (dC, dI) classes (wW h cy s_46) H → va_D A (wW h cy s_46) → va_S A s.heap H locs → ∀ (ls : Array Slot), lv_has ls 3 [(1, .int v1_2), (0, .ref (h 12))] → W p l e ({ frames := 0, cells := 0, slots := 0, locals := 0 } : Room) s m ([.ref (h 12)] : List Value).toArray below meth c H locs 0 0 (MQ below (va_Qv (fun u => P u) (fun (u : SX) t => va_P (dC, dI) classes (wW h cy u) t.heap ∧ kwX dC dI cy t ∧ va_D A (wW h cy u)) A) ([.ref (h 12)] : List Value).toArray s 0 0 A) (F0 m 46 ls []) := by
            intro s_46 hF H locs hP hD hS ls hl
            unfold wp_X2_wipe_J46 at hF
            refine lv_iinc (v := v1_2 + 1) (lv' := [(1, .int (v1_2 + 1)), (0, .ref (h 12))]) hx hb dX2_wipe_46 hl (k := 0) rfl (by rfl) (by decide) rfl (fun ls hl => ?_)
            refine lv_goto (tgt := 2) hx hb dX2_wipe_49 (by decide) ?_
            exact ih (v1_2 + 1) s_46 hF _ _ hP hD hS _ (lv_sub hl [0, 1] rfl)
          refine lv_if_lt (tgt := 46) hx hb dX2_wipe_27 (by decide) (fun cz => ?_) (fun cz => ?_)
          · have hF := hF.1 cz
            exact hJ46 s_2 hF _ _ hP hD hS _ (lv_sub hl [1, 2] rfl)
          · have hF := hF.2 cz
            refine lv_iload_n hx hb dX2_wipe_30 rfl (lv_at hl 0 rfl) ?_
            refine lv_aload_n hx hb dX2_wipe_31 rfl (lv_at hl 2 rfl) ?_
            refine va_get (D := (dC, dI)) (ci := 2) (v := .ref (h 14)) (C := RX2) (T := TX2) (N := 12) hx hb hts in_X2 hown hK.1 hP 12 rfl rfl 2 (by decide) (hts _ q98) (fun _ h9 => h9) rfl dX2_wipe_32 ?_
            refine va_alen hx hb hK.1 hP 14 1 rfl rfl (v := 8192) (by rfl) dX2_wipe_35 ?_
            refine lv_icmp_ge (tgt := 46) hx hb dX2_wipe_36 (by decide) (fun cz => ?_) (fun cz => ?_)
            · have hF := hF.1 cz
              exact hJ46 s_2 hF _ _ hP hD hS _ (lv_sub hl [1, 2] rfl)
            · have hF := hF.2 cz
              refine lv_aload_n hx hb dX2_wipe_39 rfl (lv_at hl 2 rfl) ?_
              refine va_get (D := (dC, dI)) (ci := 2) (v := .ref (h 14)) (C := RX2) (T := TX2) (N := 12) hx hb hts in_X2 hown hK.1 hP 12 rfl rfl 2 (by decide) (hts _ q98) (fun _ h9 => h9) rfl dX2_wipe_40 ?_
              refine lv_iload_n hx hb dX2_wipe_43 rfl (lv_at hl 0 rfl) ?_
              refine lv_lconst (v := 0) hx hb dX2_wipe_44 (by decide) ?_
              have hI := hF.1
              have hF := hF.2
              refine va_last hx hb hK.1 hP hD hS 14 1 rfl rfl hI dX2_wipe_45 (fun H locs hP hD hS => ?_)
              have hP : va_P (dC, dI) classes (wW h cy (sJ s_2 (vp_updL s_2.2.2 ((s_2.2.1 6) v1_2.toNatClampNeg).toNatClampNeg 0))) H := hP
              have hD : va_D A (wW h cy (sJ s_2 (vp_updL s_2.2.2 ((s_2.2.1 6) v1_2.toNatClampNeg).toNatClampNeg 0))) := hD
              exact hJ46 (sJ s_2 (vp_updL s_2.2.2 ((s_2.2.1 6) v1_2.toNatClampNeg).toNatClampNeg 0)) hF _ _ hP hD hS _ (lv_sub hl [1, 2] rfl)
  exact hL2 _ hX2 fu 0 σ hF _ _ hP hD hS _ (lv_sub hl [0, 1] rfl)
theorem dX2_find_0 : decode cX2_find 0 = .ok (.iload_n 1, 1) := by decide +kernel
theorem dX2_find_1 : decode cX2_find 1 = .ok (.ifCond .lt 12, 3) := by decide +kernel
theorem dX2_find_4 : decode cX2_find 4 = .ok (.iload_n 1, 1) := by decide +kernel
theorem dX2_find_5 : decode cX2_find 5 = .ok (.aload_n 0, 1) := by decide +kernel
theorem dX2_find_6 : decode cX2_find 6 = .ok (.getfield 15, 3) := by decide +kernel
theorem dX2_find_9 : decode cX2_find 9 = .ok (.arraylength, 1) := by decide +kernel
theorem dX2_find_10 : decode cX2_find 10 = .ok (.if_icmp .lt 4, 3) := by decide +kernel
theorem dX2_find_13 : decode cX2_find 13 = .ok (.return_, 1) := by decide +kernel
theorem dX2_find_14 : decode cX2_find 14 = .ok (.aload_n 0, 1) := by decide +kernel
theorem dX2_find_15 : decode cX2_find 15 = .ok (.getfield 15, 3) := by decide +kernel
theorem dX2_find_18 : decode cX2_find 18 = .ok (.iload_n 1, 1) := by decide +kernel
theorem dX2_find_19 : decode cX2_find 19 = .ok (.laload, 1) := by decide +kernel
theorem dX2_find_20 : decode cX2_find 20 = .ok (.lconst 0, 1) := by decide +kernel
theorem dX2_find_21 : decode cX2_find 21 = .ok (.lcmp, 1) := by decide +kernel
theorem dX2_find_22 : decode cX2_find 22 = .ok (.ifCond .ne 42, 3) := by decide +kernel
theorem dX2_find_25 : decode cX2_find 25 = .ok (.aload_n 0, 1) := by decide +kernel
theorem dX2_find_26 : decode cX2_find 26 = .ok (.getfield 49, 3) := by decide +kernel
theorem dX2_find_29 : decode cX2_find 29 = .ok (.ifCond .lt 35, 3) := by decide +kernel
theorem dX2_find_32 : decode cX2_find 32 = .ok (.aload_n 0, 1) := by decide +kernel
theorem dX2_find_33 : decode cX2_find 33 = .ok (.getfield 49, 3) := by decide +kernel
theorem dX2_find_36 : decode cX2_find 36 = .ok (.aload_n 0, 1) := by decide +kernel
theorem dX2_find_37 : decode cX2_find 37 = .ok (.getfield 9, 3) := by decide +kernel
theorem dX2_find_40 : decode cX2_find 40 = .ok (.arraylength, 1) := by decide +kernel
theorem dX2_find_41 : decode cX2_find 41 = .ok (.if_icmp .ge 23, 3) := by decide +kernel
theorem dX2_find_44 : decode cX2_find 44 = .ok (.aload_n 0, 1) := by decide +kernel
theorem dX2_find_45 : decode cX2_find 45 = .ok (.getfield 9, 3) := by decide +kernel
theorem dX2_find_48 : decode cX2_find 48 = .ok (.aload_n 0, 1) := by decide +kernel
theorem dX2_find_49 : decode cX2_find 49 = .ok (.getfield 49, 3) := by decide +kernel
theorem dX2_find_52 : decode cX2_find 52 = .ok (.iload_n 1, 1) := by decide +kernel
theorem dX2_find_53 : decode cX2_find 53 = .ok (.iastore, 1) := by decide +kernel
theorem dX2_find_54 : decode cX2_find 54 = .ok (.aload_n 0, 1) := by decide +kernel
theorem dX2_find_55 : decode cX2_find 55 = .ok (.dup, 1) := by decide +kernel
theorem dX2_find_56 : decode cX2_find 56 = .ok (.getfield 49, 3) := by decide +kernel
theorem dX2_find_59 : decode cX2_find 59 = .ok (.iconst 1, 1) := by decide +kernel
theorem dX2_find_60 : decode cX2_find 60 = .ok (.iadd, 1) := by decide +kernel
theorem dX2_find_61 : decode cX2_find 61 = .ok (.putfield 49, 3) := by decide +kernel
theorem dX2_find_64 : decode cX2_find 64 = .ok (.aload_n 0, 1) := by decide +kernel
theorem dX2_find_65 : decode cX2_find 65 = .ok (.getfield 15, 3) := by decide +kernel
theorem dX2_find_68 : decode cX2_find 68 = .ok (.iload_n 1, 1) := by decide +kernel
theorem dX2_find_69 : decode cX2_find 69 = .ok (.dup2, 1) := by decide +kernel
theorem dX2_find_70 : decode cX2_find 70 = .ok (.laload, 1) := by decide +kernel
theorem dX2_find_71 : decode cX2_find 71 = .ok (.lload_n 2, 1) := by decide +kernel
theorem dX2_find_72 : decode cX2_find 72 = .ok (.ladd, 1) := by decide +kernel
theorem dX2_find_73 : decode cX2_find 73 = .ok (.lastore, 1) := by decide +kernel
theorem dX2_find_74 : decode cX2_find 74 = .ok (.return_, 1) := by decide +kernel
def wp_X2_find_J64 (x1 : Int32) (x2 : Int64) (P : SX → Prop) (s_64 : SX) : Prop := (vp_in x1 8192 ∧ (vp_in x1 8192 ∧ (P (sJ s_64 (vp_updL s_64.2.2 x1.toNatClampNeg ((s_64.2.2 x1.toNatClampNeg) + x2))))))
def wp_X2_find (σ : SX) (x1 : Int32) (x2 : Int64) (P : SX → Prop) : Prop := ((x1 < 0 → (P σ)) ∧ (¬ x1 < 0 → ((x1 < 8192 → (vp_in x1 8192 ∧ ((¬ (lg_cmp (σ.2.2 x1.toNatClampNeg) 0) = 0 → (wp_X2_find_J64 x1 x2 P σ)) ∧ ((lg_cmp (σ.2.2 x1.toNatClampNeg) 0) = 0 → (((σ.1 7) < 0 → (wp_X2_find_J64 x1 x2 P σ)) ∧ (¬ (σ.1 7) < 0 → ((8192 ≤ (σ.1 7) → (wp_X2_find_J64 x1 x2 P σ)) ∧ (¬ 8192 ≤ (σ.1 7) → (vp_in (σ.1 7) 8192 ∧ (wp_X2_find_J64 x1 x2 P (sI (sA σ 6 (upd (σ.2.1 6) (σ.1 7).toNatClampNeg x1)) 7 ((σ.1 7) + 1)))))))))))) ∧ (¬ x1 < 8192 → (P σ)))))
theorem k_X2_find : KV RX2 yX2_find cX2_find 4 none 2 := ⟨q248, qs3, q4, q249, by decide +kernel⟩
set_option maxHeartbeats 4000000 in
set_option maxRecDepth 100000 in
theorem m_X2_find (l : Launch) (dC : Nat → ClassId) (dI : Nat → Nat → Nat) (h : Nat → Nat) (cy : Nat → ClassId) (sz : Nat) (σ : SX) (x1 : Int32) (x2 : Int64) (P : SX → Prop) (hF : wp_X2_find σ x1 x2 P) : Met l yX2_find (ws_ yX2_find cX2_find 4 none) ({ frames := 0, cells := 0, slots := 0, locals := 0 } : Room) (va_Pc [.ref (h 12), .int x1, .long x2] (fun U => U.heap.size = sz ∧ va_P (dC, dI) classes (wW h cy σ) U.heap ∧ kwX dC dI cy U ∧ va_D (fun _ => True) (wW h cy σ))) (va_Qv (fun u => P u) (fun (u : SX) t => va_P (dC, dI) classes (wW h cy u) t.heap ∧ kwX dC dI cy t ∧ va_D (va_A (wW h cy σ) sz) (wW h cy u)) (va_A (wW h cy σ) sz)) 0 0 (va_A (wW h cy σ) sz) := by
  refine Met.ofCx (own := RX2) (by decide) rfl (Nat.le_of_ble_eq_true rfl) ?_
  intro p e s m below meth c hC hv ls hl
  obtain ⟨hx, hb, hr, hml, hown, hts, hlocks⟩ := hC
  have hl : lv_has ls 4 [(0, .ref (h 12)), (1, .int x1), (2, .long x2)] := hl
  obtain ⟨hsz, hP, hK, hD0⟩ := hv
  subst hsz
  have hD := hD0.self (sz := s.heap.size)
  generalize hAe : va_A (wW h cy σ) s.heap.size = A at hD ⊢
  have hA : ∀ q : Nat, s.heap.size ≤ q → A q := fun q h => by rw [← hAe]; exact Or.inr h
  have hS : va_S A s.heap s.heap [] := va_S.rf
  clear hAe
  unfold wp_X2_find at hF
  refine lv_iload_n hx hb dX2_find_0 rfl (lv_at hl 1 rfl) ?_
  refine lv_if_lt (tgt := 13) hx hb dX2_find_1 (by decide) (fun cz => ?_) (fun cz => ?_)
  · have hF := hF.1 cz
    exact W.vret hx hb hr (fun t ht hW => ⟨⟨σ, rfl, hF, by rw [ht]; exact hP, hK.warm hW, hD⟩, hS.F ht⟩) hS.2.2 dX2_find_13
  · have hF := hF.2 cz
    refine lv_iload_n hx hb dX2_find_4 rfl (lv_at hl 1 rfl) ?_
    refine lv_aload_n hx hb dX2_find_5 rfl (lv_at hl 0 rfl) ?_
    refine va_get (D := (dC, dI)) (ci := 2) (v := .ref (h 14)) (C := RX2) (T := TX2) (N := 12) hx hb hts in_X2 hown hK.1 hP 12 rfl rfl 2 (by decide) (hts _ q98) (fun _ h9 => h9) rfl dX2_find_6 ?_
    refine va_alen hx hb hK.1 hP 14 1 rfl rfl (v := 8192) (by rfl) dX2_find_9 ?_
    refine lv_icmp_lt (tgt := 14) hx hb dX2_find_10 (by decide) (fun cz => ?_) (fun cz => ?_)
    · have hF := hF.1 cz
      refine lv_aload_n hx hb dX2_find_14 rfl (lv_at hl 0 rfl) ?_
      refine va_get (D := (dC, dI)) (ci := 2) (v := .ref (h 14)) (C := RX2) (T := TX2) (N := 12) hx hb hts in_X2 hown hK.1 hP 12 rfl rfl 2 (by decide) (hts _ q98) (fun _ h9 => h9) rfl dX2_find_15 ?_
      refine lv_iload_n hx hb dX2_find_18 rfl (lv_at hl 1 rfl) ?_
      have hI := hF.1
      have hF := hF.2
      refine va_lald hx hb hK.1 hP 14 1 rfl rfl hI dX2_find_19 ?_
      refine lv_lconst (v := 0) hx hb dX2_find_20 (by decide) ?_
      refine W.lcmp hx hb dX2_find_21 ?_
      have hJ64 : ∀ (s_64 : SX), wp_X2_find_J64 x1 x2 P s_64 → ∀ (H : Heap) (locs : List Loc), va_P (dC, dI) classes (wW h cy s_64) H → va_D A (wW h cy s_64) → va_S A s.heap H locs → ∀ (ls : Array Slot), lv_has ls 4 [(0, .ref (h 12)), (1, .int x1), (2, .long x2)] → W p l e ({ frames := 0, cells := 0, slots := 0, locals := 0 } : Room) s m ([.ref (h 12), .int x1, .long x2] : List Value).toArray below meth c H locs 0 0 (MQ below (va_Qv (fun u => P u) (fun (u : SX) t => va_P (dC, dI) classes (wW h cy u) t.heap ∧ kwX dC dI cy t ∧ va_D A (wW h cy u)) A) ([.ref (h 12), .int x1, .long x2] : List Value).toArray s 0 0 A) (F0 m 64 ls []) := by
        intro s_64 hF H locs hP hD hS ls hl
        unfold wp_X2_find_J64 at hF
        refine lv_aload_n hx hb dX2_find_64 rfl (lv_at hl 0 rfl) ?_
        refine va_get (D := (dC, dI)) (ci := 2) (v := .ref (h 14)) (C := RX2) (T := TX2) (N := 12) hx hb hts in_X2 hown hK.1 hP 12 rfl rfl 2 (by decide) (hts _ q98) (fun _ h9 => h9) rfl dX2_find_65 ?_
        refine lv_iload_n hx hb dX2_find_68 rfl (lv_at hl 1 rfl) ?_
        refine lv_dup2_11 hx hb dX2_find_69 rfl rfl ?_
        have hI := hF.1
        have hF := hF.2
        refine va_lald hx hb hK.1 hP 14 1 rfl rfl hI dX2_find_70 ?_
        refine lv_lload_n hx hb dX2_find_71 rfl (lv_at hl 2 rfl) ?_
        refine lv_ladd hx hb dX2_find_72 ?_
        have hI := hF.1
        have hF := hF.2
        refine va_last hx hb hK.1 hP hD hS 14 1 rfl rfl hI dX2_find_73 (fun H locs hP hD hS => ?_)
        have hP : va_P (dC, dI) classes (wW h cy (sJ s_64 (vp_updL s_64.2.2 x1.toNatClampNeg ((s_64.2.2 x1.toNatClampNeg) + x2)))) H := hP
        have hD : va_D A (wW h cy (sJ s_64 (vp_updL s_64.2.2 x1.toNatClampNeg ((s_64.2.2 x1.toNatClampNeg) + x2)))) := hD
        exact W.vret hx hb hr (fun t ht hW => ⟨⟨sJ s_64 (vp_updL s_64.2.2 x1.toNatClampNeg ((s_64.2.2 x1.toNatClampNeg) + x2)), rfl, hF, by rw [ht]; exact hP, hK.warm hW, hD⟩, hS.F ht⟩) hS.2.2 dX2_find_74
      refine lv_if_ne (tgt := 64) hx hb dX2_find_22 (by decide) (fun cz => ?_) (fun cz => ?_)
      · have hF := hF.1 cz
        exact hJ64 σ hF _ _ hP hD hS _ (lv_sub hl [0, 1, 2] rfl)
      · have hF := hF.2 cz
        refine lv_aload_n hx hb dX2_find_25 rfl (lv_at hl 0 rfl) ?_
        refine va_get (D := (dC, dI)) (ci := 2) (v := .int (σ.1 7)) (C := RX2) (T := TX2) (N := 12) hx hb hts in_X2 hown hK.1 hP 12 rfl rfl 4 (by decide) (hts _ q100) (fun _ h9 => h9) rfl dX2_find_26 ?_
        refine lv_if_lt (tgt := 64) hx hb dX2_find_29 (by decide) (fun cz => ?_) (fun cz => ?_)
        · have hF := hF.1 cz
          exact hJ64 σ hF _ _ hP hD hS _ (lv_sub hl [0, 1, 2] rfl)
        · have hF := hF.2 cz
          refine lv_aload_n hx hb dX2_find_32 rfl (lv_at hl 0 rfl) ?_
          refine va_get (D := (dC, dI)) (ci := 2) (v := .int (σ.1 7)) (C := RX2) (T := TX2) (N := 12) hx hb hts in_X2 hown hK.1 hP 12 rfl rfl 4 (by decide) (hts _ q100) (fun _ h9 => h9) rfl dX2_find_33 ?_
          refine lv_aload_n hx hb dX2_find_36 rfl (lv_at hl 0 rfl) ?_
          refine va_get (D := (dC, dI)) (ci := 2) (v := .ref (h 13)) (C := RX2) (T := TX2) (N := 12) hx hb hts in_X2 hown hK.1 hP 12 rfl rfl 1 (by decide) (hts _ q97) (fun _ h9 => h9) rfl dX2_find_37 ?_
          refine va_alen hx hb hK.1 hP 13 0 rfl rfl (v := 8192) (by rfl) dX2_find_40 ?_
          refine lv_icmp_ge (tgt := 64) hx hb dX2_find_41 (by decide) (fun cz => ?_) (fun cz => ?_)
          · have hF := hF.1 cz
            exact hJ64 σ hF _ _ hP hD hS _ (lv_sub hl [0, 1, 2] rfl)
          · have hF := hF.2 cz
            refine lv_aload_n hx hb dX2_find_44 rfl (lv_at hl 0 rfl) ?_
            refine va_get (D := (dC, dI)) (ci := 2) (v := .ref (h 13)) (C := RX2) (T := TX2) (N := 12) hx hb hts in_X2 hown hK.1 hP 12 rfl rfl 1 (by decide) (hts _ q97) (fun _ h9 => h9) rfl dX2_find_45 ?_
            refine lv_aload_n hx hb dX2_find_48 rfl (lv_at hl 0 rfl) ?_
            refine va_get (D := (dC, dI)) (ci := 2) (v := .int (σ.1 7)) (C := RX2) (T := TX2) (N := 12) hx hb hts in_X2 hown hK.1 hP 12 rfl rfl 4 (by decide) (hts _ q100) (fun _ h9 => h9) rfl dX2_find_49 ?_
            refine lv_iload_n hx hb dX2_find_52 rfl (lv_at hl 1 rfl) ?_
            have hI := hF.1
            have hF := hF.2
            refine va_iast hx hb hK.1 hP hD hS 13 0 rfl rfl hI dX2_find_53 (fun H locs hP hD hS => ?_)
            have hP : va_P (dC, dI) classes (wW h cy (sA σ 6 (upd (σ.2.1 6) (σ.1 7).toNatClampNeg x1))) H := hP
            have hD : va_D A (wW h cy (sA σ 6 (upd (σ.2.1 6) (σ.1 7).toNatClampNeg x1))) := hD
            refine lv_aload_n hx hb dX2_find_54 rfl (lv_at hl 0 rfl) ?_
            refine lv_dup hx hb dX2_find_55 rfl ?_
            refine va_get (D := (dC, dI)) (ci := 2) (v := .int (σ.1 7)) (C := RX2) (T := TX2) (N := 12) hx hb hts in_X2 hown hK.1 hP 12 rfl rfl 4 (by decide) (hts _ q100) (fun _ h9 => h9) rfl dX2_find_56 ?_
            refine lv_iconst (v := 1) hx hb dX2_find_59 (by decide) ?_
            refine lv_iadd hx hb dX2_find_60 ?_
            refine va_put (D := (dC, dI)) (ci := 2) (v := .int ((σ.1 7) + 1)) (ty := .int) (C := RX2) (T := TX2) (N := 12) hx hb hts in_X2 tyX2 tyX2_ok nmX2 hown hK.1 hP hD hS 12 rfl rfl 4 (by decide) (hts _ q100) (fun _ h9 => h9) rfl (by decide +kernel) rfl rfl (Nat.le_of_ble_eq_true rfl) dX2_find_61 (fun H locs hP hD hS => ?_)
            have hP : va_P (dC, dI) classes (wW h cy (sI (sA σ 6 (upd (σ.2.1 6) (σ.1 7).toNatClampNeg x1)) 7 ((σ.1 7) + 1))) H := hP
            have hD : va_D A (wW h cy (sI (sA σ 6 (upd (σ.2.1 6) (σ.1 7).toNatClampNeg x1)) 7 ((σ.1 7) + 1))) := hD
            exact hJ64 (sI (sA σ 6 (upd (σ.2.1 6) (σ.1 7).toNatClampNeg x1)) 7 ((σ.1 7) + 1)) hF _ _ hP hD hS _ (lv_sub hl [0, 1, 2] rfl)
    · have hF := hF.2 cz
      exact W.vret hx hb hr (fun t ht hW => ⟨⟨σ, rfl, hF, by rw [ht]; exact hP, hK.warm hW, hD⟩, hS.F ht⟩) hS.2.2 dX2_find_13
theorem dX2_waysTo_0 : decode cX2_waysTo 0 = .ok (.iload_n 1, 1) := by decide +kernel
theorem dX2_waysTo_1 : decode cX2_waysTo 1 = .ok (.ifCond .lt 21, 3) := by decide +kernel
theorem dX2_waysTo_4 : decode cX2_waysTo 4 = .ok (.iload_n 1, 1) := by decide +kernel
theorem dX2_waysTo_5 : decode cX2_waysTo 5 = .ok (.aload_n 0, 1) := by decide +kernel
theorem dX2_waysTo_6 : decode cX2_waysTo 6 = .ok (.getfield 15, 3) := by decide +kernel
theorem dX2_waysTo_9 : decode cX2_waysTo 9 = .ok (.arraylength, 1) := by decide +kernel
theorem dX2_waysTo_10 : decode cX2_waysTo 10 = .ok (.if_icmp .ge 12, 3) := by decide +kernel
theorem dX2_waysTo_13 : decode cX2_waysTo 13 = .ok (.aload_n 0, 1) := by decide +kernel
theorem dX2_waysTo_14 : decode cX2_waysTo 14 = .ok (.getfield 15, 3) := by decide +kernel
theorem dX2_waysTo_17 : decode cX2_waysTo 17 = .ok (.iload_n 1, 1) := by decide +kernel
theorem dX2_waysTo_18 : decode cX2_waysTo 18 = .ok (.laload, 1) := by decide +kernel
theorem dX2_waysTo_19 : decode cX2_waysTo 19 = .ok (.goto 4, 3) := by decide +kernel
theorem dX2_waysTo_22 : decode cX2_waysTo 22 = .ok (.lconst 0, 1) := by decide +kernel
theorem dX2_waysTo_23 : decode cX2_waysTo 23 = .ok (.lreturn, 1) := by decide +kernel
def wp_X2_waysTo (σ : SX) (x1 : Int32) (P : Int64 → Prop) : Prop := ((x1 < 0 → (P 0)) ∧ (¬ x1 < 0 → ((8192 ≤ x1 → (P 0)) ∧ (¬ 8192 ≤ x1 → (vp_in x1 8192 ∧ (P (σ.2.2 x1.toNatClampNeg)))))))
theorem k_X2_waysTo : KV RX2 yX2_waysTo cX2_waysTo 2 (some .long) 1 := ⟨q257, q258, q4, q259, by decide +kernel⟩
set_option maxHeartbeats 4000000 in
set_option maxRecDepth 100000 in
theorem m_X2_waysTo (l : Launch) (dC : Nat → ClassId) (dI : Nat → Nat → Nat) (h : Nat → Nat) (cy : Nat → ClassId) (σ : SX) (x1 : Int32) (P : Int64 → Prop) (hF : wp_X2_waysTo σ x1 P) : Met l yX2_waysTo (ws_ yX2_waysTo cX2_waysTo 2 (some .long)) ({ frames := 0, cells := 0, slots := 0, locals := 0 } : Room) (va_Pc [.ref (h 12), .int x1] (fun U => va_P (dC, dI) classes (wW h cy σ) U.heap ∧ kwX dC dI cy U)) (vp_Sl P) 0 0 (fun _ => False) := by
  refine Met.ofCx (own := RX2) (by decide) rfl (Nat.le_of_ble_eq_true rfl) ?_
  intro p e s m below meth c hC hv ls hl
  obtain ⟨hx, hb, hr, hml, hown, hts, hlocks⟩ := hC
  have hl : lv_has ls 2 [(0, .ref (h 12)), (1, .int x1)] := hl
  obtain ⟨hP, hK⟩ := hv
  unfold wp_X2_waysTo at hF
  refine lv_iload_n hx hb dX2_waysTo_0 rfl (lv_at hl 1 rfl) ?_
  refine lv_if_lt (tgt := 22) hx hb dX2_waysTo_1 (by decide) (fun cz => ?_) (fun cz => ?_)
  · have hF := hF.1 cz
    refine lv_lconst (v := 0) hx hb dX2_waysTo_22 (by decide) ?_
    exact W.lret (v := 0) hx hb hr (fun t ht hW => ⟨0, rfl, hF, ht⟩) (fun q hq => absurd hq List.not_mem_nil) dX2_waysTo_23
  · have hF := hF.2 cz
    refine lv_iload_n hx hb dX2_waysTo_4 rfl (lv_at hl 1 rfl) ?_
    refine lv_aload_n hx hb dX2_waysTo_5 rfl (lv_at hl 0 rfl) ?_
    refine va_get (D := (dC, dI)) (ci := 2) (v := .ref (h 14)) (C := RX2) (T := TX2) (N := 12) hx hb hts in_X2 hown hK.1 hP 12 rfl rfl 2 (by decide) (hts _ q98) (fun _ h9 => h9) rfl dX2_waysTo_6 ?_
    refine va_alen hx hb hK.1 hP 14 1 rfl rfl (v := 8192) (by rfl) dX2_waysTo_9 ?_
    refine lv_icmp_ge (tgt := 22) hx hb dX2_waysTo_10 (by decide) (fun cz => ?_) (fun cz => ?_)
    · have hF := hF.1 cz
      refine lv_lconst (v := 0) hx hb dX2_waysTo_22 (by decide) ?_
      exact W.lret (v := 0) hx hb hr (fun t ht hW => ⟨0, rfl, hF, ht⟩) (fun q hq => absurd hq List.not_mem_nil) dX2_waysTo_23
    · have hF := hF.2 cz
      refine lv_aload_n hx hb dX2_waysTo_13 rfl (lv_at hl 0 rfl) ?_
      refine va_get (D := (dC, dI)) (ci := 2) (v := .ref (h 14)) (C := RX2) (T := TX2) (N := 12) hx hb hts in_X2 hown hK.1 hP 12 rfl rfl 2 (by decide) (hts _ q98) (fun _ h9 => h9) rfl dX2_waysTo_14 ?_
      refine lv_iload_n hx hb dX2_waysTo_17 rfl (lv_at hl 1 rfl) ?_
      have hI := hF.1
      have hF := hF.2
      refine va_lald hx hb hK.1 hP 14 1 rfl rfl hI dX2_waysTo_18 ?_
      refine lv_goto (tgt := 23) hx hb dX2_waysTo_19 (by decide) ?_
      exact W.lret (v := σ.2.2 x1.toNatClampNeg) hx hb hr (fun t ht hW => ⟨σ.2.2 x1.toNatClampNeg, rfl, hF, ht⟩) (fun q hq => absurd hq List.not_mem_nil) dX2_waysTo_23
theorem dX2_visit_0 : decode cX2_visit 0 = .ok (.iconst 0, 1) := by decide +kernel
theorem dX2_visit_1 : decode cX2_visit 1 = .ok (.istore_n 2, 1) := by decide +kernel
theorem dX2_visit_2 : decode cX2_visit 2 = .ok (.iconst 0, 1) := by decide +kernel
theorem dX2_visit_3 : decode cX2_visit 3 = .ok (.istore_n 3, 1) := by decide +kernel
theorem dX2_visit_4 : decode cX2_visit 4 = .ok (.iload_n 3, 1) := by decide +kernel
theorem dX2_visit_5 : decode cX2_visit 5 = .ok (.aload_n 0, 1) := by decide +kernel
theorem dX2_visit_6 : decode cX2_visit 6 = .ok (.getfield 29, 3) := by decide +kernel
theorem dX2_visit_9 : decode cX2_visit 9 = .ok (.invokevirtual 65, 3) := by decide +kernel
theorem dX2_visit_12 : decode cX2_visit 12 = .ok (.if_icmp .ge 40, 3) := by decide +kernel
theorem dX2_visit_15 : decode cX2_visit 15 = .ok (.aload_n 0, 1) := by decide +kernel
theorem dX2_visit_16 : decode cX2_visit 16 = .ok (.getfield 29, 3) := by decide +kernel
theorem dX2_visit_19 : decode cX2_visit 19 = .ok (.iload_n 1, 1) := by decide +kernel
theorem dX2_visit_20 : decode cX2_visit 20 = .ok (.iload_n 3, 1) := by decide +kernel
theorem dX2_visit_21 : decode cX2_visit 21 = .ok (.invokevirtual 71, 3) := by decide +kernel
theorem dX2_visit_24 : decode cX2_visit 24 = .ok (.istore 4, 2) := by decide +kernel
theorem dX2_visit_26 : decode cX2_visit 26 = .ok (.iload 4, 2) := by decide +kernel
theorem dX2_visit_28 : decode cX2_visit 28 = .ok (.iconst (-1), 1) := by decide +kernel
theorem dX2_visit_29 : decode cX2_visit 29 = .ok (.if_icmp .eq 17, 3) := by decide +kernel
theorem dX2_visit_32 : decode cX2_visit 32 = .ok (.iinc 2 1, 3) := by decide +kernel
theorem dX2_visit_35 : decode cX2_visit 35 = .ok (.aload_n 0, 1) := by decide +kernel
theorem dX2_visit_36 : decode cX2_visit 36 = .ok (.iload 4, 2) := by decide +kernel
theorem dX2_visit_38 : decode cX2_visit 38 = .ok (.aload_n 0, 1) := by decide +kernel
theorem dX2_visit_39 : decode cX2_visit 39 = .ok (.iload_n 1, 1) := by decide +kernel
theorem dX2_visit_40 : decode cX2_visit 40 = .ok (.invokevirtual 75, 3) := by decide +kernel
theorem dX2_visit_43 : decode cX2_visit 43 = .ok (.invokevirtual 45, 3) := by decide +kernel
theorem dX2_visit_46 : decode cX2_visit 46 = .ok (.iinc 3 1, 3) := by decide +kernel
theorem dX2_visit_49 : decode cX2_visit 49 = .ok (.goto (-45), 3) := by decide +kernel
theorem dX2_visit_52 : decode cX2_visit 52 = .ok (.aload_n 0, 1) := by decide +kernel
theorem dX2_visit_53 : decode cX2_visit 53 = .ok (.dup, 1) := by decide +kernel
theorem dX2_visit_54 : decode cX2_visit 54 = .ok (.getfield 62, 3) := by decide +kernel
theorem dX2_visit_57 : decode cX2_visit 57 = .ok (.iload_n 2, 1) := by decide +kernel
theorem dX2_visit_58 : decode cX2_visit 58 = .ok (.iadd, 1) := by decide +kernel
theorem dX2_visit_59 : decode cX2_visit 59 = .ok (.putfield 62, 3) := by decide +kernel
theorem dX2_visit_62 : decode cX2_visit 62 = .ok (.aload_n 0, 1) := by decide +kernel
theorem dX2_visit_63 : decode cX2_visit 63 = .ok (.dup, 1) := by decide +kernel
theorem dX2_visit_64 : decode cX2_visit 64 = .ok (.getfield 59, 3) := by decide +kernel
theorem dX2_visit_67 : decode cX2_visit 67 = .ok (.iload_n 1, 1) := by decide +kernel
theorem dX2_visit_68 : decode cX2_visit 68 = .ok (.ior, 1) := by decide +kernel
theorem dX2_visit_69 : decode cX2_visit 69 = .ok (.putfield 59, 3) := by decide +kernel
theorem dX2_visit_72 : decode cX2_visit 72 = .ok (.aload_n 0, 1) := by decide +kernel
theorem dX2_visit_73 : decode cX2_visit 73 = .ok (.aload_n 0, 1) := by decide +kernel
theorem dX2_visit_74 : decode cX2_visit 74 = .ok (.getfield 42, 3) := by decide +kernel
theorem dX2_visit_77 : decode cX2_visit 77 = .ok (.iload_n 1, 1) := by decide +kernel
theorem dX2_visit_78 : decode cX2_visit 78 = .ok (.invokestatic 36, 3) := by decide +kernel
theorem dX2_visit_81 : decode cX2_visit 81 = .ok (.invokestatic 79, 3) := by decide +kernel
theorem dX2_visit_84 : decode cX2_visit 84 = .ok (.putfield 42, 3) := by decide +kernel
theorem dX2_visit_87 : decode cX2_visit 87 = .ok (.iload_n 2, 1) := by decide +kernel
theorem dX2_visit_88 : decode cX2_visit 88 = .ok (.ifCond .ne 13, 3) := by decide +kernel
theorem dX2_visit_91 : decode cX2_visit 91 = .ok (.aload_n 0, 1) := by decide +kernel
theorem dX2_visit_92 : decode cX2_visit 92 = .ok (.dup, 1) := by decide +kernel
theorem dX2_visit_93 : decode cX2_visit 93 = .ok (.getfield 56, 3) := by decide +kernel
theorem dX2_visit_96 : decode cX2_visit 96 = .ok (.iconst 1, 1) := by decide +kernel
theorem dX2_visit_97 : decode cX2_visit 97 = .ok (.iadd, 1) := by decide +kernel
theorem dX2_visit_98 : decode cX2_visit 98 = .ok (.putfield 56, 3) := by decide +kernel
theorem dX2_visit_101 : decode cX2_visit 101 = .ok (.return_, 1) := by decide +kernel
def wp_X2_visit_J46 (rec4 : Int32 → Int32 → SX → Prop) (v3_4 : Int32) (v2_46 : Int32) (s_46 : SX) : Prop := (rec4 (v3_4 + 1) v2_46 s_46)
def wp_X2_visit_B4 (x1 : Int32) (K4 : Int32 → SX → Prop) (rec4 : Int32 → Int32 → SX → Prop) (v3_4 : Int32) (v2_4 : Int32) (s_4 : SX) : Prop := (wp_X0_lineCount s_4  (fun r9 => ((r9 ≤ v3_4 → (K4 v2_4 s_4)) ∧ (¬ r9 ≤ v3_4 → (wp_X0_behind s_4 x1 v3_4 (fun r21 => ((r21 = (-1) → (wp_X2_visit_J46 rec4 v3_4 v2_4 s_4)) ∧ (¬ r21 = (-1) → (wp_X2_waysTo s_4 x1 (fun r40 => (wp_X2_find s_4 r21 r40 (fun s43 => (wp_X2_visit_J46 rec4 v3_4 (v2_4 + 1) s43)))))))))))))
def wp_X2_visit_L4 (x1 : Int32) (K4 : Int32 → SX → Prop) : Nat → Int32 → Int32 → SX → Prop
  | 0, _, _, _ => False
  | nn + 1, v3_4, v2_4, s_4 => wp_X2_visit_B4 x1 K4 (wp_X2_visit_L4 x1 K4 nn) v3_4 v2_4 s_4
def wp_X2_visit (fu : Nat) (σ : SX) (x1 : Int32) (P : SX → Prop) : Prop := (wp_X2_visit_L4 x1 (fun (v2_52 : Int32) (s_52 : SX) => (wp_J6_bitCount_0f7a4 x1 (fun r78 => ((¬ v2_52 = 0 → (P (sI (sI (sI s_52 12 ((s_52.1 12) + v2_52)) 11 ((s_52.1 11) ||| x1)) 10 (jmin (s_52.1 10) r78)))) ∧ (v2_52 = 0 → (P (sI (sI (sI (sI s_52 12 ((s_52.1 12) + v2_52)) 11 ((s_52.1 11) ||| x1)) 10 (jmin (s_52.1 10) r78)) 9 ((s_52.1 9) + 1)))))))) fu 0 0 σ)
theorem k_X2_visit : KV RX2 yX2_visit cX2_visit 5 none 1 := ⟨q252, qs4, q4, q253, by decide +kernel⟩
set_option maxHeartbeats 4000000 in
set_option maxRecDepth 100000 in
theorem m_X2_visit (l : Launch) (dC : Nat → ClassId) (dI : Nat → Nat → Nat) (h : Nat → Nat) (cy : Nat → ClassId) (sz : Nat) (fu : Nat) (σ : SX) (x1 : Int32) (P : SX → Prop) (hF : wp_X2_visit fu σ x1 P) : Met l yX2_visit (ws_ yX2_visit cX2_visit 5 none) ({ frames := 2, cells := 0, slots := 0, locals := 44 } : Room) (va_Pc [.ref (h 12), .int x1] (fun U => U.heap.size = sz ∧ va_P (dC, dI) classes (wW h cy σ) U.heap ∧ kwX dC dI cy U ∧ va_D (fun _ => True) (wW h cy σ))) (va_Qv (fun u => P u) (fun (u : SX) t => va_P (dC, dI) classes (wW h cy u) t.heap ∧ kwX dC dI cy t ∧ va_D (va_A (wW h cy σ) sz) (wW h cy u)) (va_A (wW h cy σ) sz)) 0 0 (va_A (wW h cy σ) sz) := by
  refine Met.ofCx (own := RX2) (by decide) rfl (Nat.le_of_ble_eq_true rfl) ?_
  intro p e s m below meth c hC hv ls hl
  obtain ⟨hx, hb, hr, hml, hown, hts, hlocks⟩ := hC
  have hl : lv_has ls 5 [(0, .ref (h 12)), (1, .int x1)] := hl
  obtain ⟨hsz, hP, hK, hD0⟩ := hv
  subst hsz
  have hD := hD0.self (sz := s.heap.size)
  generalize hAe : va_A (wW h cy σ) s.heap.size = A at hD ⊢
  have hA : ∀ q : Nat, s.heap.size ≤ q → A q := fun q h => by rw [← hAe]; exact Or.inr h
  have hS : va_S A s.heap s.heap [] := va_S.rf
  clear hAe
  unfold wp_X2_visit at hF
  refine lv_iconst (v := 0) hx hb dX2_visit_0 (by decide) ?_
  refine lv_istore_n (lv' := [(2, .int 0), (0, .ref (h 12)), (1, .int x1)]) hx hb dX2_visit_1 rfl hl (by decide) rfl (fun ls hl => ?_)
  refine lv_iconst (v := 0) hx hb dX2_visit_2 (by decide) ?_
  refine lv_istore_n (lv' := [(3, .int 0), (2, .int 0), (0, .ref (h 12)), (1, .int x1)]) hx hb dX2_visit_3 rfl hl (by decide) rfl (fun ls hl => ?_)
  have hX4 : ∀ (v2_52 : Int32), ∀ (s_52 : SX), (fun (v2_52 : Int32) (s_52 : SX) => (wp_J6_bitCount_0f7a4 x1 (fun r78 => ((¬ v2_52 = 0 → (P (sI (sI (sI s_52 12 ((s_52.1 12) + v2_52)) 11 ((s_52.1 11) ||| x1)) 10 (jmin (s_52.1 10) r78)))) ∧ (v2_52 = 0 → (P (sI (sI (sI (sI s_52 12 ((s_52.1 12) + v2_52)) 11 ((s_52.1 11) ||| x1)) 10 (jmin (s_52.1 10) r78)) 9 ((s_52.1 9) + 1)))))))) v2_52 s_52 → ∀ (H : Heap) (locs : List Loc), va_P (dC, dI) classes (wW h cy s_52) H → va_D A (wW h cy s_52) → va_S A s.heap H locs → ∀ (ls : Array Slot), lv_has ls 5 [(2, .int v2_52), (0, .ref (h 12)), (1, .int x1)] → W p l e ({ frames := 2, cells := 0, slots := 0, locals := 44 } : Room) s m ([.ref (h 12), .int x1] : List Value).toArray below meth c H locs 0 0 (MQ below (va_Qv (fun u => P u) (fun (u : SX) t => va_P (dC, dI) classes (wW h cy u) t.heap ∧ kwX dC dI cy t ∧ va_D A (wW h cy u)) A) ([.ref (h 12), .int x1] : List Value).toArray s 0 0 A) (F0 m 52 ls []) := by
    intro v2_52 s_52 hF H locs hP hD hS ls hl
    refine lv_aload_n hx hb dX2_visit_52 rfl (lv_at hl 1 rfl) ?_
    refine lv_dup hx hb dX2_visit_53 rfl ?_
    refine va_get (D := (dC, dI)) (ci := 2) (v := .int (s_52.1 12)) (C := RX2) (T := TX2) (N := 12) hx hb hts in_X2 hown hK.1 hP 12 rfl rfl 9 (by decide) (hts _ q109) (fun _ h9 => h9) rfl dX2_visit_54 ?_
    refine lv_iload_n hx hb dX2_visit_57 rfl (lv_at hl 0 rfl) ?_
    refine lv_iadd hx hb dX2_visit_58 ?_
    refine va_put (D := (dC, dI)) (ci := 2) (v := .int ((s_52.1 12) + v2_52)) (ty := .int) (C := RX2) (T := TX2) (N := 12) hx hb hts in_X2 tyX2 tyX2_ok nmX2 hown hK.1 hP hD hS 12 rfl rfl 9 (by decide) (hts _ q109) (fun _ h9 => h9) rfl (by decide +kernel) rfl rfl (Nat.le_of_ble_eq_true rfl) dX2_visit_59 (fun H locs hP hD hS => ?_)
    have hP : va_P (dC, dI) classes (wW h cy (sI s_52 12 ((s_52.1 12) + v2_52))) H := hP
    have hD : va_D A (wW h cy (sI s_52 12 ((s_52.1 12) + v2_52))) := hD
    refine lv_aload_n hx hb dX2_visit_62 rfl (lv_at hl 1 rfl) ?_
    refine lv_dup hx hb dX2_visit_63 rfl ?_
    refine va_get (D := (dC, dI)) (ci := 2) (v := .int (s_52.1 11)) (C := RX2) (T := TX2) (N := 12) hx hb hts in_X2 hown hK.1 hP 12 rfl rfl 8 (by decide) (hts _ q107) (fun _ h9 => h9) rfl dX2_visit_64 ?_
    refine lv_iload_n hx hb dX2_visit_67 rfl (lv_at hl 2 rfl) ?_
    refine lv_ior hx hb dX2_visit_68 ?_
    refine va_put (D := (dC, dI)) (ci := 2) (v := .int ((s_52.1 11) ||| x1)) (ty := .int) (C := RX2) (T := TX2) (N := 12) hx hb hts in_X2 tyX2 tyX2_ok nmX2 hown hK.1 hP hD hS 12 rfl rfl 8 (by decide) (hts _ q107) (fun _ h9 => h9) rfl (by decide +kernel) rfl rfl (Nat.le_of_ble_eq_true rfl) dX2_visit_69 (fun H locs hP hD hS => ?_)
    have hP : va_P (dC, dI) classes (wW h cy (sI (sI s_52 12 ((s_52.1 12) + v2_52)) 11 ((s_52.1 11) ||| x1))) H := hP
    have hD : va_D A (wW h cy (sI (sI s_52 12 ((s_52.1 12) + v2_52)) 11 ((s_52.1 11) ||| x1))) := hD
    refine lv_aload_n hx hb dX2_visit_72 rfl (lv_at hl 1 rfl) ?_
    refine lv_aload_n hx hb dX2_visit_73 rfl (lv_at hl 1 rfl) ?_
    refine va_get (D := (dC, dI)) (ci := 2) (v := .int (s_52.1 10)) (C := RX2) (T := TX2) (N := 12) hx hb hts in_X2 hown hK.1 hP 12 rfl rfl 7 (by decide) (hts _ q105) (fun _ h9 => h9) rfl dX2_visit_74 ?_
    refine lv_iload_n hx hb dX2_visit_77 rfl (lv_at hl 2 rfl) ?_
    refine cpSi (As := [.int x1]) (rest := [.int (s_52.1 10), .ref (h 12)]) ⟨hx, hb, hr, hml, hown, hts, hlocks⟩ (m_J6_bitCount_0f7a4 l x1 _ hF) k_J6_bitCount_0f7a4 q240 ⟨rfl, rfl⟩ ⟨Nat.le_of_ble_eq_true rfl, Nat.le_of_ble_eq_true rfl⟩ hl.1 rfl rfl (Nat.le_of_ble_eq_true rfl) dX2_visit_78 ⟨Nat.le_of_ble_eq_true rfl, Nat.le_of_ble_eq_true rfl⟩ (fun r78 hF => ?_)
    refine va_mmin hx hb (by rw [hml]; exact hl.1.symm) hown (hts _ q260) (hts _ q261) (hts _ q13) (hts _ q262) (Nat.le_of_ble_eq_true rfl) (Nat.le_of_ble_eq_true rfl) (Nat.le_of_ble_eq_true rfl) (Nat.le_of_ble_eq_true rfl) dX2_visit_81 ?_
    refine va_put (D := (dC, dI)) (ci := 2) (v := .int (jmin (s_52.1 10) r78)) (ty := .int) (C := RX2) (T := TX2) (N := 12) hx hb hts in_X2 tyX2 tyX2_ok nmX2 hown hK.1 hP hD hS 12 rfl rfl 7 (by decide) (hts _ q105) (fun _ h9 => h9) rfl (by decide +kernel) rfl rfl (Nat.le_of_ble_eq_true rfl) dX2_visit_84 (fun H locs hP hD hS => ?_)
    have hP : va_P (dC, dI) classes (wW h cy (sI (sI (sI s_52 12 ((s_52.1 12) + v2_52)) 11 ((s_52.1 11) ||| x1)) 10 (jmin (s_52.1 10) r78))) H := hP
    have hD : va_D A (wW h cy (sI (sI (sI s_52 12 ((s_52.1 12) + v2_52)) 11 ((s_52.1 11) ||| x1)) 10 (jmin (s_52.1 10) r78))) := hD
    refine lv_iload_n hx hb dX2_visit_87 rfl (lv_at hl 0 rfl) ?_
    refine lv_if_ne (tgt := 101) hx hb dX2_visit_88 (by decide) (fun cz => ?_) (fun cz => ?_)
    · have hF := hF.1 cz
      exact W.vret hx hb hr (fun t ht hW => ⟨⟨sI (sI (sI s_52 12 ((s_52.1 12) + v2_52)) 11 ((s_52.1 11) ||| x1)) 10 (jmin (s_52.1 10) r78), rfl, hF, by rw [ht]; exact hP, hK.warm hW, hD⟩, hS.F ht⟩) hS.2.2 dX2_visit_101
    · have hF := hF.2 cz
      refine lv_aload_n hx hb dX2_visit_91 rfl (lv_at hl 1 rfl) ?_
      refine lv_dup hx hb dX2_visit_92 rfl ?_
      refine va_get (D := (dC, dI)) (ci := 2) (v := .int (s_52.1 9)) (C := RX2) (T := TX2) (N := 12) hx hb hts in_X2 hown hK.1 hP 12 rfl rfl 6 (by decide) (hts _ q103) (fun _ h9 => h9) rfl dX2_visit_93 ?_
      refine lv_iconst (v := 1) hx hb dX2_visit_96 (by decide) ?_
      refine lv_iadd hx hb dX2_visit_97 ?_
      refine va_put (D := (dC, dI)) (ci := 2) (v := .int ((s_52.1 9) + 1)) (ty := .int) (C := RX2) (T := TX2) (N := 12) hx hb hts in_X2 tyX2 tyX2_ok nmX2 hown hK.1 hP hD hS 12 rfl rfl 6 (by decide) (hts _ q103) (fun _ h9 => h9) rfl (by decide +kernel) rfl rfl (Nat.le_of_ble_eq_true rfl) dX2_visit_98 (fun H locs hP hD hS => ?_)
      have hP : va_P (dC, dI) classes (wW h cy (sI (sI (sI (sI s_52 12 ((s_52.1 12) + v2_52)) 11 ((s_52.1 11) ||| x1)) 10 (jmin (s_52.1 10) r78)) 9 ((s_52.1 9) + 1))) H := hP
      have hD : va_D A (wW h cy (sI (sI (sI (sI s_52 12 ((s_52.1 12) + v2_52)) 11 ((s_52.1 11) ||| x1)) 10 (jmin (s_52.1 10) r78)) 9 ((s_52.1 9) + 1))) := hD
      exact W.vret hx hb hr (fun t ht hW => ⟨⟨sI (sI (sI (sI s_52 12 ((s_52.1 12) + v2_52)) 11 ((s_52.1 11) ||| x1)) 10 (jmin (s_52.1 10) r78)) 9 ((s_52.1 9) + 1), rfl, hF, by rw [ht]; exact hP, hK.warm hW, hD⟩, hS.F ht⟩) hS.2.2 dX2_visit_101
  have hL4 : ∀ (K4 : Int32 → SX → Prop), (∀ (v2_52 : Int32), ∀ (s_52 : SX), K4 v2_52 s_52 → ∀ (H : Heap) (locs : List Loc), va_P (dC, dI) classes (wW h cy s_52) H → va_D A (wW h cy s_52) → va_S A s.heap H locs → ∀ (ls : Array Slot), lv_has ls 5 [(2, .int v2_52), (0, .ref (h 12)), (1, .int x1)] → W p l e ({ frames := 2, cells := 0, slots := 0, locals := 44 } : Room) s m ([.ref (h 12), .int x1] : List Value).toArray below meth c H locs 0 0 (MQ below (va_Qv (fun u => P u) (fun (u : SX) t => va_P (dC, dI) classes (wW h cy u) t.heap ∧ kwX dC dI cy t ∧ va_D A (wW h cy u)) A) ([.ref (h 12), .int x1] : List Value).toArray s 0 0 A) (F0 m 52 ls [])) → ∀ (nn : Nat), ∀ (v3_4 : Int32), ∀ (v2_4 : Int32), ∀ (s_4 : SX), wp_X2_visit_L4 x1 K4 nn v3_4 v2_4 s_4 → ∀ (H : Heap) (locs : List Loc), va_P (dC, dI) classes (wW h cy s_4) H → va_D A (wW h cy s_4) → va_S A s.heap H locs → ∀ (ls : Array Slot), lv_has ls 5 [(3, .int v3_4), (2, .int v2_4), (0, .ref (h 12)), (1, .int x1)] → W p l e ({ frames := 2, cells := 0, slots := 0, locals := 44 } : Room) s m ([.ref (h 12), .int x1] : List Value).toArray below meth c H locs 0 0 (MQ below (va_Qv (fun u => P u) (fun (u : SX) t => va_P (dC, dI) classes (wW h cy u) t.heap ∧ kwX dC dI cy t ∧ va_D A (wW h cy u)) A) ([.ref (h 12), .int x1] : List Value).toArray s 0 0 A) (F0 m 4 ls []) := by
    intro K4 hX4 nn
    induction nn with
    | zero =>
      intro v3_4 v2_4 s_4 hF
      exact hF.elim
    | succ nn ih =>
      intro v3_4 v2_4 s_4 hF H locs hP hD hS ls hl
      obtain ⟨rec4, hrec⟩ : ∃ z : Int32 → Int32 → SX → Prop, z = wp_X2_visit_L4 x1 K4 nn := ⟨_, rfl⟩
      have hF : wp_X2_visit_B4 x1 K4 rec4 v3_4 v2_4 s_4 := by rw [hrec]; exact hF
      rw [← hrec] at ih
      clear hrec
      unfold wp_X2_visit_B4 at hF
      refine lv_iload_n hx hb dX2_visit_4 rfl (lv_at hl 0 rfl) ?_
      refine lv_aload_n hx hb dX2_visit_5 rfl (lv_at hl 2 rfl) ?_
      refine va_get (D := (dC, dI)) (ci := 2) (v := .ref (h 0)) (C := RX2) (T := TX2) (N := 12) hx hb hts in_X2 hown hK.1 hP 12 rfl rfl 0 (by decide) (hts _ q96) (fun _ h9 => h9) rfl dX2_visit_6 ?_
      have hPc := hP.sub (ws' := wB h cy s_4) [0, 1, 2, 3, 4, 5, 6, 7, 8, 9, 10, 11] rfl
      refine cpVi (q0 := 0) (As := []) (rest := [.int v3_4]) ⟨hx, hb, hr, hml, hown, hts, hlocks⟩ hK hPc rfl rfl (m_X0_lineCount l dC dI h cy s_4  _ hF) k_X0_lineCount q254 ⟨rfl, rfl⟩ ⟨Nat.le_of_ble_eq_true rfl, Nat.le_of_ble_eq_true rfl⟩ hl.1 rfl rfl (Nat.le_of_ble_eq_true rfl) dX2_visit_9 ⟨Nat.le_of_ble_eq_true rfl, Nat.le_of_ble_eq_true rfl⟩ (fun r9 hF => ?_)
      refine lv_icmp_ge (tgt := 52) hx hb dX2_visit_12 (by decide) (fun cz => ?_) (fun cz => ?_)
      · have hF := hF.1 cz
        exact hX4 v2_4 s_4 hF _ _ hP hD hS _ (lv_sub hl [1, 2, 3] rfl)
      · have hF := hF.2 cz
        refine lv_aload_n hx hb dX2_visit_15 rfl (lv_at hl 2 rfl) ?_
        refine va_get (D := (dC, dI)) (ci := 2) (v := .ref (h 0)) (C := RX2) (T := TX2) (N := 12) hx hb hts in_X2 hown hK.1 hP 12 rfl rfl 0 (by decide) (hts _ q96) (fun _ h9 => h9) rfl dX2_visit_16 ?_
        refine lv_iload_n hx hb dX2_visit_19 rfl (lv_at hl 3 rfl) ?_
        refine lv_iload_n hx hb dX2_visit_20 rfl (lv_at hl 0 rfl) ?_
        have hPc := hP.sub (ws' := wB h cy s_4) [0, 1, 2, 3, 4, 5, 6, 7, 8, 9, 10, 11] rfl
        refine cpVi (q0 := 0) (As := [.int x1, .int v3_4]) (rest := []) ⟨hx, hb, hr, hml, hown, hts, hlocks⟩ hK hPc rfl rfl (m_X0_behind l dC dI h cy s_4 x1 v3_4 _ hF) k_X0_behind q255 ⟨rfl, rfl⟩ ⟨Nat.le_of_ble_eq_true rfl, Nat.le_of_ble_eq_true rfl⟩ hl.1 rfl rfl (Nat.le_of_ble_eq_true rfl) dX2_visit_21 ⟨Nat.le_of_ble_eq_true rfl, Nat.le_of_ble_eq_true rfl⟩ (fun r21 hF => ?_)
        refine lv_istore (lv' := [(4, .int r21), (3, .int v3_4), (2, .int v2_4), (0, .ref (h 12)), (1, .int x1)]) hx hb dX2_visit_24 hl (by decide) rfl (fun ls hl => ?_)
        refine lv_iload hx hb dX2_visit_26 (lv_at hl 0 rfl) ?_
        refine lv_iconst (v := (-1)) hx hb dX2_visit_28 (by decide) ?_
        have hJ46 : ∀ (v2_46 : Int32), ∀ (s_46 : SX), wp_X2_visit_J46 rec4 v3_4 v2_46 s_46 → ∀ (H : Heap) (locs : List Loc), va_P (dC, dI) classes (wW h cy s_46) H → va_D A (wW h cy s_46) → va_S A s.heap H locs → ∀ (ls : Array Slot), lv_has ls 5 [(3, .int v3_4), (2, .int v2_46), (0, .ref (h 12)), (1, .int x1)] → W p l e ({ frames := 2, cells := 0, slots := 0, locals := 44 } : Room) s m ([.ref (h 12), .int x1] : List Value).toArray below meth c H locs 0 0 (MQ below (va_Qv (fun u => P u) (fun (u : SX) t => va_P (dC, dI) classes (wW h cy u) t.heap ∧ kwX dC dI cy t ∧ va_D A (wW h cy u)) A) ([.ref (h 12), .int x1] : List Value).toArray s 0 0 A) (F0 m 46 ls []) := by
          intro v2_46 s_46 hF H locs hP hD hS ls hl
          unfold wp_X2_visit_J46 at hF
          refine lv_iinc (v := v3_4 + 1) (lv' := [(3, .int (v3_4 + 1)), (2, .int v2_46), (0, .ref (h 12)), (1, .int x1)]) hx hb dX2_visit_46 hl (k := 0) rfl (by rfl) (by decide) rfl (fun ls hl => ?_)
          refine lv_goto (tgt := 4) hx hb dX2_visit_49 (by decide) ?_
          exact ih (v3_4 + 1) v2_46 s_46 hF _ _ hP hD hS _ (lv_sub hl [0, 1, 2, 3] rfl)
        refine lv_icmp_eq (tgt := 46) hx hb dX2_visit_29 (by decide) (fun cz => ?_) (fun cz => ?_)
        · have hF := hF.1 cz
          exact hJ46 v2_4 s_4 hF _ _ hP hD hS _ (lv_sub hl [1, 2, 3, 4] rfl)
        · have hF := hF.2 cz
          refine lv_iinc (v := v2_4 + 1) (lv' := [(2, .int (v2_4 + 1)), (4, .int r21), (3, .int v3_4), (0, .ref (h 12)), (1, .int x1)]) hx hb dX2_visit_32 hl (k := 2) rfl (by rfl) (by decide) rfl (fun ls hl => ?_)
          refine lv_aload_n hx hb dX2_visit_35 rfl (lv_at hl 3 rfl) ?_
          refine lv_iload hx hb dX2_visit_36 (lv_at hl 1 rfl) ?_
          refine lv_aload_n hx hb dX2_visit_38 rfl (lv_at hl 3 rfl) ?_
          refine lv_iload_n hx hb dX2_visit_39 rfl (lv_at hl 4 rfl) ?_
          refine cpVl (q0 := 12) (As := [.int x1]) (rest := [.int r21, .ref (h 12)]) ⟨hx, hb, hr, hml, hown, hts, hlocks⟩ hK hP rfl rfl (m_X2_waysTo l dC dI h cy s_4 x1 _ hF) k_X2_waysTo q256 ⟨rfl, rfl⟩ ⟨Nat.le_of_ble_eq_true rfl, Nat.le_of_ble_eq_true rfl⟩ hl.1 rfl rfl (Nat.le_of_ble_eq_true rfl) dX2_visit_40 ⟨Nat.le_of_ble_eq_true rfl, Nat.le_of_ble_eq_true rfl⟩ (fun r40 hF => ?_)
          have hFc := va_free (wc := wW h cy s_4) hD hS hA [0, 1, 2, 3, 4, 5, 6, 7, 8, 9, 10, 11, 12, 13, 14, 15] rfl
          refine cwVv (q0 := 12) (As := [.int r21, .long r40]) (rest := []) ⟨hx, hb, hr, hml, hown, hts, hlocks⟩ hK hP hD rfl rfl hS hFc (m_X2_find l dC dI h cy _ s_4 r21 r40 _ hF) k_X2_find q246 ⟨rfl, rfl⟩ ⟨Nat.le_of_ble_eq_true rfl, Nat.le_of_ble_eq_true rfl⟩ hl.1 rfl rfl (Nat.le_of_ble_eq_true rfl) dX2_visit_43 ⟨Nat.le_of_ble_eq_true rfl, Nat.le_of_ble_eq_true rfl⟩ (fun u H1 locs hF hP1 hD1 hk1 hS => ?_)
          obtain ⟨s43, rfl⟩ : ∃ z, z = u := ⟨_, rfl⟩
          have hP := hP1
          have hD := hD1.weaken (fun _ q _ h => hFc q.1 h)
          generalize H1 = H at hP hS ⊢
          have hP : va_P (dC, dI) classes (wW h cy s43) H := hP
          have hD : va_D A (wW h cy s43) := hD
          exact hJ46 (v2_4 + 1) s43 hF _ _ hP hD hS _ (lv_sub hl [2, 0, 3, 4] rfl)
  exact hL4 _ hX4 fu 0 0 σ hF _ _ hP hD hS _ (lv_sub hl [0, 1, 2, 3] rfl)
theorem dX2_begin_0 : decode cX2_begin 0 = .ok (.iload_n 1, 1) := by decide +kernel
theorem dX2_begin_1 : decode cX2_begin 1 = .ok (.aload_n 0, 1) := by decide +kernel
theorem dX2_begin_2 : decode cX2_begin 2 = .ok (.getfield 22, 3) := by decide +kernel
theorem dX2_begin_5 : decode cX2_begin 5 = .ok (.if_icmp .ne 4, 3) := by decide +kernel
theorem dX2_begin_8 : decode cX2_begin 8 = .ok (.return_, 1) := by decide +kernel
theorem dX2_begin_9 : decode cX2_begin 9 = .ok (.aload_n 0, 1) := by decide +kernel
theorem dX2_begin_10 : decode cX2_begin 10 = .ok (.invokevirtual 33, 3) := by decide +kernel
theorem dX2_begin_13 : decode cX2_begin 13 = .ok (.aload_n 0, 1) := by decide +kernel
theorem dX2_begin_14 : decode cX2_begin 14 = .ok (.iload_n 1, 1) := by decide +kernel
theorem dX2_begin_15 : decode cX2_begin 15 = .ok (.putfield 22, 3) := by decide +kernel
theorem dX2_begin_18 : decode cX2_begin 18 = .ok (.aload_n 0, 1) := by decide +kernel
theorem dX2_begin_19 : decode cX2_begin 19 = .ok (.iload_n 1, 1) := by decide +kernel
theorem dX2_begin_20 : decode cX2_begin 20 = .ok (.invokestatic 36, 3) := by decide +kernel
theorem dX2_begin_23 : decode cX2_begin 23 = .ok (.putfield 42, 3) := by decide +kernel
theorem dX2_begin_26 : decode cX2_begin 26 = .ok (.aload_n 0, 1) := by decide +kernel
theorem dX2_begin_27 : decode cX2_begin 27 = .ok (.iload_n 1, 1) := by decide +kernel
theorem dX2_begin_28 : decode cX2_begin 28 = .ok (.lconst 1, 1) := by decide +kernel
theorem dX2_begin_29 : decode cX2_begin 29 = .ok (.invokevirtual 45, 3) := by decide +kernel
theorem dX2_begin_32 : decode cX2_begin 32 = .ok (.iconst 0, 1) := by decide +kernel
theorem dX2_begin_33 : decode cX2_begin 33 = .ok (.istore_n 2, 1) := by decide +kernel
theorem dX2_begin_34 : decode cX2_begin 34 = .ok (.iload_n 2, 1) := by decide +kernel
theorem dX2_begin_35 : decode cX2_begin 35 = .ok (.aload_n 0, 1) := by decide +kernel
theorem dX2_begin_36 : decode cX2_begin 36 = .ok (.getfield 49, 3) := by decide +kernel
theorem dX2_begin_39 : decode cX2_begin 39 = .ok (.if_icmp .ge 28, 3) := by decide +kernel
theorem dX2_begin_42 : decode cX2_begin 42 = .ok (.iload_n 2, 1) := by decide +kernel
theorem dX2_begin_43 : decode cX2_begin 43 = .ok (.aload_n 0, 1) := by decide +kernel
theorem dX2_begin_44 : decode cX2_begin 44 = .ok (.getfield 9, 3) := by decide +kernel
theorem dX2_begin_47 : decode cX2_begin 47 = .ok (.arraylength, 1) := by decide +kernel
theorem dX2_begin_48 : decode cX2_begin 48 = .ok (.if_icmp .ge 19, 3) := by decide +kernel
theorem dX2_begin_51 : decode cX2_begin 51 = .ok (.aload_n 0, 1) := by decide +kernel
theorem dX2_begin_52 : decode cX2_begin 52 = .ok (.aload_n 0, 1) := by decide +kernel
theorem dX2_begin_53 : decode cX2_begin 53 = .ok (.getfield 9, 3) := by decide +kernel
theorem dX2_begin_56 : decode cX2_begin 56 = .ok (.iload_n 2, 1) := by decide +kernel
theorem dX2_begin_57 : decode cX2_begin 57 = .ok (.iaload, 1) := by decide +kernel
theorem dX2_begin_58 : decode cX2_begin 58 = .ok (.invokevirtual 52, 3) := by decide +kernel
theorem dX2_begin_61 : decode cX2_begin 61 = .ok (.iinc 2 1, 3) := by decide +kernel
theorem dX2_begin_64 : decode cX2_begin 64 = .ok (.goto (-30), 3) := by decide +kernel
theorem dX2_begin_67 : decode cX2_begin 67 = .ok (.return_, 1) := by decide +kernel
def wp_X2_begin_B34 (fu : Nat) (K34 : SX → Prop) (rec34 : Int32 → SX → Prop) (v2_34 : Int32) (s_34 : SX) : Prop := (((s_34.1 7) ≤ v2_34 → (K34 s_34)) ∧ (¬ (s_34.1 7) ≤ v2_34 → ((8192 ≤ v2_34 → (K34 s_34)) ∧ (¬ 8192 ≤ v2_34 → (vp_in v2_34 8192 ∧ (wp_X2_visit fu s_34 ((s_34.2.1 6) v2_34.toNatClampNeg) (fun s58 => (rec34 (v2_34 + 1) s58))))))))
def wp_X2_begin_L34 (fu : Nat) (K34 : SX → Prop) : Nat → Int32 → SX → Prop
  | 0, _, _ => False
  | nn + 1, v2_34, s_34 => wp_X2_begin_B34 fu K34 (wp_X2_begin_L34 fu K34 nn) v2_34 s_34
def wp_X2_begin (fu : Nat) (σ : SX) (x1 : Int32) (P : SX → Prop) : Prop := ((¬ x1 = (σ.1 8) → (wp_X2_wipe fu σ  (fun s10 => (wp_J6_bitCount_0f7a4 x1 (fun r20 => (wp_X2_find (sI (sI s10 8 x1) 10 r20) x1 1 (fun s29 => (wp_X2_begin_L34 fu (fun (s_67 : SX) => (P s_67)) fu 0 s29)))))))) ∧ (x1 = (σ.1 8) → (P σ)))
theorem k_X2_begin : KV RX2 yX2_begin cX2_begin 3 none 1 := ⟨q233, q234, q4, q235, by decide +kernel⟩
set_option maxHeartbeats 4000000 in
set_option maxRecDepth 100000 in
theorem m_X2_begin (l : Launch) (dC : Nat → ClassId) (dI : Nat → Nat → Nat) (h : Nat → Nat) (cy : Nat → ClassId) (sz : Nat) (fu : Nat) (σ : SX) (x1 : Int32) (P : SX → Prop) (hF : wp_X2_begin fu σ x1 P) : Met l yX2_begin (ws_ yX2_begin cX2_begin 3 none) ({ frames := 3, cells := 0, slots := 0, locals := 68 } : Room) (va_Pc [.ref (h 12), .int x1] (fun U => U.heap.size = sz ∧ va_P (dC, dI) classes (wW h cy σ) U.heap ∧ kwX dC dI cy U ∧ va_D (fun _ => True) (wW h cy σ))) (va_Qv (fun u => P u) (fun (u : SX) t => va_P (dC, dI) classes (wW h cy u) t.heap ∧ kwX dC dI cy t ∧ va_D (va_A (wW h cy σ) sz) (wW h cy u)) (va_A (wW h cy σ) sz)) 0 0 (va_A (wW h cy σ) sz) := by
  refine Met.ofCx (own := RX2) (by decide) rfl (Nat.le_of_ble_eq_true rfl) ?_
  intro p e s m below meth c hC hv ls hl
  obtain ⟨hx, hb, hr, hml, hown, hts, hlocks⟩ := hC
  have hl : lv_has ls 3 [(0, .ref (h 12)), (1, .int x1)] := hl
  obtain ⟨hsz, hP, hK, hD0⟩ := hv
  subst hsz
  have hD := hD0.self (sz := s.heap.size)
  generalize hAe : va_A (wW h cy σ) s.heap.size = A at hD ⊢
  have hA : ∀ q : Nat, s.heap.size ≤ q → A q := fun q h => by rw [← hAe]; exact Or.inr h
  have hS : va_S A s.heap s.heap [] := va_S.rf
  clear hAe
  unfold wp_X2_begin at hF
  refine lv_iload_n hx hb dX2_begin_0 rfl (lv_at hl 1 rfl) ?_
  refine lv_aload_n hx hb dX2_begin_1 rfl (lv_at hl 0 rfl) ?_
  refine va_get (D := (dC, dI)) (ci := 2) (v := .int (σ.1 8)) (C := RX2) (T := TX2) (N := 12) hx hb hts in_X2 hown hK.1 hP 12 rfl rfl 5 (by decide) (hts _ q102) (fun _ h9 => h9) rfl dX2_begin_2 ?_
  refine lv_icmp_ne (tgt := 9) hx hb dX2_begin_5 (by decide) (fun cz => ?_) (fun cz => ?_)
  · have hF := hF.1 cz
    refine lv_aload_n hx hb dX2_begin_9 rfl (lv_at hl 0 rfl) ?_
    have hFc := va_free (wc := wW h cy σ) hD hS hA [0, 1, 2, 3, 4, 5, 6, 7, 8, 9, 10, 11, 12, 13, 14, 15] rfl
    refine cwVv (q0 := 12) (As := []) (rest := []) ⟨hx, hb, hr, hml, hown, hts, hlocks⟩ hK hP hD rfl rfl hS hFc (m_X2_wipe l dC dI h cy _ fu σ  _ hF) k_X2_wipe q236 ⟨rfl, rfl⟩ ⟨Nat.le_of_ble_eq_true rfl, Nat.le_of_ble_eq_true rfl⟩ hl.1 rfl rfl (Nat.le_of_ble_eq_true rfl) dX2_begin_10 ⟨Nat.le_of_ble_eq_true rfl, Nat.le_of_ble_eq_true rfl⟩ (fun u H1 locs hF hP1 hD1 hk1 hS => ?_)
    obtain ⟨s10, rfl⟩ : ∃ z, z = u := ⟨_, rfl⟩
    have hP := hP1
    have hD := hD1.weaken (fun _ q _ h => hFc q.1 h)
    generalize H1 = H at hP hS ⊢
    have hP : va_P (dC, dI) classes (wW h cy s10) H := hP
    have hD : va_D A (wW h cy s10) := hD
    refine lv_aload_n hx hb dX2_begin_13 rfl (lv_at hl 0 rfl) ?_
    refine lv_iload_n hx hb dX2_begin_14 rfl (lv_at hl 1 rfl) ?_
    refine va_put (D := (dC, dI)) (ci := 2) (v := .int x1) (ty := .int) (C := RX2) (T := TX2) (N := 12) hx hb hts in_X2 tyX2 tyX2_ok nmX2 hown hK.1 hP hD hS 12 rfl rfl 5 (by decide) (hts _ q102) (fun _ h9 => h9) rfl (by decide +kernel) rfl rfl (Nat.le_of_ble_eq_true rfl) dX2_begin_15 (fun H locs hP hD hS => ?_)
    have hP : va_P (dC, dI) classes (wW h cy (sI s10 8 x1)) H := hP
    have hD : va_D A (wW h cy (sI s10 8 x1)) := hD
    refine lv_aload_n hx hb dX2_begin_18 rfl (lv_at hl 0 rfl) ?_
    refine lv_iload_n hx hb dX2_begin_19 rfl (lv_at hl 1 rfl) ?_
    refine cpSi (As := [.int x1]) (rest := [.ref (h 12)]) ⟨hx, hb, hr, hml, hown, hts, hlocks⟩ (m_J6_bitCount_0f7a4 l x1 _ hF) k_J6_bitCount_0f7a4 q240 ⟨rfl, rfl⟩ ⟨Nat.le_of_ble_eq_true rfl, Nat.le_of_ble_eq_true rfl⟩ hl.1 rfl rfl (Nat.le_of_ble_eq_true rfl) dX2_begin_20 ⟨Nat.le_of_ble_eq_true rfl, Nat.le_of_ble_eq_true rfl⟩ (fun r20 hF => ?_)
    refine va_put (D := (dC, dI)) (ci := 2) (v := .int r20) (ty := .int) (C := RX2) (T := TX2) (N := 12) hx hb hts in_X2 tyX2 tyX2_ok nmX2 hown hK.1 hP hD hS 12 rfl rfl 7 (by decide) (hts _ q105) (fun _ h9 => h9) rfl (by decide +kernel) rfl rfl (Nat.le_of_ble_eq_true rfl) dX2_begin_23 (fun H locs hP hD hS => ?_)
    have hP : va_P (dC, dI) classes (wW h cy (sI (sI s10 8 x1) 10 r20)) H := hP
    have hD : va_D A (wW h cy (sI (sI s10 8 x1) 10 r20)) := hD
    refine lv_aload_n hx hb dX2_begin_26 rfl (lv_at hl 0 rfl) ?_
    refine lv_iload_n hx hb dX2_begin_27 rfl (lv_at hl 1 rfl) ?_
    refine lv_lconst (v := 1) hx hb dX2_begin_28 (by decide) ?_
    have hFc := va_free (wc := wW h cy (sI (sI s10 8 x1) 10 r20)) hD hS hA [0, 1, 2, 3, 4, 5, 6, 7, 8, 9, 10, 11, 12, 13, 14, 15] rfl
    refine cwVv (q0 := 12) (As := [.int x1, .long 1]) (rest := []) ⟨hx, hb, hr, hml, hown, hts, hlocks⟩ hK hP hD rfl rfl hS hFc (m_X2_find l dC dI h cy _ (sI (sI s10 8 x1) 10 r20) x1 1 _ hF) k_X2_find q246 ⟨rfl, rfl⟩ ⟨Nat.le_of_ble_eq_true rfl, Nat.le_of_ble_eq_true rfl⟩ hl.1 rfl rfl (Nat.le_of_ble_eq_true rfl) dX2_begin_29 ⟨Nat.le_of_ble_eq_true rfl, Nat.le_of_ble_eq_true rfl⟩ (fun u H1 locs hF hP1 hD1 hk1 hS => ?_)
    obtain ⟨s29, rfl⟩ : ∃ z, z = u := ⟨_, rfl⟩
    have hP := hP1
    have hD := hD1.weaken (fun _ q _ h => hFc q.1 h)
    generalize H1 = H at hP hS ⊢
    have hP : va_P (dC, dI) classes (wW h cy s29) H := hP
    have hD : va_D A (wW h cy s29) := hD
    refine lv_iconst (v := 0) hx hb dX2_begin_32 (by decide) ?_
    refine lv_istore_n (lv' := [(2, .int 0), (0, .ref (h 12)), (1, .int x1)]) hx hb dX2_begin_33 rfl hl (by decide) rfl (fun ls hl => ?_)
    have hX34 : ∀ (s_67 : SX), (fun (s_67 : SX) => (P s_67)) s_67 → ∀ (H : Heap) (locs : List Loc), va_P (dC, dI) classes (wW h cy s_67) H → va_D A (wW h cy s_67) → va_S A s.heap H locs → ∀ (ls : Array Slot), lv_has ls 3 [] → W p l e ({ frames := 3, cells := 0, slots := 0, locals := 68 } : Room) s m ([.ref (h 12), .int x1] : List Value).toArray below meth c H locs 0 0 (MQ below (va_Qv (fun u => P u) (fun (u : SX) t => va_P (dC, dI) classes (wW h cy u) t.heap ∧ kwX dC dI cy t ∧ va_D A (wW h cy u)) A) ([.ref (h 12), .int x1] : List Value).toArray s 0 0 A) (F0 m 67 ls []) := by
      intro s_67 hF H locs hP hD hS ls hl
      exact W.vret hx hb hr (fun t ht hW => ⟨⟨s_67, rfl, hF, by rw [ht]; exact hP, hK.warm hW, hD⟩, hS.F ht⟩) hS.2.2 dX2_begin_67
    have hL34 : ∀ (K34 : SX → Prop), (∀ (s_67 : SX), K34 s_67 → ∀ (H : Heap) (locs : List Loc), va_P (dC, dI) classes (wW h cy s_67) H → va_D A (wW h cy s_67) → va_S A s.heap H locs → ∀ (ls : Array Slot), lv_has ls 3 [] → W p l e ({ frames := 3, cells := 0, slots := 0, locals := 68 } : Room) s m ([.ref (h 12), .int x1] : List Value).toArray below meth c H locs 0 0 (MQ below (va_Qv (fun u => P u) (fun (u : SX) t => va_P (dC, dI) classes (wW h cy u) t.heap ∧ kwX dC dI cy t ∧ va_D A (wW h cy u)) A) ([.ref (h 12), .int x1] : List Value).toArray s 0 0 A) (F0 m 67 ls [])) → ∀ (nn : Nat), ∀ (v2_34 : Int32), ∀ (s_34 : SX), wp_X2_begin_L34 fu K34 nn v2_34 s_34 → ∀ (H : Heap) (locs : List Loc), va_P (dC, dI) classes (wW h cy s_34) H → va_D A (wW h cy s_34) → va_S A s.heap H locs → ∀ (ls : Array Slot), lv_has ls 3 [(2, .int v2_34), (0, .ref (h 12))] → W p l e ({ frames := 3, cells := 0, slots := 0, locals := 68 } : Room) s m ([.ref (h 12), .int x1] : List Value).toArray below meth c H locs 0 0 (MQ below (va_Qv (fun u => P u) (fun (u : SX) t => va_P (dC, dI) classes (wW h cy u) t.heap ∧ kwX dC dI cy t ∧ va_D A (wW h cy u)) A) ([.ref (h 12), .int x1] : List Value).toArray s 0 0 A) (F0 m 34 ls []) := by
      intro K34 hX34 nn
      induction nn with
      | zero =>
        intro v2_34 s_34 hF
        exact hF.elim
      | succ nn ih =>
        intro v2_34 s_34 hF H locs hP hD hS ls hl
        obtain ⟨rec34, hrec⟩ : ∃ z : Int32 → SX → Prop, z = wp_X2_begin_L34 fu K34 nn := ⟨_, rfl⟩
        have hF : wp_X2_begin_B34 fu K34 rec34 v2_34 s_34 := by rw [hrec]; exact hF
        rw [← hrec] at ih
        clear hrec
        unfold wp_X2_begin_B34 at hF
        refine lv_iload_n hx hb dX2_begin_34 rfl (lv_at hl 0 rfl) ?_
        refine lv_aload_n hx hb dX2_begin_35 rfl (lv_at hl 1 rfl) ?_
        refine va_get (D := (dC, dI)) (ci := 2) (v := .int (s_34.1 7)) (C := RX2) (T := TX2) (N := 12) hx hb hts in_X2 hown hK.1 hP 12 rfl rfl 4 (by decide) (hts _ q100) (fun _ h9 => h9) rfl dX2_begin_36 ?_
        refine lv_icmp_ge (tgt := 67) hx hb dX2_begin_39 (by decide) (fun cz => ?_) (fun cz => ?_)
        · have hF := hF.1 cz
          exact hX34 s_34 hF _ _ hP hD hS _ (lv_sub hl [] rfl)
        · have hF := hF.2 cz
          refine lv_iload_n hx hb dX2_begin_42 rfl (lv_at hl 0 rfl) ?_
          refine lv_aload_n hx hb dX2_begin_43 rfl (lv_at hl 1 rfl) ?_
          refine va_get (D := (dC, dI)) (ci := 2) (v := .ref (h 13)) (C := RX2) (T := TX2) (N := 12) hx hb hts in_X2 hown hK.1 hP 12 rfl rfl 1 (by decide) (hts _ q97) (fun _ h9 => h9) rfl dX2_begin_44 ?_
          refine va_alen hx hb hK.1 hP 13 0 rfl rfl (v := 8192) (by rfl) dX2_begin_47 ?_
          refine lv_icmp_ge (tgt := 67) hx hb dX2_begin_48 (by decide) (fun cz => ?_) (fun cz => ?_)
          · have hF := hF.1 cz
            exact hX34 s_34 hF _ _ hP hD hS _ (lv_sub hl [] rfl)
          · have hF := hF.2 cz
            refine lv_aload_n hx hb dX2_begin_51 rfl (lv_at hl 1 rfl) ?_
            refine lv_aload_n hx hb dX2_begin_52 rfl (lv_at hl 1 rfl) ?_
            refine va_get (D := (dC, dI)) (ci := 2) (v := .ref (h 13)) (C := RX2) (T := TX2) (N := 12) hx hb hts in_X2 hown hK.1 hP 12 rfl rfl 1 (by decide) (hts _ q97) (fun _ h9 => h9) rfl dX2_begin_53 ?_
            refine lv_iload_n hx hb dX2_begin_56 rfl (lv_at hl 0 rfl) ?_
            have hI := hF.1
            have hF := hF.2
            refine va_iald hx hb hK.1 hP 13 0 rfl rfl hI dX2_begin_57 ?_
            have hFc := va_free (wc := wW h cy s_34) hD hS hA [0, 1, 2, 3, 4, 5, 6, 7, 8, 9, 10, 11, 12, 13, 14, 15] rfl
            refine cwVv (q0 := 12) (As := [.int ((s_34.2.1 6) v2_34.toNatClampNeg)]) (rest := []) ⟨hx, hb, hr, hml, hown, hts, hlocks⟩ hK hP hD rfl rfl hS hFc (m_X2_visit l dC dI h cy _ fu s_34 ((s_34.2.1 6) v2_34.toNatClampNeg) _ hF) k_X2_visit q250 ⟨rfl, rfl⟩ ⟨Nat.le_of_ble_eq_true rfl, Nat.le_of_ble_eq_true rfl⟩ hl.1 rfl rfl (Nat.le_of_ble_eq_true rfl) dX2_begin_58 ⟨Nat.le_of_ble_eq_true rfl, Nat.le_of_ble_eq_true rfl⟩ (fun u H1 locs hF hP1 hD1 hk1 hS => ?_)
            obtain ⟨s58, rfl⟩ : ∃ z, z = u := ⟨_, rfl⟩
            have hP := hP1
            have hD := hD1.weaken (fun _ q _ h => hFc q.1 h)
            generalize H1 = H at hP hS ⊢
            have hP : va_P (dC, dI) classes (wW h cy s58) H := hP
            have hD : va_D A (wW h cy s58) := hD
            refine lv_iinc (v := v2_34 + 1) (lv' := [(2, .int (v2_34 + 1)), (0, .ref (h 12))]) hx hb dX2_begin_61 hl (k := 0) rfl (by rfl) (by decide) rfl (fun ls hl => ?_)
            refine lv_goto (tgt := 34) hx hb dX2_begin_64 (by decide) ?_
            exact ih (v2_34 + 1) s58 hF _ _ hP hD hS _ (lv_sub hl [0, 1] rfl)
    exact hL34 _ hX34 fu 0 s29 hF _ _ hP hD hS _ (lv_sub hl [0, 1] rfl)
  · have hF := hF.2 cz
    exact W.vret hx hb hr (fun t ht hW => ⟨⟨σ, rfl, hF, by rw [ht]; exact hP, hK.warm hW, hD⟩, hS.F ht⟩) hS.2.2 dX2_begin_8
theorem dX2_changeFigure_0 : decode cX2_changeFigure 0 = .ok (.iload_n 1, 1) := by decide +kernel
theorem dX2_changeFigure_1 : decode cX2_changeFigure 1 = .ok (.ifCond .lt 19, 3) := by decide +kernel
theorem dX2_changeFigure_4 : decode cX2_changeFigure 4 = .ok (.iload_n 1, 1) := by decide +kernel
theorem dX2_changeFigure_5 : decode cX2_changeFigure 5 = .ok (.aload_n 0, 1) := by decide +kernel
theorem dX2_changeFigure_6 : decode cX2_changeFigure 6 = .ok (.getfield 19, 3) := by decide +kernel
theorem dX2_changeFigure_9 : decode cX2_changeFigure 9 = .ok (.arraylength, 1) := by decide +kernel
theorem dX2_changeFigure_10 : decode cX2_changeFigure 10 = .ok (.if_icmp .ge 10, 3) := by decide +kernel
theorem dX2_changeFigure_13 : decode cX2_changeFigure 13 = .ok (.aload_n 0, 1) := by decide +kernel
theorem dX2_changeFigure_14 : decode cX2_changeFigure 14 = .ok (.getfield 19, 3) := by decide +kernel
theorem dX2_changeFigure_17 : decode cX2_changeFigure 17 = .ok (.iload_n 1, 1) := by decide +kernel
theorem dX2_changeFigure_18 : decode cX2_changeFigure 18 = .ok (.iload_n 2, 1) := by decide +kernel
theorem dX2_changeFigure_19 : decode cX2_changeFigure 19 = .ok (.iastore, 1) := by decide +kernel
theorem dX2_changeFigure_20 : decode cX2_changeFigure 20 = .ok (.return_, 1) := by decide +kernel
def wp_X2_changeFigure (σ : SX) (x1 : Int32) (x2 : Int32) (P : SX → Prop) : Prop := ((x1 < 0 → (P σ)) ∧ (¬ x1 < 0 → ((10240 ≤ x1 → (P σ)) ∧ (¬ 10240 ≤ x1 → (vp_in x1 10240 ∧ (P (sA σ 7 (upd (σ.2.1 7) x1.toNatClampNeg x2))))))))
theorem k_X2_changeFigure : KV RX2 yX2_changeFigure cX2_changeFigure 3 none 2 := ⟨q334, qs7, q4, q335, by decide +kernel⟩
set_option maxHeartbeats 4000000 in
set_option maxRecDepth 100000 in
theorem m_X2_changeFigure (l : Launch) (dC : Nat → ClassId) (dI : Nat → Nat → Nat) (h : Nat → Nat) (cy : Nat → ClassId) (sz : Nat) (σ : SX) (x1 : Int32) (x2 : Int32) (P : SX → Prop) (hF : wp_X2_changeFigure σ x1 x2 P) : Met l yX2_changeFigure (ws_ yX2_changeFigure cX2_changeFigure 3 none) ({ frames := 0, cells := 0, slots := 0, locals := 0 } : Room) (va_Pc [.ref (h 12), .int x1, .int x2] (fun U => U.heap.size = sz ∧ va_P (dC, dI) classes (wW h cy σ) U.heap ∧ kwX dC dI cy U ∧ va_D (fun _ => True) (wW h cy σ))) (va_Qv (fun u => P u) (fun (u : SX) t => va_P (dC, dI) classes (wW h cy u) t.heap ∧ kwX dC dI cy t ∧ va_D (va_A (wW h cy σ) sz) (wW h cy u)) (va_A (wW h cy σ) sz)) 0 0 (va_A (wW h cy σ) sz) := by
  refine Met.ofCx (own := RX2) (by decide) rfl (Nat.le_of_ble_eq_true rfl) ?_
  intro p e s m below meth c hC hv ls hl
  obtain ⟨hx, hb, hr, hml, hown, hts, hlocks⟩ := hC
  have hl : lv_has ls 3 [(0, .ref (h 12)), (1, .int x1), (2, .int x2)] := hl
  obtain ⟨hsz, hP, hK, hD0⟩ := hv
  subst hsz
  have hD := hD0.self (sz := s.heap.size)
  generalize hAe : va_A (wW h cy σ) s.heap.size = A at hD ⊢
  have hA : ∀ q : Nat, s.heap.size ≤ q → A q := fun q h => by rw [← hAe]; exact Or.inr h
  have hS : va_S A s.heap s.heap [] := va_S.rf
  clear hAe
  unfold wp_X2_changeFigure at hF
  refine lv_iload_n hx hb dX2_changeFigure_0 rfl (lv_at hl 1 rfl) ?_
  refine lv_if_lt (tgt := 20) hx hb dX2_changeFigure_1 (by decide) (fun cz => ?_) (fun cz => ?_)
  · have hF := hF.1 cz
    exact W.vret hx hb hr (fun t ht hW => ⟨⟨σ, rfl, hF, by rw [ht]; exact hP, hK.warm hW, hD⟩, hS.F ht⟩) hS.2.2 dX2_changeFigure_20
  · have hF := hF.2 cz
    refine lv_iload_n hx hb dX2_changeFigure_4 rfl (lv_at hl 1 rfl) ?_
    refine lv_aload_n hx hb dX2_changeFigure_5 rfl (lv_at hl 0 rfl) ?_
    refine va_get (D := (dC, dI)) (ci := 2) (v := .ref (h 15)) (C := RX2) (T := TX2) (N := 12) hx hb hts in_X2 hown hK.1 hP 12 rfl rfl 3 (by decide) (hts _ q99) (fun _ h9 => h9) rfl dX2_changeFigure_6 ?_
    refine va_alen hx hb hK.1 hP 15 0 rfl rfl (v := 10240) (by rfl) dX2_changeFigure_9 ?_
    refine lv_icmp_ge (tgt := 20) hx hb dX2_changeFigure_10 (by decide) (fun cz => ?_) (fun cz => ?_)
    · have hF := hF.1 cz
      exact W.vret hx hb hr (fun t ht hW => ⟨⟨σ, rfl, hF, by rw [ht]; exact hP, hK.warm hW, hD⟩, hS.F ht⟩) hS.2.2 dX2_changeFigure_20
    · have hF := hF.2 cz
      refine lv_aload_n hx hb dX2_changeFigure_13 rfl (lv_at hl 0 rfl) ?_
      refine va_get (D := (dC, dI)) (ci := 2) (v := .ref (h 15)) (C := RX2) (T := TX2) (N := 12) hx hb hts in_X2 hown hK.1 hP 12 rfl rfl 3 (by decide) (hts _ q99) (fun _ h9 => h9) rfl dX2_changeFigure_14 ?_
      refine lv_iload_n hx hb dX2_changeFigure_17 rfl (lv_at hl 1 rfl) ?_
      refine lv_iload_n hx hb dX2_changeFigure_18 rfl (lv_at hl 2 rfl) ?_
      have hI := hF.1
      have hF := hF.2
      refine va_iast hx hb hK.1 hP hD hS 15 0 rfl rfl hI dX2_changeFigure_19 (fun H locs hP hD hS => ?_)
      have hP : va_P (dC, dI) classes (wW h cy (sA σ 7 (upd (σ.2.1 7) x1.toNatClampNeg x2))) H := hP
      have hD : va_D A (wW h cy (sA σ 7 (upd (σ.2.1 7) x1.toNatClampNeg x2))) := hD
      exact W.vret hx hb hr (fun t ht hW => ⟨⟨sA σ 7 (upd (σ.2.1 7) x1.toNatClampNeg x2), rfl, hF, by rw [ht]; exact hP, hK.warm hW, hD⟩, hS.F ht⟩) hS.2.2 dX2_changeFigure_20
theorem dX2_figureAt_0 : decode cX2_figureAt 0 = .ok (.iload_n 1, 1) := by decide +kernel
theorem dX2_figureAt_1 : decode cX2_figureAt 1 = .ok (.ifCond .lt 21, 3) := by decide +kernel
theorem dX2_figureAt_4 : decode cX2_figureAt 4 = .ok (.iload_n 1, 1) := by decide +kernel
theorem dX2_figureAt_5 : decode cX2_figureAt 5 = .ok (.aload_n 0, 1) := by decide +kernel
theorem dX2_figureAt_6 : decode cX2_figureAt 6 = .ok (.getfield 19, 3) := by decide +kernel
theorem dX2_figureAt_9 : decode cX2_figureAt 9 = .ok (.arraylength, 1) := by decide +kernel
theorem dX2_figureAt_10 : decode cX2_figureAt 10 = .ok (.if_icmp .ge 12, 3) := by decide +kernel
theorem dX2_figureAt_13 : decode cX2_figureAt 13 = .ok (.aload_n 0, 1) := by decide +kernel
theorem dX2_figureAt_14 : decode cX2_figureAt 14 = .ok (.getfield 19, 3) := by decide +kernel
theorem dX2_figureAt_17 : decode cX2_figureAt 17 = .ok (.iload_n 1, 1) := by decide +kernel
theorem dX2_figureAt_18 : decode cX2_figureAt 18 = .ok (.iaload, 1) := by decide +kernel
theorem dX2_figureAt_19 : decode cX2_figureAt 19 = .ok (.goto 4, 3) := by decide +kernel
theorem dX2_figureAt_22 : decode cX2_figureAt 22 = .ok (.iconst (-1), 1) := by decide +kernel
theorem dX2_figureAt_23 : decode cX2_figureAt 23 = .ok (.ireturn, 1) := by decide +kernel
def wp_X2_figureAt (σ : SX) (x1 : Int32) (P : Int32 → Prop) : Prop := ((x1 < 0 → (P (-1))) ∧ (¬ x1 < 0 → ((10240 ≤ x1 → (P (-1))) ∧ (¬ 10240 ≤ x1 → (vp_in x1 10240 ∧ (P ((σ.2.1 7) x1.toNatClampNeg)))))))
theorem k_X2_figureAt : KV RX2 yX2_figureAt cX2_figureAt 2 (some .int) 1 := ⟨q329, q330, q4, q331, by decide +kernel⟩
set_option maxHeartbeats 4000000 in
set_option maxRecDepth 100000 in
theorem m_X2_figureAt (l : Launch) (dC : Nat → ClassId) (dI : Nat → Nat → Nat) (h : Nat → Nat) (cy : Nat → ClassId) (σ : SX) (x1 : Int32) (P : Int32 → Prop) (hF : wp_X2_figureAt σ x1 P) : Met l yX2_figureAt (ws_ yX2_figureAt cX2_figureAt 2 (some .int)) ({ frames := 0, cells := 0, slots := 0, locals := 0 } : Room) (va_Pc [.ref (h 12), .int x1] (fun U => va_P (dC, dI) classes (wW h cy σ) U.heap ∧ kwX dC dI cy U)) (vp_Si P) 0 0 (fun _ => False) := by
  refine Met.ofCx (own := RX2) (by decide) rfl (Nat.le_of_ble_eq_true rfl) ?_
  intro p e s m below meth c hC hv ls hl
  obtain ⟨hx, hb, hr, hml, hown, hts, hlocks⟩ := hC
  have hl : lv_has ls 2 [(0, .ref (h 12)), (1, .int x1)] := hl
  obtain ⟨hP, hK⟩ := hv
  unfold wp_X2_figureAt at hF
  refine lv_iload_n hx hb dX2_figureAt_0 rfl (lv_at hl 1 rfl) ?_
  refine lv_if_lt (tgt := 22) hx hb dX2_figureAt_1 (by decide) (fun cz => ?_) (fun cz => ?_)
  · have hF := hF.1 cz
    refine lv_iconst (v := (-1)) hx hb dX2_figureAt_22 (by decide) ?_
    exact W.iret (v := (-1)) hx hb hr (fun t ht hW => ⟨(-1), rfl, hF, ht⟩) (fun q hq => absurd hq List.not_mem_nil) dX2_figureAt_23
  · have hF := hF.2 cz
    refine lv_iload_n hx hb dX2_figureAt_4 rfl (lv_at hl 1 rfl) ?_
    refine lv_aload_n hx hb dX2_figureAt_5 rfl (lv_at hl 0 rfl) ?_
    refine va_get (D := (dC, dI)) (ci := 2) (v := .ref (h 15)) (C := RX2) (T := TX2) (N := 12) hx hb hts in_X2 hown hK.1 hP 12 rfl rfl 3 (by decide) (hts _ q99) (fun _ h9 => h9) rfl dX2_figureAt_6 ?_
    refine va_alen hx hb hK.1 hP 15 0 rfl rfl (v := 10240) (by rfl) dX2_figureAt_9 ?_
    refine lv_icmp_ge (tgt := 22) hx hb dX2_figureAt_10 (by decide) (fun cz => ?_) (fun cz => ?_)
    · have hF := hF.1 cz
      refine lv_iconst (v := (-1)) hx hb dX2_figureAt_22 (by decide) ?_
      exact W.iret (v := (-1)) hx hb hr (fun t ht hW => ⟨(-1), rfl, hF, ht⟩) (fun q hq => absurd hq List.not_mem_nil) dX2_figureAt_23
    · have hF := hF.2 cz
      refine lv_aload_n hx hb dX2_figureAt_13 rfl (lv_at hl 0 rfl) ?_
      refine va_get (D := (dC, dI)) (ci := 2) (v := .ref (h 15)) (C := RX2) (T := TX2) (N := 12) hx hb hts in_X2 hown hK.1 hP 12 rfl rfl 3 (by decide) (hts _ q99) (fun _ h9 => h9) rfl dX2_figureAt_14 ?_
      refine lv_iload_n hx hb dX2_figureAt_17 rfl (lv_at hl 1 rfl) ?_
      have hI := hF.1
      have hF := hF.2
      refine va_iald hx hb hK.1 hP 15 0 rfl rfl hI dX2_figureAt_18 ?_
      refine lv_goto (tgt := 23) hx hb dX2_figureAt_19 (by decide) ?_
      exact W.iret (v := (σ.2.1 7) x1.toNatClampNeg) hx hb hr (fun t ht hW => ⟨(σ.2.1 7) x1.toNatClampNeg, rfl, hF, ht⟩) (fun q hq => absurd hq List.not_mem_nil) dX2_figureAt_23
theorem dX2_leads_0 : decode cX2_leads 0 = .ok (.iload_n 1, 1) := by decide +kernel
theorem dX2_leads_1 : decode cX2_leads 1 = .ok (.iload_n 2, 1) := by decide +kernel
theorem dX2_leads_2 : decode cX2_leads 2 = .ok (.if_icmp .ne 5, 3) := by decide +kernel
theorem dX2_leads_5 : decode cX2_leads 5 = .ok (.iconst 1, 1) := by decide +kernel
theorem dX2_leads_6 : decode cX2_leads 6 = .ok (.ireturn, 1) := by decide +kernel
theorem dX2_leads_7 : decode cX2_leads 7 = .ok (.iconst 0, 1) := by decide +kernel
theorem dX2_leads_8 : decode cX2_leads 8 = .ok (.istore_n 3, 1) := by decide +kernel
theorem dX2_leads_9 : decode cX2_leads 9 = .ok (.iload_n 3, 1) := by decide +kernel
theorem dX2_leads_10 : decode cX2_leads 10 = .ok (.aload_n 0, 1) := by decide +kernel
theorem dX2_leads_11 : decode cX2_leads 11 = .ok (.getfield 29, 3) := by decide +kernel
theorem dX2_leads_14 : decode cX2_leads 14 = .ok (.invokevirtual 65, 3) := by decide +kernel
theorem dX2_leads_17 : decode cX2_leads 17 = .ok (.if_icmp .ge 38, 3) := by decide +kernel
theorem dX2_leads_20 : decode cX2_leads 20 = .ok (.aload_n 0, 1) := by decide +kernel
theorem dX2_leads_21 : decode cX2_leads 21 = .ok (.getfield 29, 3) := by decide +kernel
theorem dX2_leads_24 : decode cX2_leads 24 = .ok (.iload_n 1, 1) := by decide +kernel
theorem dX2_leads_25 : decode cX2_leads 25 = .ok (.iload_n 3, 1) := by decide +kernel
theorem dX2_leads_26 : decode cX2_leads 26 = .ok (.invokevirtual 71, 3) := by decide +kernel
theorem dX2_leads_29 : decode cX2_leads 29 = .ok (.istore 4, 2) := by decide +kernel
theorem dX2_leads_31 : decode cX2_leads 31 = .ok (.iload 4, 2) := by decide +kernel
theorem dX2_leads_33 : decode cX2_leads 33 = .ok (.iconst (-1), 1) := by decide +kernel
theorem dX2_leads_34 : decode cX2_leads 34 = .ok (.if_icmp .eq 15, 3) := by decide +kernel
theorem dX2_leads_37 : decode cX2_leads 37 = .ok (.aload_n 0, 1) := by decide +kernel
theorem dX2_leads_38 : decode cX2_leads 38 = .ok (.iload 4, 2) := by decide +kernel
theorem dX2_leads_40 : decode cX2_leads 40 = .ok (.invokevirtual 95, 3) := by decide +kernel
theorem dX2_leads_43 : decode cX2_leads 43 = .ok (.iconst 1, 1) := by decide +kernel
theorem dX2_leads_44 : decode cX2_leads 44 = .ok (.if_icmp .ne 5, 3) := by decide +kernel
theorem dX2_leads_47 : decode cX2_leads 47 = .ok (.iconst 1, 1) := by decide +kernel
theorem dX2_leads_48 : decode cX2_leads 48 = .ok (.ireturn, 1) := by decide +kernel
theorem dX2_leads_49 : decode cX2_leads 49 = .ok (.iinc 3 1, 3) := by decide +kernel
theorem dX2_leads_52 : decode cX2_leads 52 = .ok (.goto (-43), 3) := by decide +kernel
theorem dX2_leads_55 : decode cX2_leads 55 = .ok (.iconst 0, 1) := by decide +kernel
theorem dX2_leads_56 : decode cX2_leads 56 = .ok (.ireturn, 1) := by decide +kernel
def wp_X2_leads_J49 (rec9 : Int32 → Prop) (v3_9 : Int32) : Prop := (rec9 (v3_9 + 1))
def wp_X2_leads_B9 (σ : SX) (x1 : Int32) (P : Int32 → Prop) (K9 : Prop) (rec9 : Int32 → Prop) (v3_9 : Int32) : Prop := (wp_X0_lineCount σ  (fun r14 => ((r14 ≤ v3_9 → K9) ∧ (¬ r14 ≤ v3_9 → (wp_X0_behind σ x1 v3_9 (fun r26 => ((r26 = (-1) → wp_X2_leads_J49 rec9 v3_9) ∧ (¬ r26 = (-1) → (wp_X2_figureAt σ r26 (fun r40 => ((¬ r40 = 1 → wp_X2_leads_J49 rec9 v3_9) ∧ (r40 = 1 → (P 1)))))))))))))
def wp_X2_leads_L9 (σ : SX) (x1 : Int32) (P : Int32 → Prop) (K9 : Prop) : Nat → Int32 → Prop
  | 0, _ => False
  | nn + 1, v3_9 => wp_X2_leads_B9 σ x1 P K9 (wp_X2_leads_L9 σ x1 P K9 nn) v3_9
def wp_X2_leads (fu : Nat) (σ : SX) (x1 : Int32) (x2 : Int32) (P : Int32 → Prop) : Prop := ((¬ x1 = x2 → (wp_X2_leads_L9 σ x1 P (P 0) fu 0)) ∧ (x1 = x2 → (P 1)))
theorem k_X2_leads : KV RX2 yX2_leads cX2_leads 5 (some .boolean) 2 := ⟨q735, qs20, q4, q736, by decide +kernel⟩
set_option maxHeartbeats 4000000 in
set_option maxRecDepth 100000 in
theorem m_X2_leads (l : Launch) (dC : Nat → ClassId) (dI : Nat → Nat → Nat) (h : Nat → Nat) (cy : Nat → ClassId) (fu : Nat) (σ : SX) (x1 : Int32) (x2 : Int32) (P : Int32 → Prop) (hF : wp_X2_leads fu σ x1 x2 P) : Met l yX2_leads (ws_ yX2_leads cX2_leads 5 (some .boolean)) ({ frames := 2, cells := 0, slots := 0, locals := 44 } : Room) (va_Pc [.ref (h 12), .int x1, .int x2] (fun U => va_P (dC, dI) classes (wW h cy σ) U.heap ∧ kwX dC dI cy U)) (vp_Si P) 0 0 (fun _ => False) := by
  refine Met.ofCx (own := RX2) (by decide) rfl (Nat.le_of_ble_eq_true rfl) ?_
  intro p e s m below meth c hC hv ls hl
  obtain ⟨hx, hb, hr, hml, hown, hts, hlocks⟩ := hC
  have hl : lv_has ls 5 [(0, .ref (h 12)), (1, .int x1), (2, .int x2)] := hl
  obtain ⟨hP, hK⟩ := hv
  unfold wp_X2_leads at hF
  refine lv_iload_n hx hb dX2_leads_0 rfl (lv_at hl 1 rfl) ?_
  refine lv_iload_n hx hb dX2_leads_1 rfl (lv_at hl 2 rfl) ?_
  refine lv_icmp_ne (tgt := 7) hx hb dX2_leads_2 (by decide) (fun cz => ?_) (fun cz => ?_)
  · have hF := hF.1 cz
    refine lv_iconst (v := 0) hx hb dX2_leads_7 (by decide) ?_
    refine lv_istore_n (lv' := [(3, .int 0), (0, .ref (h 12)), (1, .int x1), (2, .int x2)]) hx hb dX2_leads_8 rfl hl (by decide) rfl (fun ls hl => ?_)
    have hX9 : (P 0) → ∀ (ls : Array Slot), lv_has ls 5 [] → W p l e ({ frames := 2, cells := 0, slots := 0, locals := 44 } : Room) s m ([.ref (h 12), .int x1, .int x2] : List Value).toArray below meth c s.heap [] 0 0 (MQ below (vp_Si P) ([.ref (h 12), .int x1, .int x2] : List Value).toArray s 0 0 (fun _ => False)) (F0 m 55 ls []) := by
      intro hF ls hl
      refine lv_iconst (v := 0) hx hb dX2_leads_55 (by decide) ?_
      exact W.zret (v := 0) hx hb hr rfl (fun t ht hW => ⟨0, rfl, hF, ht⟩) (fun q hq => absurd hq List.not_mem_nil) dX2_leads_56
    have hL9 : ∀ (K9 : Prop), (K9 → ∀ (ls : Array Slot), lv_has ls 5 [] → W p l e ({ frames := 2, cells := 0, slots := 0, locals := 44 } : Room) s m ([.ref (h 12), .int x1, .int x2] : List Value).toArray below meth c s.heap [] 0 0 (MQ below (vp_Si P) ([.ref (h 12), .int x1, .int x2] : List Value).toArray s 0 0 (fun _ => False)) (F0 m 55 ls [])) → ∀ (nn : Nat), ∀ (v3_9 : Int32), wp_X2_leads_L9 σ x1 P K9 nn v3_9 → ∀ (ls : Array Slot), lv_has ls 5 [(3, .int v3_9), (0, .ref (h 12)), (1, .int x1)] → W p l e ({ frames := 2, cells := 0, slots := 0, locals := 44 } : Room) s m ([.ref (h 12), .int x1, .int x2] : List Value).toArray below meth c s.heap [] 0 0 (MQ below (vp_Si P) ([.ref (h 12), .int x1, .int x2] : List Value).toArray s 0 0 (fun _ => False)) (F0 m 9 ls []) := by
      intro K9 hX9 nn
      induction nn with
      | zero =>
        intro v3_9 hF
        exact hF.elim
      | succ nn ih =>
        intro v3_9 hF ls hl
        obtain ⟨rec9, hrec⟩ : ∃ z : Int32 → Prop, z = wp_X2_leads_L9 σ x1 P K9 nn := ⟨_, rfl⟩
        have hF : wp_X2_leads_B9 σ x1 P K9 rec9 v3_9 := by rw [hrec]; exact hF
        rw [← hrec] at ih
        clear hrec
        unfold wp_X2_leads_B9 at hF
        refine lv_iload_n hx hb dX2_leads_9 rfl (lv_at hl 0 rfl) ?_
        refine lv_aload_n hx hb dX2_leads_10 rfl (lv_at hl 1 rfl) ?_
        refine va_get (D := (dC, dI)) (ci := 2) (v := .ref (h 0)) (C := RX2) (T := TX2) (N := 12) hx hb hts in_X2 hown hK.1 hP 12 rfl rfl 0 (by decide) (hts _ q96) (fun _ h9 => h9) rfl dX2_leads_11 ?_
        have hPc := hP.sub (ws' := wB h cy σ) [0, 1, 2, 3, 4, 5, 6, 7, 8, 9, 10, 11] rfl
        refine cpVi (q0 := 0) (As := []) (rest := [.int v3_9]) ⟨hx, hb, hr, hml, hown, hts, hlocks⟩ hK hPc rfl rfl (m_X0_lineCount l dC dI h cy σ  _ hF) k_X0_lineCount q254 ⟨rfl, rfl⟩ ⟨Nat.le_of_ble_eq_true rfl, Nat.le_of_ble_eq_true rfl⟩ hl.1 rfl rfl (Nat.le_of_ble_eq_true rfl) dX2_leads_14 ⟨Nat.le_of_ble_eq_true rfl, Nat.le_of_ble_eq_true rfl⟩ (fun r14 hF => ?_)
        refine lv_icmp_ge (tgt := 55) hx hb dX2_leads_17 (by decide) (fun cz => ?_) (fun cz => ?_)
        · have hF := hF.1 cz
          exact hX9 hF _ (lv_sub hl [] rfl)
        · have hF := hF.2 cz
          refine lv_aload_n hx hb dX2_leads_20 rfl (lv_at hl 1 rfl) ?_
          refine va_get (D := (dC, dI)) (ci := 2) (v := .ref (h 0)) (C := RX2) (T := TX2) (N := 12) hx hb hts in_X2 hown hK.1 hP 12 rfl rfl 0 (by decide) (hts _ q96) (fun _ h9 => h9) rfl dX2_leads_21 ?_
          refine lv_iload_n hx hb dX2_leads_24 rfl (lv_at hl 2 rfl) ?_
          refine lv_iload_n hx hb dX2_leads_25 rfl (lv_at hl 0 rfl) ?_
          have hPc := hP.sub (ws' := wB h cy σ) [0, 1, 2, 3, 4, 5, 6, 7, 8, 9, 10, 11] rfl
          refine cpVi (q0 := 0) (As := [.int x1, .int v3_9]) (rest := []) ⟨hx, hb, hr, hml, hown, hts, hlocks⟩ hK hPc rfl rfl (m_X0_behind l dC dI h cy σ x1 v3_9 _ hF) k_X0_behind q255 ⟨rfl, rfl⟩ ⟨Nat.le_of_ble_eq_true rfl, Nat.le_of_ble_eq_true rfl⟩ hl.1 rfl rfl (Nat.le_of_ble_eq_true rfl) dX2_leads_26 ⟨Nat.le_of_ble_eq_true rfl, Nat.le_of_ble_eq_true rfl⟩ (fun r26 hF => ?_)
          refine lv_istore (lv' := [(4, .int r26), (3, .int v3_9), (0, .ref (h 12)), (1, .int x1)]) hx hb dX2_leads_29 hl (by decide) rfl (fun ls hl => ?_)
          refine lv_iload hx hb dX2_leads_31 (lv_at hl 0 rfl) ?_
          refine lv_iconst (v := (-1)) hx hb dX2_leads_33 (by decide) ?_
          have hJ49 : wp_X2_leads_J49 rec9 v3_9 → ∀ (ls : Array Slot), lv_has ls 5 [(3, .int v3_9), (0, .ref (h 12)), (1, .int x1)] → W p l e ({ frames := 2, cells := 0, slots := 0, locals := 44 } : Room) s m ([.ref (h 12), .int x1, .int x2] : List Value).toArray below meth c s.heap [] 0 0 (MQ below (vp_Si P) ([.ref (h 12), .int x1, .int x2] : List Value).toArray s 0 0 (fun _ => False)) (F0 m 49 ls []) := by
            intro hF ls hl
            unfold wp_X2_leads_J49 at hF
            refine lv_iinc (v := v3_9 + 1) (lv' := [(3, .int (v3_9 + 1)), (0, .ref (h 12)), (1, .int x1)]) hx hb dX2_leads_49 hl (k := 0) rfl (by rfl) (by decide) rfl (fun ls hl => ?_)
            refine lv_goto (tgt := 9) hx hb dX2_leads_52 (by decide) ?_
            exact ih (v3_9 + 1) hF _ (lv_sub hl [0, 1, 2] rfl)
          refine lv_icmp_eq (tgt := 49) hx hb dX2_leads_34 (by decide) (fun cz => ?_) (fun cz => ?_)
          · have hF := hF.1 cz
            exact hJ49 hF _ (lv_sub hl [1, 2, 3] rfl)
          · have hF := hF.2 cz
            refine lv_aload_n hx hb dX2_leads_37 rfl (lv_at hl 2 rfl) ?_
            refine lv_iload hx hb dX2_leads_38 (lv_at hl 0 rfl) ?_
            refine cpVi (q0 := 12) (As := [.int r26]) (rest := []) ⟨hx, hb, hr, hml, hown, hts, hlocks⟩ hK hP rfl rfl (m_X2_figureAt l dC dI h cy σ r26 _ hF) k_X2_figureAt q328 ⟨rfl, rfl⟩ ⟨Nat.le_of_ble_eq_true rfl, Nat.le_of_ble_eq_true rfl⟩ hl.1 rfl rfl (Nat.le_of_ble_eq_true rfl) dX2_leads_40 ⟨Nat.le_of_ble_eq_true rfl, Nat.le_of_ble_eq_true rfl⟩ (fun r40 hF => ?_)
            refine lv_iconst (v := 1) hx hb dX2_leads_43 (by decide) ?_
            refine lv_icmp_ne (tgt := 49) hx hb dX2_leads_44 (by decide) (fun cz => ?_) (fun cz => ?_)
            · have hF := hF.1 cz
              exact hJ49 hF _ (lv_sub hl [1, 2, 3] rfl)
            · have hF := hF.2 cz
              refine lv_iconst (v := 1) hx hb dX2_leads_47 (by decide) ?_
              exact W.zret (v := 1) hx hb hr rfl (fun t ht hW => ⟨1, rfl, hF, ht⟩) (fun q hq => absurd hq List.not_mem_nil) dX2_leads_48
    exact hL9 _ hX9 fu 0 hF _ (lv_sub hl [0, 1, 2] rfl)
  · have hF := hF.2 cz
    refine lv_iconst (v := 1) hx hb dX2_leads_5 (by decide) ?_
    exact W.zret (v := 1) hx hb hr rfl (fun t ht hW => ⟨1, rfl, hF, ht⟩) (fun q hq => absurd hq List.not_mem_nil) dX2_leads_6
theorem dX2_figureLeads_0 : decode cX2_figureLeads 0 = .ok (.aload_n 0, 1) := by decide +kernel
theorem dX2_figureLeads_1 : decode cX2_figureLeads 1 = .ok (.getfield 26, 3) := by decide +kernel
theorem dX2_figureLeads_4 : decode cX2_figureLeads 4 = .ok (.iconst 1, 1) := by decide +kernel
theorem dX2_figureLeads_5 : decode cX2_figureLeads 5 = .ok (.if_icmp .ne 12, 3) := by decide +kernel
theorem dX2_figureLeads_8 : decode cX2_figureLeads 8 = .ok (.aload_n 0, 1) := by decide +kernel
theorem dX2_figureLeads_9 : decode cX2_figureLeads 9 = .ok (.getfield 84, 3) := by decide +kernel
theorem dX2_figureLeads_12 : decode cX2_figureLeads 12 = .ok (.iload_n 1, 1) := by decide +kernel
theorem dX2_figureLeads_13 : decode cX2_figureLeads 13 = .ok (.if_icmp .ne 4, 3) := by decide +kernel
theorem dX2_figureLeads_16 : decode cX2_figureLeads 16 = .ok (.return_, 1) := by decide +kernel
theorem dX2_figureLeads_17 : decode cX2_figureLeads 17 = .ok (.aload_n 0, 1) := by decide +kernel
theorem dX2_figureLeads_18 : decode cX2_figureLeads 18 = .ok (.iconst 1, 1) := by decide +kernel
theorem dX2_figureLeads_19 : decode cX2_figureLeads 19 = .ok (.putfield 26, 3) := by decide +kernel
theorem dX2_figureLeads_22 : decode cX2_figureLeads 22 = .ok (.aload_n 0, 1) := by decide +kernel
theorem dX2_figureLeads_23 : decode cX2_figureLeads 23 = .ok (.iload_n 1, 1) := by decide +kernel
theorem dX2_figureLeads_24 : decode cX2_figureLeads 24 = .ok (.putfield 84, 3) := by decide +kernel
theorem dX2_figureLeads_27 : decode cX2_figureLeads 27 = .ok (.aload_n 0, 1) := by decide +kernel
theorem dX2_figureLeads_28 : decode cX2_figureLeads 28 = .ok (.getfield 49, 3) := by decide +kernel
theorem dX2_figureLeads_31 : decode cX2_figureLeads 31 = .ok (.aload_n 0, 1) := by decide +kernel
theorem dX2_figureLeads_32 : decode cX2_figureLeads 32 = .ok (.getfield 9, 3) := by decide +kernel
theorem dX2_figureLeads_35 : decode cX2_figureLeads 35 = .ok (.arraylength, 1) := by decide +kernel
theorem dX2_figureLeads_36 : decode cX2_figureLeads 36 = .ok (.invokestatic 79, 3) := by decide +kernel
theorem dX2_figureLeads_39 : decode cX2_figureLeads 39 = .ok (.iconst 1, 1) := by decide +kernel
theorem dX2_figureLeads_40 : decode cX2_figureLeads 40 = .ok (.isub, 1) := by decide +kernel
theorem dX2_figureLeads_41 : decode cX2_figureLeads 41 = .ok (.istore_n 2, 1) := by decide +kernel
theorem dX2_figureLeads_42 : decode cX2_figureLeads 42 = .ok (.iload_n 2, 1) := by decide +kernel
theorem dX2_figureLeads_43 : decode cX2_figureLeads 43 = .ok (.ifCond .lt 38, 3) := by decide +kernel
theorem dX2_figureLeads_46 : decode cX2_figureLeads 46 = .ok (.aload_n 0, 1) := by decide +kernel
theorem dX2_figureLeads_47 : decode cX2_figureLeads 47 = .ok (.aload_n 0, 1) := by decide +kernel
theorem dX2_figureLeads_48 : decode cX2_figureLeads 48 = .ok (.getfield 9, 3) := by decide +kernel
theorem dX2_figureLeads_51 : decode cX2_figureLeads 51 = .ok (.iload_n 2, 1) := by decide +kernel
theorem dX2_figureLeads_52 : decode cX2_figureLeads 52 = .ok (.iaload, 1) := by decide +kernel
theorem dX2_figureLeads_53 : decode cX2_figureLeads 53 = .ok (.aload_n 0, 1) := by decide +kernel
theorem dX2_figureLeads_54 : decode cX2_figureLeads 54 = .ok (.aload_n 0, 1) := by decide +kernel
theorem dX2_figureLeads_55 : decode cX2_figureLeads 55 = .ok (.getfield 9, 3) := by decide +kernel
theorem dX2_figureLeads_58 : decode cX2_figureLeads 58 = .ok (.iload_n 2, 1) := by decide +kernel
theorem dX2_figureLeads_59 : decode cX2_figureLeads 59 = .ok (.iaload, 1) := by decide +kernel
theorem dX2_figureLeads_60 : decode cX2_figureLeads 60 = .ok (.iload_n 1, 1) := by decide +kernel
theorem dX2_figureLeads_61 : decode cX2_figureLeads 61 = .ok (.invokevirtual 87, 3) := by decide +kernel
theorem dX2_figureLeads_64 : decode cX2_figureLeads 64 = .ok (.ifCond .eq 7, 3) := by decide +kernel
theorem dX2_figureLeads_67 : decode cX2_figureLeads 67 = .ok (.iconst 1, 1) := by decide +kernel
theorem dX2_figureLeads_68 : decode cX2_figureLeads 68 = .ok (.goto 4, 3) := by decide +kernel
theorem dX2_figureLeads_71 : decode cX2_figureLeads 71 = .ok (.iconst 0, 1) := by decide +kernel
theorem dX2_figureLeads_72 : decode cX2_figureLeads 72 = .ok (.invokevirtual 91, 3) := by decide +kernel
theorem dX2_figureLeads_75 : decode cX2_figureLeads 75 = .ok (.iinc 2 (-1), 3) := by decide +kernel
theorem dX2_figureLeads_78 : decode cX2_figureLeads 78 = .ok (.goto (-36), 3) := by decide +kernel
theorem dX2_figureLeads_81 : decode cX2_figureLeads 81 = .ok (.return_, 1) := by decide +kernel
def wp_X2_figureLeads_J72 (rec42 : Int32 → SX → Prop) (v2_42 : Int32) (s_42 : SX) (t2_72 : Int32) : Prop := (wp_X2_changeFigure s_42 ((s_42.2.1 6) v2_42.toNatClampNeg) t2_72 (fun s72 => (rec42 (v2_42 + (-1)) s72)))
def wp_X2_figureLeads_B42 (fu : Nat) (x1 : Int32) (K42 : SX → Prop) (rec42 : Int32 → SX → Prop) (v2_42 : Int32) (s_42 : SX) : Prop := ((v2_42 < 0 → (K42 s_42)) ∧ (¬ v2_42 < 0 → (vp_in v2_42 8192 ∧ (vp_in v2_42 8192 ∧ (wp_X2_leads fu s_42 ((s_42.2.1 6) v2_42.toNatClampNeg) x1 (fun r61 => ((r61 = 0 → (wp_X2_figureLeads_J72 rec42 v2_42 s_42 0)) ∧ (¬ r61 = 0 → (wp_X2_figureLeads_J72 rec42 v2_42 s_42 1)))))))))
def wp_X2_figureLeads_L42 (fu : Nat) (x1 : Int32) (K42 : SX → Prop) : Nat → Int32 → SX → Prop
  | 0, _, _ => False
  | nn + 1, v2_42, s_42 => wp_X2_figureLeads_B42 fu x1 K42 (wp_X2_figureLeads_L42 fu x1 K42 nn) v2_42 s_42
def wp_X2_figureLeads_J17 (fu : Nat) (σ : SX) (x1 : Int32) (P : SX → Prop) : Prop := (wp_X2_figureLeads_L42 fu x1 (fun (s_81 : SX) => (P s_81)) fu ((jmin (σ.1 7) 8192) - 1) (sI (sI σ 13 1) 14 x1))
def wp_X2_figureLeads (fu : Nat) (σ : SX) (x1 : Int32) (P : SX → Prop) : Prop := ((¬ (σ.1 13) = 1 → wp_X2_figureLeads_J17 fu σ x1 P) ∧ ((σ.1 13) = 1 → ((¬ (σ.1 14) = x1 → wp_X2_figureLeads_J17 fu σ x1 P) ∧ ((σ.1 14) = x1 → (P σ)))))
theorem k_X2_figureLeads : KV RX2 yX2_figureLeads cX2_figureLeads 3 none 1 := ⟨q730, q731, q4, q732, by decide +kernel⟩
set_option maxHeartbeats 4000000 in
set_option maxRecDepth 100000 in
theorem m_X2_figureLeads (l : Launch) (dC : Nat → ClassId) (dI : Nat → Nat → Nat) (h : Nat → Nat) (cy : Nat → ClassId) (sz : Nat) (fu : Nat) (σ : SX) (x1 : Int32) (P : SX → Prop) (hF : wp_X2_figureLeads fu σ x1 P) : Met l yX2_figureLeads (ws_ yX2_figureLeads cX2_figureLeads 3 none) ({ frames := 3, cells := 0, slots := 0, locals := 68 } : Room) (va_Pc [.ref (h 12), .int x1] (fun U => U.heap.size = sz ∧ va_P (dC, dI) classes (wW h cy σ) U.heap ∧ kwX dC dI cy U ∧ va_D (fun _ => True) (wW h cy σ))) (va_Qv (fun u => P u) (fun (u : SX) t => va_P (dC, dI) classes (wW h cy u) t.heap ∧ kwX dC dI cy t ∧ va_D (va_A (wW h cy σ) sz) (wW h cy u)) (va_A (wW h cy σ) sz)) 0 0 (va_A (wW h cy σ) sz) := by
  refine Met.ofCx (own := RX2) (by decide) rfl (Nat.le_of_ble_eq_true rfl) ?_
  intro p e s m below meth c hC hv ls hl
  obtain ⟨hx, hb, hr, hml, hown, hts, hlocks⟩ := hC
  have hl : lv_has ls 3 [(0, .ref (h 12)), (1, .int x1)] := hl
  obtain ⟨hsz, hP, hK, hD0⟩ := hv
  subst hsz
  have hD := hD0.self (sz := s.heap.size)
  generalize hAe : va_A (wW h cy σ) s.heap.size = A at hD ⊢
  have hA : ∀ q : Nat, s.heap.size ≤ q → A q := fun q h => by rw [← hAe]; exact Or.inr h
  have hS : va_S A s.heap s.heap [] := va_S.rf
  clear hAe
  unfold wp_X2_figureLeads at hF
  refine lv_aload_n hx hb dX2_figureLeads_0 rfl (lv_at hl 0 rfl) ?_
  refine va_get (D := (dC, dI)) (ci := 2) (v := .int (σ.1 13)) (C := RX2) (T := TX2) (N := 12) hx hb hts in_X2 hown hK.1 hP 12 rfl rfl 10 (by decide) (hts _ q111) (fun _ h9 => h9) rfl dX2_figureLeads_1 ?_
  refine lv_iconst (v := 1) hx hb dX2_figureLeads_4 (by decide) ?_
  have hJ17 : wp_X2_figureLeads_J17 fu σ x1 P → ∀ (H : Heap) (locs : List Loc), va_P (dC, dI) classes (wW h cy σ) H → va_D A (wW h cy σ) → va_S A s.heap H locs → ∀ (ls : Array Slot), lv_has ls 3 [(0, .ref (h 12)), (1, .int x1)] → W p l e ({ frames := 3, cells := 0, slots := 0, locals := 68 } : Room) s m ([.ref (h 12), .int x1] : List Value).toArray below meth c H locs 0 0 (MQ below (va_Qv (fun u => P u) (fun (u : SX) t => va_P (dC, dI) classes (wW h cy u) t.heap ∧ kwX dC dI cy t ∧ va_D A (wW h cy u)) A) ([.ref (h 12), .int x1] : List Value).toArray s 0 0 A) (F0 m 17 ls []) := by
    intro hF H locs hP hD hS ls hl
    unfold wp_X2_figureLeads_J17 at hF
    refine lv_aload_n hx hb dX2_figureLeads_17 rfl (lv_at hl 0 rfl) ?_
    refine lv_iconst (v := 1) hx hb dX2_figureLeads_18 (by decide) ?_
    refine va_put (D := (dC, dI)) (ci := 2) (v := .int 1) (ty := .int) (C := RX2) (T := TX2) (N := 12) hx hb hts in_X2 tyX2 tyX2_ok nmX2 hown hK.1 hP hD hS 12 rfl rfl 10 (by decide) (hts _ q111) (fun _ h9 => h9) rfl (by decide +kernel) rfl rfl (Nat.le_of_ble_eq_true rfl) dX2_figureLeads_19 (fun H locs hP hD hS => ?_)
    have hP : va_P (dC, dI) classes (wW h cy (sI σ 13 1)) H := hP
    have hD : va_D A (wW h cy (sI σ 13 1)) := hD
    refine lv_aload_n hx hb dX2_figureLeads_22 rfl (lv_at hl 0 rfl) ?_
    refine lv_iload_n hx hb dX2_figureLeads_23 rfl (lv_at hl 1 rfl) ?_
    refine va_put (D := (dC, dI)) (ci := 2) (v := .int x1) (ty := .int) (C := RX2) (T := TX2) (N := 12) hx hb hts in_X2 tyX2 tyX2_ok nmX2 hown hK.1 hP hD hS 12 rfl rfl 11 (by decide) (hts _ q112) (fun _ h9 => h9) rfl (by decide +kernel) rfl rfl (Nat.le_of_ble_eq_true rfl) dX2_figureLeads_24 (fun H locs hP hD hS => ?_)
    have hP : va_P (dC, dI) classes (wW h cy (sI (sI σ 13 1) 14 x1)) H := hP
    have hD : va_D A (wW h cy (sI (sI σ 13 1) 14 x1)) := hD
    refine lv_aload_n hx hb dX2_figureLeads_27 rfl (lv_at hl 0 rfl) ?_
    refine va_get (D := (dC, dI)) (ci := 2) (v := .int (σ.1 7)) (C := RX2) (T := TX2) (N := 12) hx hb hts in_X2 hown hK.1 hP 12 rfl rfl 4 (by decide) (hts _ q100) (fun _ h9 => h9) rfl dX2_figureLeads_28 ?_
    refine lv_aload_n hx hb dX2_figureLeads_31 rfl (lv_at hl 0 rfl) ?_
    refine va_get (D := (dC, dI)) (ci := 2) (v := .ref (h 13)) (C := RX2) (T := TX2) (N := 12) hx hb hts in_X2 hown hK.1 hP 12 rfl rfl 1 (by decide) (hts _ q97) (fun _ h9 => h9) rfl dX2_figureLeads_32 ?_
    refine va_alen hx hb hK.1 hP 13 0 rfl rfl (v := 8192) (by rfl) dX2_figureLeads_35 ?_
    refine va_mmin hx hb (by rw [hml]; exact hl.1.symm) hown (hts _ q260) (hts _ q261) (hts _ q13) (hts _ q262) (Nat.le_of_ble_eq_true rfl) (Nat.le_of_ble_eq_true rfl) (Nat.le_of_ble_eq_true rfl) (Nat.le_of_ble_eq_true rfl) dX2_figureLeads_36 ?_
    refine lv_iconst (v := 1) hx hb dX2_figureLeads_39 (by decide) ?_
    refine lv_isub hx hb dX2_figureLeads_40 ?_
    refine lv_istore_n (lv' := [(2, .int ((jmin (σ.1 7) 8192) - 1)), (0, .ref (h 12)), (1, .int x1)]) hx hb dX2_figureLeads_41 rfl hl (by decide) rfl (fun ls hl => ?_)
    have hX42 : ∀ (s_81 : SX), (fun (s_81 : SX) => (P s_81)) s_81 → ∀ (H : Heap) (locs : List Loc), va_P (dC, dI) classes (wW h cy s_81) H → va_D A (wW h cy s_81) → va_S A s.heap H locs → ∀ (ls : Array Slot), lv_has ls 3 [] → W p l e ({ frames := 3, cells := 0, slots := 0, locals := 68 } : Room) s m ([.ref (h 12), .int x1] : List Value).toArray below meth c H locs 0 0 (MQ below (va_Qv (fun u => P u) (fun (u : SX) t => va_P (dC, dI) classes (wW h cy u) t.heap ∧ kwX dC dI cy t ∧ va_D A (wW h cy u)) A) ([.ref (h 12), .int x1] : List Value).toArray s 0 0 A) (F0 m 81 ls []) := by
      intro s_81 hF H locs hP hD hS ls hl
      exact W.vret hx hb hr (fun t ht hW => ⟨⟨s_81, rfl, hF, by rw [ht]; exact hP, hK.warm hW, hD⟩, hS.F ht⟩) hS.2.2 dX2_figureLeads_81
    have hL42 : ∀ (K42 : SX → Prop), (∀ (s_81 : SX), K42 s_81 → ∀ (H : Heap) (locs : List Loc), va_P (dC, dI) classes (wW h cy s_81) H → va_D A (wW h cy s_81) → va_S A s.heap H locs → ∀ (ls : Array Slot), lv_has ls 3 [] → W p l e ({ frames := 3, cells := 0, slots := 0, locals := 68 } : Room) s m ([.ref (h 12), .int x1] : List Value).toArray below meth c H locs 0 0 (MQ below (va_Qv (fun u => P u) (fun (u : SX) t => va_P (dC, dI) classes (wW h cy u) t.heap ∧ kwX dC dI cy t ∧ va_D A (wW h cy u)) A) ([.ref (h 12), .int x1] : List Value).toArray s 0 0 A) (F0 m 81 ls [])) → ∀ (nn : Nat), ∀ (v2_42 : Int32), ∀ (s_42 : SX), wp_X2_figureLeads_L42 fu x1 K42 nn v2_42 s_42 → ∀ (H : Heap) (locs : List Loc), va_P (dC, dI) classes (wW h cy s_42) H → va_D A (wW h cy s_42) → va_S A s.heap H locs → ∀ (ls : Array Slot), lv_has ls 3 [(2, .int v2_42), (0, .ref (h 12)), (1, .int x1)] → W p l e ({ frames := 3, cells := 0, slots := 0, locals := 68 } : Room) s m ([.ref (h 12), .int x1] : List Value).toArray below meth c H locs 0 0 (MQ below (va_Qv (fun u => P u) (fun (u : SX) t => va_P (dC, dI) classes (wW h cy u) t.heap ∧ kwX dC dI cy t ∧ va_D A (wW h cy u)) A) ([.ref (h 12), .int x1] : List Value).toArray s 0 0 A) (F0 m 42 ls []) := by
      intro K42 hX42 nn
      induction nn with
      | zero =>
        intro v2_42 s_42 hF
        exact hF.elim
      | succ nn ih =>
        intro v2_42 s_42 hF H locs hP hD hS ls hl
        obtain ⟨rec42, hrec⟩ : ∃ z : Int32 → SX → Prop, z = wp_X2_figureLeads_L42 fu x1 K42 nn := ⟨_, rfl⟩
        have hF : wp_X2_figureLeads_B42 fu x1 K42 rec42 v2_42 s_42 := by rw [hrec]; exact hF
        rw [← hrec] at ih
        clear hrec
        unfold wp_X2_figureLeads_B42 at hF
        refine lv_iload_n hx hb dX2_figureLeads_42 rfl (lv_at hl 0 rfl) ?_
        refine lv_if_lt (tgt := 81) hx hb dX2_figureLeads_43 (by decide) (fun cz => ?_) (fun cz => ?_)
        · have hF := hF.1 cz
          exact hX42 s_42 hF _ _ hP hD hS _ (lv_sub hl [] rfl)
        · have hF := hF.2 cz
          refine lv_aload_n hx hb dX2_figureLeads_46 rfl (lv_at hl 1 rfl) ?_
          refine lv_aload_n hx hb dX2_figureLeads_47 rfl (lv_at hl 1 rfl) ?_
          refine va_get (D := (dC, dI)) (ci := 2) (v := .ref (h 13)) (C := RX2) (T := TX2) (N := 12) hx hb hts in_X2 hown hK.1 hP 12 rfl rfl 1 (by decide) (hts _ q97) (fun _ h9 => h9) rfl dX2_figureLeads_48 ?_
          refine lv_iload_n hx hb dX2_figureLeads_51 rfl (lv_at hl 0 rfl) ?_
          have hI := hF.1
          have hF := hF.2
          refine va_iald hx hb hK.1 hP 13 0 rfl rfl hI dX2_figureLeads_52 ?_
          refine lv_aload_n hx hb dX2_figureLeads_53 rfl (lv_at hl 1 rfl) ?_
          refine lv_aload_n hx hb dX2_figureLeads_54 rfl (lv_at hl 1 rfl) ?_
          refine va_get (D := (dC, dI)) (ci := 2) (v := .ref (h 13)) (C := RX2) (T := TX2) (N := 12) hx hb hts in_X2 hown hK.1 hP 12 rfl rfl 1 (by decide) (hts _ q97) (fun _ h9 => h9) rfl dX2_figureLeads_55 ?_
          refine lv_iload_n hx hb dX2_figureLeads_58 rfl (lv_at hl 0 rfl) ?_
          have hI := hF.1
          have hF := hF.2
          refine va_iald hx hb hK.1 hP 13 0 rfl rfl hI dX2_figureLeads_59 ?_
          refine lv_iload_n hx hb dX2_figureLeads_60 rfl (lv_at hl 2 rfl) ?_
          refine cpVi (q0 := 12) (As := [.int ((s_42.2.1 6) v2_42.toNatClampNeg), .int x1]) (rest := [.int ((s_42.2.1 6) v2_42.toNatClampNeg), .ref (h 12)]) ⟨hx, hb, hr, hml, hown, hts, hlocks⟩ hK hP rfl rfl (m_X2_leads l dC dI h cy fu s_42 ((s_42.2.1 6) v2_42.toNatClampNeg) x1 _ hF) k_X2_leads q733 ⟨rfl, rfl⟩ ⟨Nat.le_of_ble_eq_true rfl, Nat.le_of_ble_eq_true rfl⟩ hl.1 rfl rfl (Nat.le_of_ble_eq_true rfl) dX2_figureLeads_61 ⟨Nat.le_of_ble_eq_true rfl, Nat.le_of_ble_eq_true rfl⟩ (fun r61 hF => ?_)
          have hJ72 : ∀ (t2_72 : Int32), wp_X2_figureLeads_J72 rec42 v2_42 s_42 t2_72 → ∀ (H : Heap) (locs : List Loc), va_P (dC, dI) classes (wW h cy s_42) H → va_D A (wW h cy s_42) → va_S A s.heap H locs → ∀ (ls : Array Slot), lv_has ls 3 [(2, .int v2_42), (0, .ref (h 12)), (1, .int x1)] → W p l e ({ frames := 3, cells := 0, slots := 0, locals := 68 } : Room) s m ([.ref (h 12), .int x1] : List Value).toArray below meth c H locs 0 0 (MQ below (va_Qv (fun u => P u) (fun (u : SX) t => va_P (dC, dI) classes (wW h cy u) t.heap ∧ kwX dC dI cy t ∧ va_D A (wW h cy u)) A) ([.ref (h 12), .int x1] : List Value).toArray s 0 0 A) (F0 m 72 ls [.int t2_72, .int ((s_42.2.1 6) v2_42.toNatClampNeg), .ref (h 12)]) := by
            intro t2_72 hF H locs hP hD hS ls hl
            unfold wp_X2_figureLeads_J72 at hF
            have hFc := va_free (wc := wW h cy s_42) hD hS hA [0, 1, 2, 3, 4, 5, 6, 7, 8, 9, 10, 11, 12, 13, 14, 15] rfl
            refine cwVv (q0 := 12) (As := [.int ((s_42.2.1 6) v2_42.toNatClampNeg), .int t2_72]) (rest := []) ⟨hx, hb, hr, hml, hown, hts, hlocks⟩ hK hP hD rfl rfl hS hFc (m_X2_changeFigure l dC dI h cy _ s_42 ((s_42.2.1 6) v2_42.toNatClampNeg) t2_72 _ hF) k_X2_changeFigure q332 ⟨rfl, rfl⟩ ⟨Nat.le_of_ble_eq_true rfl, Nat.le_of_ble_eq_true rfl⟩ hl.1 rfl rfl (Nat.le_of_ble_eq_true rfl) dX2_figureLeads_72 ⟨Nat.le_of_ble_eq_true rfl, Nat.le_of_ble_eq_true rfl⟩ (fun u H1 locs hF hP1 hD1 hk1 hS => ?_)
            obtain ⟨s72, rfl⟩ : ∃ z, z = u := ⟨_, rfl⟩
            have hP := hP1
            have hD := hD1.weaken (fun _ q _ h => hFc q.1 h)
            generalize H1 = H at hP hS ⊢
            have hP : va_P (dC, dI) classes (wW h cy s72) H := hP
            have hD : va_D A (wW h cy s72) := hD
            refine lv_iinc (v := v2_42 + (-1)) (lv' := [(2, .int (v2_42 + (-1))), (0, .ref (h 12)), (1, .int x1)]) hx hb dX2_figureLeads_75 hl (k := 0) rfl (by rfl) (by decide) rfl (fun ls hl => ?_)
            refine lv_goto (tgt := 42) hx hb dX2_figureLeads_78 (by decide) ?_
            exact ih (v2_42 + (-1)) s72 hF _ _ hP hD hS _ (lv_sub hl [0, 1, 2] rfl)
          refine lv_if_eq (tgt := 71) hx hb dX2_figureLeads_64 (by decide) (fun cz => ?_) (fun cz => ?_)
          · have hF := hF.1 cz
            refine lv_iconst (v := 0) hx hb dX2_figureLeads_71 (by decide) ?_
            exact hJ72 0 hF _ _ hP hD hS _ (lv_sub hl [0, 1, 2] rfl)
          · have hF := hF.2 cz
            refine lv_iconst (v := 1) hx hb dX2_figureLeads_67 (by decide) ?_
            refine lv_goto (tgt := 72) hx hb dX2_figureLeads_68 (by decide) ?_
            exact hJ72 1 hF _ _ hP hD hS _ (lv_sub hl [0, 1, 2] rfl)
    exact hL42 _ hX42 fu ((jmin (σ.1 7) 8192) - 1) (sI (sI σ 13 1) 14 x1) hF _ _ hP hD hS _ (lv_sub hl [0, 1, 2] rfl)
  refine lv_icmp_ne (tgt := 17) hx hb dX2_figureLeads_5 (by decide) (fun cz => ?_) (fun cz => ?_)
  · have hF := hF.1 cz
    exact hJ17 hF _ _ hP hD hS _ (lv_sub hl [0, 1] rfl)
  · have hF := hF.2 cz
    refine lv_aload_n hx hb dX2_figureLeads_8 rfl (lv_at hl 0 rfl) ?_
    refine va_get (D := (dC, dI)) (ci := 2) (v := .int (σ.1 14)) (C := RX2) (T := TX2) (N := 12) hx hb hts in_X2 hown hK.1 hP 12 rfl rfl 11 (by decide) (hts _ q112) (fun _ h9 => h9) rfl dX2_figureLeads_9 ?_
    refine lv_iload_n hx hb dX2_figureLeads_12 rfl (lv_at hl 1 rfl) ?_
    refine lv_icmp_ne (tgt := 17) hx hb dX2_figureLeads_13 (by decide) (fun cz => ?_) (fun cz => ?_)
    · have hF := hF.1 cz
      exact hJ17 hF _ _ hP hD hS _ (lv_sub hl [0, 1] rfl)
    · have hF := hF.2 cz
      exact W.vret hx hb hr (fun t ht hW => ⟨⟨σ, rfl, hF, by rw [ht]; exact hP, hK.warm hW, hD⟩, hS.F ht⟩) hS.2.2 dX2_figureLeads_16
theorem dX2_leastOther_0 : decode cX2_leastOther 0 = .ok (.iconst 0, 1) := by decide +kernel
theorem dX2_leastOther_1 : decode cX2_leastOther 1 = .ok (.istore_n 2, 1) := by decide +kernel
theorem dX2_leastOther_2 : decode cX2_leastOther 2 = .ok (.iconst 0, 1) := by decide +kernel
theorem dX2_leastOther_3 : decode cX2_leastOther 3 = .ok (.istore_n 3, 1) := by decide +kernel
theorem dX2_leastOther_4 : decode cX2_leastOther 4 = .ok (.iload_n 3, 1) := by decide +kernel
theorem dX2_leastOther_5 : decode cX2_leastOther 5 = .ok (.aload_n 0, 1) := by decide +kernel
theorem dX2_leastOther_6 : decode cX2_leastOther 6 = .ok (.getfield 29, 3) := by decide +kernel
theorem dX2_leastOther_9 : decode cX2_leastOther 9 = .ok (.invokevirtual 65, 3) := by decide +kernel
theorem dX2_leastOther_12 : decode cX2_leastOther 12 = .ok (.if_icmp .ge 37, 3) := by decide +kernel
theorem dX2_leastOther_15 : decode cX2_leastOther 15 = .ok (.aload_n 0, 1) := by decide +kernel
theorem dX2_leastOther_16 : decode cX2_leastOther 16 = .ok (.getfield 29, 3) := by decide +kernel
theorem dX2_leastOther_19 : decode cX2_leastOther 19 = .ok (.iload_n 1, 1) := by decide +kernel
theorem dX2_leastOther_20 : decode cX2_leastOther 20 = .ok (.iload_n 3, 1) := by decide +kernel
theorem dX2_leastOther_21 : decode cX2_leastOther 21 = .ok (.invokevirtual 71, 3) := by decide +kernel
theorem dX2_leastOther_24 : decode cX2_leastOther 24 = .ok (.istore 4, 2) := by decide +kernel
theorem dX2_leastOther_26 : decode cX2_leastOther 26 = .ok (.iload 4, 2) := by decide +kernel
theorem dX2_leastOther_28 : decode cX2_leastOther 28 = .ok (.iconst (-1), 1) := by decide +kernel
theorem dX2_leastOther_29 : decode cX2_leastOther 29 = .ok (.if_icmp .eq 14, 3) := by decide +kernel
theorem dX2_leastOther_32 : decode cX2_leastOther 32 = .ok (.iload_n 2, 1) := by decide +kernel
theorem dX2_leastOther_33 : decode cX2_leastOther 33 = .ok (.iconst 1, 1) := by decide +kernel
theorem dX2_leastOther_34 : decode cX2_leastOther 34 = .ok (.aload_n 0, 1) := by decide +kernel
theorem dX2_leastOther_35 : decode cX2_leastOther 35 = .ok (.iload 4, 2) := by decide +kernel
theorem dX2_leastOther_37 : decode cX2_leastOther 37 = .ok (.invokevirtual 95, 3) := by decide +kernel
theorem dX2_leastOther_40 : decode cX2_leastOther 40 = .ok (.ishl, 1) := by decide +kernel
theorem dX2_leastOther_41 : decode cX2_leastOther 41 = .ok (.ior, 1) := by decide +kernel
theorem dX2_leastOther_42 : decode cX2_leastOther 42 = .ok (.istore_n 2, 1) := by decide +kernel
theorem dX2_leastOther_43 : decode cX2_leastOther 43 = .ok (.iinc 3 1, 3) := by decide +kernel
theorem dX2_leastOther_46 : decode cX2_leastOther 46 = .ok (.goto (-42), 3) := by decide +kernel
theorem dX2_leastOther_49 : decode cX2_leastOther 49 = .ok (.iconst 0, 1) := by decide +kernel
theorem dX2_leastOther_50 : decode cX2_leastOther 50 = .ok (.istore_n 3, 1) := by decide +kernel
theorem dX2_leastOther_51 : decode cX2_leastOther 51 = .ok (.iload_n 3, 1) := by decide +kernel
theorem dX2_leastOther_52 : decode cX2_leastOther 52 = .ok (.bipush 13, 2) := by decide +kernel
theorem dX2_leastOther_54 : decode cX2_leastOther 54 = .ok (.if_icmp .ge 18, 3) := by decide +kernel
theorem dX2_leastOther_57 : decode cX2_leastOther 57 = .ok (.iload_n 2, 1) := by decide +kernel
theorem dX2_leastOther_58 : decode cX2_leastOther 58 = .ok (.iload_n 3, 1) := by decide +kernel
theorem dX2_leastOther_59 : decode cX2_leastOther 59 = .ok (.ishr, 1) := by decide +kernel
theorem dX2_leastOther_60 : decode cX2_leastOther 60 = .ok (.iconst 1, 1) := by decide +kernel
theorem dX2_leastOther_61 : decode cX2_leastOther 61 = .ok (.iand, 1) := by decide +kernel
theorem dX2_leastOther_62 : decode cX2_leastOther 62 = .ok (.iconst 1, 1) := by decide +kernel
theorem dX2_leastOther_63 : decode cX2_leastOther 63 = .ok (.if_icmp .ne 9, 3) := by decide +kernel
theorem dX2_leastOther_66 : decode cX2_leastOther 66 = .ok (.iinc 3 1, 3) := by decide +kernel
theorem dX2_leastOther_69 : decode cX2_leastOther 69 = .ok (.goto (-18), 3) := by decide +kernel
theorem dX2_leastOther_72 : decode cX2_leastOther 72 = .ok (.iload_n 3, 1) := by decide +kernel
theorem dX2_leastOther_73 : decode cX2_leastOther 73 = .ok (.ireturn, 1) := by decide +kernel
def wp_X2_leastOther_B51 (v2_49 : Int32) (K51 : Int32 → Prop) (rec51 : Int32 → Prop) (v3_51 : Int32) : Prop := ((13 ≤ v3_51 → (K51 v3_51)) ∧ (¬ 13 ≤ v3_51 → ((¬ ((v2_49 >>> (v3_51 &&& 31)) &&& 1) = 1 → (K51 v3_51)) ∧ (((v2_49 >>> (v3_51 &&& 31)) &&& 1) = 1 → (rec51 (v3_51 + 1))))))
def wp_X2_leastOther_L51 (v2_49 : Int32) (K51 : Int32 → Prop) : Nat → Int32 → Prop
  | 0, _ => False
  | nn + 1, v3_51 => wp_X2_leastOther_B51 v2_49 K51 (wp_X2_leastOther_L51 v2_49 K51 nn) v3_51
def wp_X2_leastOther_J43 (rec4 : Int32 → Int32 → Prop) (v3_4 : Int32) (v2_43 : Int32) : Prop := (rec4 (v3_4 + 1) v2_43)
def wp_X2_leastOther_B4 (σ : SX) (x1 : Int32) (K4 : Int32 → Prop) (rec4 : Int32 → Int32 → Prop) (v3_4 : Int32) (v2_4 : Int32) : Prop := (wp_X0_lineCount σ  (fun r9 => ((r9 ≤ v3_4 → (K4 v2_4)) ∧ (¬ r9 ≤ v3_4 → (wp_X0_behind σ x1 v3_4 (fun r21 => ((r21 = (-1) → (wp_X2_leastOther_J43 rec4 v3_4 v2_4)) ∧ (¬ r21 = (-1) → (wp_X2_figureAt σ r21 (fun r37 => (wp_X2_leastOther_J43 rec4 v3_4 (v2_4 ||| ((1 : Int32) <<< (r37 &&& 31))))))))))))))
def wp_X2_leastOther_L4 (σ : SX) (x1 : Int32) (K4 : Int32 → Prop) : Nat → Int32 → Int32 → Prop
  | 0, _, _ => False
  | nn + 1, v3_4, v2_4 => wp_X2_leastOther_B4 σ x1 K4 (wp_X2_leastOther_L4 σ x1 K4 nn) v3_4 v2_4
def wp_X2_leastOther (fu : Nat) (σ : SX) (x1 : Int32) (P : Int32 → Prop) : Prop := (wp_X2_leastOther_L4 σ x1 (fun (v2_49 : Int32) => (wp_X2_leastOther_L51 v2_49 (fun (v3_72 : Int32) => (P v3_72)) fu 0)) fu 0 0)
theorem k_X2_leastOther : KV RX2 yX2_leastOther cX2_leastOther 5 (some .int) 1 := ⟨q326, qs6, q4, q327, by decide +kernel⟩
set_option maxHeartbeats 4000000 in
set_option maxRecDepth 100000 in
theorem m_X2_leastOther (l : Launch) (dC : Nat → ClassId) (dI : Nat → Nat → Nat) (h : Nat → Nat) (cy : Nat → ClassId) (fu : Nat) (σ : SX) (x1 : Int32) (P : Int32 → Prop) (hF : wp_X2_leastOther fu σ x1 P) : Met l yX2_leastOther (ws_ yX2_leastOther cX2_leastOther 5 (some .int)) ({ frames := 2, cells := 0, slots := 0, locals := 44 } : Room) (va_Pc [.ref (h 12), .int x1] (fun U => va_P (dC, dI) classes (wW h cy σ) U.heap ∧ kwX dC dI cy U)) (vp_Si P) 0 0 (fun _ => False) := by
  refine Met.ofCx (own := RX2) (by decide) rfl (Nat.le_of_ble_eq_true rfl) ?_
  intro p e s m below meth c hC hv ls hl
  obtain ⟨hx, hb, hr, hml, hown, hts, hlocks⟩ := hC
  have hl : lv_has ls 5 [(0, .ref (h 12)), (1, .int x1)] := hl
  obtain ⟨hP, hK⟩ := hv
  unfold wp_X2_leastOther at hF
  refine lv_iconst (v := 0) hx hb dX2_leastOther_0 (by decide) ?_
  refine lv_istore_n (lv' := [(2, .int 0), (0, .ref (h 12)), (1, .int x1)]) hx hb dX2_leastOther_1 rfl hl (by decide) rfl (fun ls hl => ?_)
  refine lv_iconst (v := 0) hx hb dX2_leastOther_2 (by decide) ?_
  refine lv_istore_n (lv' := [(3, .int 0), (2, .int 0), (0, .ref (h 12)), (1, .int x1)]) hx hb dX2_leastOther_3 rfl hl (by decide) rfl (fun ls hl => ?_)
  have hX4 : ∀ (v2_49 : Int32), (fun (v2_49 : Int32) => (wp_X2_leastOther_L51 v2_49 (fun (v3_72 : Int32) => (P v3_72)) fu 0)) v2_49 → ∀ (ls : Array Slot), lv_has ls 5 [(2, .int v2_49)] → W p l e ({ frames := 2, cells := 0, slots := 0, locals := 44 } : Room) s m ([.ref (h 12), .int x1] : List Value).toArray below meth c s.heap [] 0 0 (MQ below (vp_Si P) ([.ref (h 12), .int x1] : List Value).toArray s 0 0 (fun _ => False)) (F0 m 49 ls []) := by
    intro v2_49 hF ls hl
    refine lv_iconst (v := 0) hx hb dX2_leastOther_49 (by decide) ?_
    refine lv_istore_n (lv' := [(3, .int 0), (2, .int v2_49)]) hx hb dX2_leastOther_50 rfl hl (by decide) rfl (fun ls hl => ?_)
    have hX51 : ∀ (v3_72 : Int32), (fun (v3_72 : Int32) => (P v3_72)) v3_72 → ∀ (ls : Array Slot), lv_has ls 5 [(3, .int v3_72)] → W p l e ({ frames := 2, cells := 0, slots := 0, locals := 44 } : Room) s m ([.ref (h 12), .int x1] : List Value).toArray below meth c s.heap [] 0 0 (MQ below (vp_Si P) ([.ref (h 12), .int x1] : List Value).toArray s 0 0 (fun _ => False)) (F0 m 72 ls []) := by
      intro v3_72 hF ls hl
      refine lv_iload_n hx hb dX2_leastOther_72 rfl (lv_at hl 0 rfl) ?_
      exact W.iret (v := v3_72) hx hb hr (fun t ht hW => ⟨v3_72, rfl, hF, ht⟩) (fun q hq => absurd hq List.not_mem_nil) dX2_leastOther_73
    have hL51 : ∀ (K51 : Int32 → Prop), (∀ (v3_72 : Int32), K51 v3_72 → ∀ (ls : Array Slot), lv_has ls 5 [(3, .int v3_72)] → W p l e ({ frames := 2, cells := 0, slots := 0, locals := 44 } : Room) s m ([.ref (h 12), .int x1] : List Value).toArray below meth c s.heap [] 0 0 (MQ below (vp_Si P) ([.ref (h 12), .int x1] : List Value).toArray s 0 0 (fun _ => False)) (F0 m 72 ls [])) → ∀ (nn : Nat), ∀ (v3_51 : Int32), wp_X2_leastOther_L51 v2_49 K51 nn v3_51 → ∀ (ls : Array Slot), lv_has ls 5 [(3, .int v3_51), (2, .int v2_49)] → W p l e ({ frames := 2, cells := 0, slots := 0, locals := 44 } : Room) s m ([.ref (h 12), .int x1] : List Value).toArray below meth c s.heap [] 0 0 (MQ below (vp_Si P) ([.ref (h 12), .int x1] : List Value).toArray s 0 0 (fun _ => False)) (F0 m 51 ls []) := by
      intro K51 hX51 nn
      induction nn with
      | zero =>
        intro v3_51 hF
        exact hF.elim
      | succ nn ih =>
        intro v3_51 hF ls hl
        obtain ⟨rec51, hrec⟩ : ∃ z : Int32 → Prop, z = wp_X2_leastOther_L51 v2_49 K51 nn := ⟨_, rfl⟩
        have hF : wp_X2_leastOther_B51 v2_49 K51 rec51 v3_51 := by rw [hrec]; exact hF
        rw [← hrec] at ih
        clear hrec
        unfold wp_X2_leastOther_B51 at hF
        refine lv_iload_n hx hb dX2_leastOther_51 rfl (lv_at hl 0 rfl) ?_
        refine lv_bipush (v := 13) hx hb dX2_leastOther_52 (by decide) ?_
        refine lv_icmp_ge (tgt := 72) hx hb dX2_leastOther_54 (by decide) (fun cz => ?_) (fun cz => ?_)
        · have hF := hF.1 cz
          exact hX51 v3_51 hF _ (lv_sub hl [0] rfl)
        · have hF := hF.2 cz
          refine lv_iload_n hx hb dX2_leastOther_57 rfl (lv_at hl 1 rfl) ?_
          refine lv_iload_n hx hb dX2_leastOther_58 rfl (lv_at hl 0 rfl) ?_
          refine lv_ishr hx hb dX2_leastOther_59 ?_
          refine lv_iconst (v := 1) hx hb dX2_leastOther_60 (by decide) ?_
          refine lv_iand hx hb dX2_leastOther_61 ?_
          refine lv_iconst (v := 1) hx hb dX2_leastOther_62 (by decide) ?_
          refine lv_icmp_ne (tgt := 72) hx hb dX2_leastOther_63 (by decide) (fun cz => ?_) (fun cz => ?_)
          · have hF := hF.1 cz
            exact hX51 v3_51 hF _ (lv_sub hl [0] rfl)
          · have hF := hF.2 cz
            refine lv_iinc (v := v3_51 + 1) (lv' := [(3, .int (v3_51 + 1)), (2, .int v2_49)]) hx hb dX2_leastOther_66 hl (k := 0) rfl (by rfl) (by decide) rfl (fun ls hl => ?_)
            refine lv_goto (tgt := 51) hx hb dX2_leastOther_69 (by decide) ?_
            exact ih (v3_51 + 1) hF _ (lv_sub hl [0, 1] rfl)
    exact hL51 _ hX51 fu 0 hF _ (lv_sub hl [0, 1] rfl)
  have hL4 : ∀ (K4 : Int32 → Prop), (∀ (v2_49 : Int32), K4 v2_49 → ∀ (ls : Array Slot), lv_has ls 5 [(2, .int v2_49)] → W p l e ({ frames := 2, cells := 0, slots := 0, locals := 44 } : Room) s m ([.ref (h 12), .int x1] : List Value).toArray below meth c s.heap [] 0 0 (MQ below (vp_Si P) ([.ref (h 12), .int x1] : List Value).toArray s 0 0 (fun _ => False)) (F0 m 49 ls [])) → ∀ (nn : Nat), ∀ (v3_4 : Int32), ∀ (v2_4 : Int32), wp_X2_leastOther_L4 σ x1 K4 nn v3_4 v2_4 → ∀ (ls : Array Slot), lv_has ls 5 [(3, .int v3_4), (2, .int v2_4), (0, .ref (h 12)), (1, .int x1)] → W p l e ({ frames := 2, cells := 0, slots := 0, locals := 44 } : Room) s m ([.ref (h 12), .int x1] : List Value).toArray below meth c s.heap [] 0 0 (MQ below (vp_Si P) ([.ref (h 12), .int x1] : List Value).toArray s 0 0 (fun _ => False)) (F0 m 4 ls []) := by
    intro K4 hX4 nn
    induction nn with
    | zero =>
      intro v3_4 v2_4 hF
      exact hF.elim
    | succ nn ih =>
      intro v3_4 v2_4 hF ls hl
      obtain ⟨rec4, hrec⟩ : ∃ z : Int32 → Int32 → Prop, z = wp_X2_leastOther_L4 σ x1 K4 nn := ⟨_, rfl⟩
      have hF : wp_X2_leastOther_B4 σ x1 K4 rec4 v3_4 v2_4 := by rw [hrec]; exact hF
      rw [← hrec] at ih
      clear hrec
      unfold wp_X2_leastOther_B4 at hF
      refine lv_iload_n hx hb dX2_leastOther_4 rfl (lv_at hl 0 rfl) ?_
      refine lv_aload_n hx hb dX2_leastOther_5 rfl (lv_at hl 2 rfl) ?_
      refine va_get (D := (dC, dI)) (ci := 2) (v := .ref (h 0)) (C := RX2) (T := TX2) (N := 12) hx hb hts in_X2 hown hK.1 hP 12 rfl rfl 0 (by decide) (hts _ q96) (fun _ h9 => h9) rfl dX2_leastOther_6 ?_
      have hPc := hP.sub (ws' := wB h cy σ) [0, 1, 2, 3, 4, 5, 6, 7, 8, 9, 10, 11] rfl
      refine cpVi (q0 := 0) (As := []) (rest := [.int v3_4]) ⟨hx, hb, hr, hml, hown, hts, hlocks⟩ hK hPc rfl rfl (m_X0_lineCount l dC dI h cy σ  _ hF) k_X0_lineCount q254 ⟨rfl, rfl⟩ ⟨Nat.le_of_ble_eq_true rfl, Nat.le_of_ble_eq_true rfl⟩ hl.1 rfl rfl (Nat.le_of_ble_eq_true rfl) dX2_leastOther_9 ⟨Nat.le_of_ble_eq_true rfl, Nat.le_of_ble_eq_true rfl⟩ (fun r9 hF => ?_)
      refine lv_icmp_ge (tgt := 49) hx hb dX2_leastOther_12 (by decide) (fun cz => ?_) (fun cz => ?_)
      · have hF := hF.1 cz
        exact hX4 v2_4 hF _ (lv_sub hl [1] rfl)
      · have hF := hF.2 cz
        refine lv_aload_n hx hb dX2_leastOther_15 rfl (lv_at hl 2 rfl) ?_
        refine va_get (D := (dC, dI)) (ci := 2) (v := .ref (h 0)) (C := RX2) (T := TX2) (N := 12) hx hb hts in_X2 hown hK.1 hP 12 rfl rfl 0 (by decide) (hts _ q96) (fun _ h9 => h9) rfl dX2_leastOther_16 ?_
        refine lv_iload_n hx hb dX2_leastOther_19 rfl (lv_at hl 3 rfl) ?_
        refine lv_iload_n hx hb dX2_leastOther_20 rfl (lv_at hl 0 rfl) ?_
        have hPc := hP.sub (ws' := wB h cy σ) [0, 1, 2, 3, 4, 5, 6, 7, 8, 9, 10, 11] rfl
        refine cpVi (q0 := 0) (As := [.int x1, .int v3_4]) (rest := []) ⟨hx, hb, hr, hml, hown, hts, hlocks⟩ hK hPc rfl rfl (m_X0_behind l dC dI h cy σ x1 v3_4 _ hF) k_X0_behind q255 ⟨rfl, rfl⟩ ⟨Nat.le_of_ble_eq_true rfl, Nat.le_of_ble_eq_true rfl⟩ hl.1 rfl rfl (Nat.le_of_ble_eq_true rfl) dX2_leastOther_21 ⟨Nat.le_of_ble_eq_true rfl, Nat.le_of_ble_eq_true rfl⟩ (fun r21 hF => ?_)
        refine lv_istore (lv' := [(4, .int r21), (3, .int v3_4), (2, .int v2_4), (0, .ref (h 12)), (1, .int x1)]) hx hb dX2_leastOther_24 hl (by decide) rfl (fun ls hl => ?_)
        refine lv_iload hx hb dX2_leastOther_26 (lv_at hl 0 rfl) ?_
        refine lv_iconst (v := (-1)) hx hb dX2_leastOther_28 (by decide) ?_
        have hJ43 : ∀ (v2_43 : Int32), wp_X2_leastOther_J43 rec4 v3_4 v2_43 → ∀ (ls : Array Slot), lv_has ls 5 [(3, .int v3_4), (2, .int v2_43), (0, .ref (h 12)), (1, .int x1)] → W p l e ({ frames := 2, cells := 0, slots := 0, locals := 44 } : Room) s m ([.ref (h 12), .int x1] : List Value).toArray below meth c s.heap [] 0 0 (MQ below (vp_Si P) ([.ref (h 12), .int x1] : List Value).toArray s 0 0 (fun _ => False)) (F0 m 43 ls []) := by
          intro v2_43 hF ls hl
          unfold wp_X2_leastOther_J43 at hF
          refine lv_iinc (v := v3_4 + 1) (lv' := [(3, .int (v3_4 + 1)), (2, .int v2_43), (0, .ref (h 12)), (1, .int x1)]) hx hb dX2_leastOther_43 hl (k := 0) rfl (by rfl) (by decide) rfl (fun ls hl => ?_)
          refine lv_goto (tgt := 4) hx hb dX2_leastOther_46 (by decide) ?_
          exact ih (v3_4 + 1) v2_43 hF _ (lv_sub hl [0, 1, 2, 3] rfl)
        refine lv_icmp_eq (tgt := 43) hx hb dX2_leastOther_29 (by decide) (fun cz => ?_) (fun cz => ?_)
        · have hF := hF.1 cz
          exact hJ43 v2_4 hF _ (lv_sub hl [1, 2, 3, 4] rfl)
        · have hF := hF.2 cz
          refine lv_iload_n hx hb dX2_leastOther_32 rfl (lv_at hl 2 rfl) ?_
          refine lv_iconst (v := 1) hx hb dX2_leastOther_33 (by decide) ?_
          refine lv_aload_n hx hb dX2_leastOther_34 rfl (lv_at hl 3 rfl) ?_
          refine lv_iload hx hb dX2_leastOther_35 (lv_at hl 0 rfl) ?_
          refine cpVi (q0 := 12) (As := [.int r21]) (rest := [.int 1, .int v2_4]) ⟨hx, hb, hr, hml, hown, hts, hlocks⟩ hK hP rfl rfl (m_X2_figureAt l dC dI h cy σ r21 _ hF) k_X2_figureAt q328 ⟨rfl, rfl⟩ ⟨Nat.le_of_ble_eq_true rfl, Nat.le_of_ble_eq_true rfl⟩ hl.1 rfl rfl (Nat.le_of_ble_eq_true rfl) dX2_leastOther_37 ⟨Nat.le_of_ble_eq_true rfl, Nat.le_of_ble_eq_true rfl⟩ (fun r37 hF => ?_)
          refine lv_ishl hx hb dX2_leastOther_40 ?_
          refine lv_ior hx hb dX2_leastOther_41 ?_
          refine lv_istore_n (lv' := [(2, .int (v2_4 ||| ((1 : Int32) <<< (r37 &&& 31)))), (4, .int r21), (3, .int v3_4), (0, .ref (h 12)), (1, .int x1)]) hx hb dX2_leastOther_42 rfl hl (by decide) rfl (fun ls hl => ?_)
          exact hJ43 (v2_4 ||| ((1 : Int32) <<< (r37 &&& 31))) hF _ (lv_sub hl [2, 0, 3, 4] rfl)
  exact hL4 _ hX4 fu 0 0 hF _ (lv_sub hl [0, 1, 2, 3] rfl)
theorem dX2_figureValues_0 : decode cX2_figureValues 0 = .ok (.aload_n 0, 1) := by decide +kernel
theorem dX2_figureValues_1 : decode cX2_figureValues 1 = .ok (.getfield 26, 3) := by decide +kernel
theorem dX2_figureValues_4 : decode cX2_figureValues 4 = .ok (.iconst 2, 1) := by decide +kernel
theorem dX2_figureValues_5 : decode cX2_figureValues 5 = .ok (.if_icmp .ne 4, 3) := by decide +kernel
theorem dX2_figureValues_8 : decode cX2_figureValues 8 = .ok (.return_, 1) := by decide +kernel
theorem dX2_figureValues_9 : decode cX2_figureValues 9 = .ok (.aload_n 0, 1) := by decide +kernel
theorem dX2_figureValues_10 : decode cX2_figureValues 10 = .ok (.iconst 2, 1) := by decide +kernel
theorem dX2_figureValues_11 : decode cX2_figureValues 11 = .ok (.putfield 26, 3) := by decide +kernel
theorem dX2_figureValues_14 : decode cX2_figureValues 14 = .ok (.aload_n 0, 1) := by decide +kernel
theorem dX2_figureValues_15 : decode cX2_figureValues 15 = .ok (.getfield 49, 3) := by decide +kernel
theorem dX2_figureValues_18 : decode cX2_figureValues 18 = .ok (.aload_n 0, 1) := by decide +kernel
theorem dX2_figureValues_19 : decode cX2_figureValues 19 = .ok (.getfield 9, 3) := by decide +kernel
theorem dX2_figureValues_22 : decode cX2_figureValues 22 = .ok (.arraylength, 1) := by decide +kernel
theorem dX2_figureValues_23 : decode cX2_figureValues 23 = .ok (.invokestatic 79, 3) := by decide +kernel
theorem dX2_figureValues_26 : decode cX2_figureValues 26 = .ok (.iconst 1, 1) := by decide +kernel
theorem dX2_figureValues_27 : decode cX2_figureValues 27 = .ok (.isub, 1) := by decide +kernel
theorem dX2_figureValues_28 : decode cX2_figureValues 28 = .ok (.istore_n 1, 1) := by decide +kernel
theorem dX2_figureValues_29 : decode cX2_figureValues 29 = .ok (.iload_n 1, 1) := by decide +kernel
theorem dX2_figureValues_30 : decode cX2_figureValues 30 = .ok (.ifCond .lt 29, 3) := by decide +kernel
theorem dX2_figureValues_33 : decode cX2_figureValues 33 = .ok (.aload_n 0, 1) := by decide +kernel
theorem dX2_figureValues_34 : decode cX2_figureValues 34 = .ok (.aload_n 0, 1) := by decide +kernel
theorem dX2_figureValues_35 : decode cX2_figureValues 35 = .ok (.getfield 9, 3) := by decide +kernel
theorem dX2_figureValues_38 : decode cX2_figureValues 38 = .ok (.iload_n 1, 1) := by decide +kernel
theorem dX2_figureValues_39 : decode cX2_figureValues 39 = .ok (.iaload, 1) := by decide +kernel
theorem dX2_figureValues_40 : decode cX2_figureValues 40 = .ok (.aload_n 0, 1) := by decide +kernel
theorem dX2_figureValues_41 : decode cX2_figureValues 41 = .ok (.aload_n 0, 1) := by decide +kernel
theorem dX2_figureValues_42 : decode cX2_figureValues 42 = .ok (.getfield 9, 3) := by decide +kernel
theorem dX2_figureValues_45 : decode cX2_figureValues 45 = .ok (.iload_n 1, 1) := by decide +kernel
theorem dX2_figureValues_46 : decode cX2_figureValues 46 = .ok (.iaload, 1) := by decide +kernel
theorem dX2_figureValues_47 : decode cX2_figureValues 47 = .ok (.invokevirtual 98, 3) := by decide +kernel
theorem dX2_figureValues_50 : decode cX2_figureValues 50 = .ok (.invokevirtual 91, 3) := by decide +kernel
theorem dX2_figureValues_53 : decode cX2_figureValues 53 = .ok (.iinc 1 (-1), 3) := by decide +kernel
theorem dX2_figureValues_56 : decode cX2_figureValues 56 = .ok (.goto (-27), 3) := by decide +kernel
theorem dX2_figureValues_59 : decode cX2_figureValues 59 = .ok (.return_, 1) := by decide +kernel
def wp_X2_figureValues_B29 (fu : Nat) (K29 : SX → Prop) (rec29 : Int32 → SX → Prop) (v1_29 : Int32) (s_29 : SX) : Prop := ((v1_29 < 0 → (K29 s_29)) ∧ (¬ v1_29 < 0 → (vp_in v1_29 8192 ∧ (vp_in v1_29 8192 ∧ (wp_X2_leastOther fu s_29 ((s_29.2.1 6) v1_29.toNatClampNeg) (fun r47 => (wp_X2_changeFigure s_29 ((s_29.2.1 6) v1_29.toNatClampNeg) r47 (fun s50 => (rec29 (v1_29 + (-1)) s50)))))))))
def wp_X2_figureValues_L29 (fu : Nat) (K29 : SX → Prop) : Nat → Int32 → SX → Prop
  | 0, _, _ => False
  | nn + 1, v1_29, s_29 => wp_X2_figureValues_B29 fu K29 (wp_X2_figureValues_L29 fu K29 nn) v1_29 s_29
def wp_X2_figureValues (fu : Nat) (σ : SX) (P : SX → Prop) : Prop := ((¬ (σ.1 13) = 2 → (wp_X2_figureValues_L29 fu (fun (s_59 : SX) => (P s_59)) fu ((jmin (σ.1 7) 8192) - 1) (sI σ 13 2))) ∧ ((σ.1 13) = 2 → (P σ)))
theorem k_X2_figureValues : KV RX2 yX2_figureValues cX2_figureValues 2 none 0 := ⟨q321, q322, q4, q323, by decide +kernel⟩
set_option maxHeartbeats 4000000 in
set_option maxRecDepth 100000 in
theorem m_X2_figureValues (l : Launch) (dC : Nat → ClassId) (dI : Nat → Nat → Nat) (h : Nat → Nat) (cy : Nat → ClassId) (sz : Nat) (fu : Nat) (σ : SX) (P : SX → Prop) (hF : wp_X2_figureValues fu σ P) : Met l yX2_figureValues (ws_ yX2_figureValues cX2_figureValues 2 none) ({ frames := 3, cells := 0, slots := 0, locals := 68 } : Room) (va_Pc [.ref (h 12)] (fun U => U.heap.size = sz ∧ va_P (dC, dI) classes (wW h cy σ) U.heap ∧ kwX dC dI cy U ∧ va_D (fun _ => True) (wW h cy σ))) (va_Qv (fun u => P u) (fun (u : SX) t => va_P (dC, dI) classes (wW h cy u) t.heap ∧ kwX dC dI cy t ∧ va_D (va_A (wW h cy σ) sz) (wW h cy u)) (va_A (wW h cy σ) sz)) 0 0 (va_A (wW h cy σ) sz) := by
  refine Met.ofCx (own := RX2) (by decide) rfl (Nat.le_of_ble_eq_true rfl) ?_
  intro p e s m below meth c hC hv ls hl
  obtain ⟨hx, hb, hr, hml, hown, hts, hlocks⟩ := hC
  have hl : lv_has ls 2 [(0, .ref (h 12))] := hl
  obtain ⟨hsz, hP, hK, hD0⟩ := hv
  subst hsz
  have hD := hD0.self (sz := s.heap.size)
  generalize hAe : va_A (wW h cy σ) s.heap.size = A at hD ⊢
  have hA : ∀ q : Nat, s.heap.size ≤ q → A q := fun q h => by rw [← hAe]; exact Or.inr h
  have hS : va_S A s.heap s.heap [] := va_S.rf
  clear hAe
  unfold wp_X2_figureValues at hF
  refine lv_aload_n hx hb dX2_figureValues_0 rfl (lv_at hl 0 rfl) ?_
  refine va_get (D := (dC, dI)) (ci := 2) (v := .int (σ.1 13)) (C := RX2) (T := TX2) (N := 12) hx hb hts in_X2 hown hK.1 hP 12 rfl rfl 10 (by decide) (hts _ q111) (fun _ h9 => h9) rfl dX2_figureValues_1 ?_
  refine lv_iconst (v := 2) hx hb dX2_figureValues_4 (by decide) ?_
  refine lv_icmp_ne (tgt := 9) hx hb dX2_figureValues_5 (by decide) (fun cz => ?_) (fun cz => ?_)
  · have hF := hF.1 cz
    refine lv_aload_n hx hb dX2_figureValues_9 rfl (lv_at hl 0 rfl) ?_
    refine lv_iconst (v := 2) hx hb dX2_figureValues_10 (by decide) ?_
    refine va_put (D := (dC, dI)) (ci := 2) (v := .int 2) (ty := .int) (C := RX2) (T := TX2) (N := 12) hx hb hts in_X2 tyX2 tyX2_ok nmX2 hown hK.1 hP hD hS 12 rfl rfl 10 (by decide) (hts _ q111) (fun _ h9 => h9) rfl (by decide +kernel) rfl rfl (Nat.le_of_ble_eq_true rfl) dX2_figureValues_11 (fun H locs hP hD hS => ?_)
    have hP : va_P (dC, dI) classes (wW h cy (sI σ 13 2)) H := hP
    have hD : va_D A (wW h cy (sI σ 13 2)) := hD
    refine lv_aload_n hx hb dX2_figureValues_14 rfl (lv_at hl 0 rfl) ?_
    refine va_get (D := (dC, dI)) (ci := 2) (v := .int (σ.1 7)) (C := RX2) (T := TX2) (N := 12) hx hb hts in_X2 hown hK.1 hP 12 rfl rfl 4 (by decide) (hts _ q100) (fun _ h9 => h9) rfl dX2_figureValues_15 ?_
    refine lv_aload_n hx hb dX2_figureValues_18 rfl (lv_at hl 0 rfl) ?_
    refine va_get (D := (dC, dI)) (ci := 2) (v := .ref (h 13)) (C := RX2) (T := TX2) (N := 12) hx hb hts in_X2 hown hK.1 hP 12 rfl rfl 1 (by decide) (hts _ q97) (fun _ h9 => h9) rfl dX2_figureValues_19 ?_
    refine va_alen hx hb hK.1 hP 13 0 rfl rfl (v := 8192) (by rfl) dX2_figureValues_22 ?_
    refine va_mmin hx hb (by rw [hml]; exact hl.1.symm) hown (hts _ q260) (hts _ q261) (hts _ q13) (hts _ q262) (Nat.le_of_ble_eq_true rfl) (Nat.le_of_ble_eq_true rfl) (Nat.le_of_ble_eq_true rfl) (Nat.le_of_ble_eq_true rfl) dX2_figureValues_23 ?_
    refine lv_iconst (v := 1) hx hb dX2_figureValues_26 (by decide) ?_
    refine lv_isub hx hb dX2_figureValues_27 ?_
    refine lv_istore_n (lv' := [(1, .int ((jmin (σ.1 7) 8192) - 1)), (0, .ref (h 12))]) hx hb dX2_figureValues_28 rfl hl (by decide) rfl (fun ls hl => ?_)
    have hX29 : ∀ (s_59 : SX), (fun (s_59 : SX) => (P s_59)) s_59 → ∀ (H : Heap) (locs : List Loc), va_P (dC, dI) classes (wW h cy s_59) H → va_D A (wW h cy s_59) → va_S A s.heap H locs → ∀ (ls : Array Slot), lv_has ls 2 [] → W p l e ({ frames := 3, cells := 0, slots := 0, locals := 68 } : Room) s m ([.ref (h 12)] : List Value).toArray below meth c H locs 0 0 (MQ below (va_Qv (fun u => P u) (fun (u : SX) t => va_P (dC, dI) classes (wW h cy u) t.heap ∧ kwX dC dI cy t ∧ va_D A (wW h cy u)) A) ([.ref (h 12)] : List Value).toArray s 0 0 A) (F0 m 59 ls []) := by
      intro s_59 hF H locs hP hD hS ls hl
      exact W.vret hx hb hr (fun t ht hW => ⟨⟨s_59, rfl, hF, by rw [ht]; exact hP, hK.warm hW, hD⟩, hS.F ht⟩) hS.2.2 dX2_figureValues_59
    have hL29 : ∀ (K29 : SX → Prop), (∀ (s_59 : SX), K29 s_59 → ∀ (H : Heap) (locs : List Loc), va_P (dC, dI) classes (wW h cy s_59) H → va_D A (wW h cy s_59) → va_S A s.heap H locs → ∀ (ls : Array Slot), lv_has ls 2 [] → W p l e ({ frames := 3, cells := 0, slots := 0, locals := 68 } : Room) s m ([.ref (h 12)] : List Value).toArray below meth c H locs 0 0 (MQ below (va_Qv (fun u => P u) (fun (u : SX) t => va_P (dC, dI) classes (wW h cy u) t.heap ∧ kwX dC dI cy t ∧ va_D A (wW h cy u)) A) ([.ref (h 12)] : List Value).toArray s 0 0 A) (F0 m 59 ls [])) → ∀ (nn : Nat), ∀ (v1_29 : Int32), ∀ (s_29 : SX), wp_X2_figureValues_L29 fu K29 nn v1_29 s_29 → ∀ (H : Heap) (locs : List Loc), va_P (dC, dI) classes (wW h cy s_29) H → va_D A (wW h cy s_29) → va_S A s.heap H locs → ∀ (ls : Array Slot), lv_has ls 2 [(1, .int v1_29), (0, .ref (h 12))] → W p l e ({ frames := 3, cells := 0, slots := 0, locals := 68 } : Room) s m ([.ref (h 12)] : List Value).toArray below meth c H locs 0 0 (MQ below (va_Qv (fun u => P u) (fun (u : SX) t => va_P (dC, dI) classes (wW h cy u) t.heap ∧ kwX dC dI cy t ∧ va_D A (wW h cy u)) A) ([.ref (h 12)] : List Value).toArray s 0 0 A) (F0 m 29 ls []) := by
      intro K29 hX29 nn
      induction nn with
      | zero =>
        intro v1_29 s_29 hF
        exact hF.elim
      | succ nn ih =>
        intro v1_29 s_29 hF H locs hP hD hS ls hl
        obtain ⟨rec29, hrec⟩ : ∃ z : Int32 → SX → Prop, z = wp_X2_figureValues_L29 fu K29 nn := ⟨_, rfl⟩
        have hF : wp_X2_figureValues_B29 fu K29 rec29 v1_29 s_29 := by rw [hrec]; exact hF
        rw [← hrec] at ih
        clear hrec
        unfold wp_X2_figureValues_B29 at hF
        refine lv_iload_n hx hb dX2_figureValues_29 rfl (lv_at hl 0 rfl) ?_
        refine lv_if_lt (tgt := 59) hx hb dX2_figureValues_30 (by decide) (fun cz => ?_) (fun cz => ?_)
        · have hF := hF.1 cz
          exact hX29 s_29 hF _ _ hP hD hS _ (lv_sub hl [] rfl)
        · have hF := hF.2 cz
          refine lv_aload_n hx hb dX2_figureValues_33 rfl (lv_at hl 1 rfl) ?_
          refine lv_aload_n hx hb dX2_figureValues_34 rfl (lv_at hl 1 rfl) ?_
          refine va_get (D := (dC, dI)) (ci := 2) (v := .ref (h 13)) (C := RX2) (T := TX2) (N := 12) hx hb hts in_X2 hown hK.1 hP 12 rfl rfl 1 (by decide) (hts _ q97) (fun _ h9 => h9) rfl dX2_figureValues_35 ?_
          refine lv_iload_n hx hb dX2_figureValues_38 rfl (lv_at hl 0 rfl) ?_
          have hI := hF.1
          have hF := hF.2
          refine va_iald hx hb hK.1 hP 13 0 rfl rfl hI dX2_figureValues_39 ?_
          refine lv_aload_n hx hb dX2_figureValues_40 rfl (lv_at hl 1 rfl) ?_
          refine lv_aload_n hx hb dX2_figureValues_41 rfl (lv_at hl 1 rfl) ?_
          refine va_get (D := (dC, dI)) (ci := 2) (v := .ref (h 13)) (C := RX2) (T := TX2) (N := 12) hx hb hts in_X2 hown hK.1 hP 12 rfl rfl 1 (by decide) (hts _ q97) (fun _ h9 => h9) rfl dX2_figureValues_42 ?_
          refine lv_iload_n hx hb dX2_figureValues_45 rfl (lv_at hl 0 rfl) ?_
          have hI := hF.1
          have hF := hF.2
          refine va_iald hx hb hK.1 hP 13 0 rfl rfl hI dX2_figureValues_46 ?_
          refine cpVi (q0 := 12) (As := [.int ((s_29.2.1 6) v1_29.toNatClampNeg)]) (rest := [.int ((s_29.2.1 6) v1_29.toNatClampNeg), .ref (h 12)]) ⟨hx, hb, hr, hml, hown, hts, hlocks⟩ hK hP rfl rfl (m_X2_leastOther l dC dI h cy fu s_29 ((s_29.2.1 6) v1_29.toNatClampNeg) _ hF) k_X2_leastOther q324 ⟨rfl, rfl⟩ ⟨Nat.le_of_ble_eq_true rfl, Nat.le_of_ble_eq_true rfl⟩ hl.1 rfl rfl (Nat.le_of_ble_eq_true rfl) dX2_figureValues_47 ⟨Nat.le_of_ble_eq_true rfl, Nat.le_of_ble_eq_true rfl⟩ (fun r47 hF => ?_)
          have hFc := va_free (wc := wW h cy s_29) hD hS hA [0, 1, 2, 3, 4, 5, 6, 7, 8, 9, 10, 11, 12, 13, 14, 15] rfl
          refine cwVv (q0 := 12) (As := [.int ((s_29.2.1 6) v1_29.toNatClampNeg), .int r47]) (rest := []) ⟨hx, hb, hr, hml, hown, hts, hlocks⟩ hK hP hD rfl rfl hS hFc (m_X2_changeFigure l dC dI h cy _ s_29 ((s_29.2.1 6) v1_29.toNatClampNeg) r47 _ hF) k_X2_changeFigure q332 ⟨rfl, rfl⟩ ⟨Nat.le_of_ble_eq_true rfl, Nat.le_of_ble_eq_true rfl⟩ hl.1 rfl rfl (Nat.le_of_ble_eq_true rfl) dX2_figureValues_50 ⟨Nat.le_of_ble_eq_true rfl, Nat.le_of_ble_eq_true rfl⟩ (fun u H1 locs hF hP1 hD1 hk1 hS => ?_)
          obtain ⟨s50, rfl⟩ : ∃ z, z = u := ⟨_, rfl⟩
          have hP := hP1
          have hD := hD1.weaken (fun _ q _ h => hFc q.1 h)
          generalize H1 = H at hP hS ⊢
          have hP : va_P (dC, dI) classes (wW h cy s50) H := hP
          have hD : va_D A (wW h cy s50) := hD
          refine lv_iinc (v := v1_29 + (-1)) (lv' := [(1, .int (v1_29 + (-1))), (0, .ref (h 12))]) hx hb dX2_figureValues_53 hl (k := 0) rfl (by rfl) (by decide) rfl (fun ls hl => ?_)
          refine lv_goto (tgt := 29) hx hb dX2_figureValues_56 (by decide) ?_
          exact ih (v1_29 + (-1)) s50 hF _ _ hP hD hS _ (lv_sub hl [0, 1] rfl)
    exact hL29 _ hX29 fu ((jmin (σ.1 7) 8192) - 1) (sI σ 13 2) hF _ _ hP hD hS _ (lv_sub hl [0, 1] rfl)
  · have hF := hF.2 cz
    exact W.vret hx hb hr (fun t ht hW => ⟨⟨σ, rfl, hF, by rw [ht]; exact hP, hK.warm hW, hD⟩, hS.F ht⟩) hS.2.2 dX2_figureValues_8
theorem dX2_forget_0 : decode cX2_forget 0 = .ok (.aload_n 0, 1) := by decide +kernel
theorem dX2_forget_1 : decode cX2_forget 1 = .ok (.iconst (-1), 1) := by decide +kernel
theorem dX2_forget_2 : decode cX2_forget 2 = .ok (.putfield 22, 3) := by decide +kernel
theorem dX2_forget_5 : decode cX2_forget 5 = .ok (.return_, 1) := by decide +kernel
def wp_X2_forget (σ : SX) (P : SX → Prop) : Prop := (P (sI σ 8 (-1)))
theorem k_X2_forget : KV RX2 yX2_forget cX2_forget 1 none 0 := ⟨q496, q497, q4, q498, by decide +kernel⟩
set_option maxHeartbeats 4000000 in
set_option maxRecDepth 100000 in
theorem m_X2_forget (l : Launch) (dC : Nat → ClassId) (dI : Nat → Nat → Nat) (h : Nat → Nat) (cy : Nat → ClassId) (sz : Nat) (σ : SX) (P : SX → Prop) (hF : wp_X2_forget σ P) : Met l yX2_forget (ws_ yX2_forget cX2_forget 1 none) ({ frames := 0, cells := 0, slots := 0, locals := 0 } : Room) (va_Pc [.ref (h 12)] (fun U => U.heap.size = sz ∧ va_P (dC, dI) classes (wW h cy σ) U.heap ∧ kwX dC dI cy U ∧ va_D (fun _ => True) (wW h cy σ))) (va_Qv (fun u => P u) (fun (u : SX) t => va_P (dC, dI) classes (wW h cy u) t.heap ∧ kwX dC dI cy t ∧ va_D (va_A (wW h cy σ) sz) (wW h cy u)) (va_A (wW h cy σ) sz)) 0 0 (va_A (wW h cy σ) sz) := by
  refine Met.ofCx (own := RX2) (by decide) rfl (Nat.le_of_ble_eq_true rfl) ?_
  intro p e s m below meth c hC hv ls hl
  obtain ⟨hx, hb, hr, hml, hown, hts, hlocks⟩ := hC
  have hl : lv_has ls 1 [(0, .ref (h 12))] := hl
  obtain ⟨hsz, hP, hK, hD0⟩ := hv
  subst hsz
  have hD := hD0.self (sz := s.heap.size)
  generalize hAe : va_A (wW h cy σ) s.heap.size = A at hD ⊢
  have hA : ∀ q : Nat, s.heap.size ≤ q → A q := fun q h => by rw [← hAe]; exact Or.inr h
  have hS : va_S A s.heap s.heap [] := va_S.rf
  clear hAe
  unfold wp_X2_forget at hF
  refine lv_aload_n hx hb dX2_forget_0 rfl (lv_at hl 0 rfl) ?_
  refine lv_iconst (v := (-1)) hx hb dX2_forget_1 (by decide) ?_
  refine va_put (D := (dC, dI)) (ci := 2) (v := .int (-1)) (ty := .int) (C := RX2) (T := TX2) (N := 12) hx hb hts in_X2 tyX2 tyX2_ok nmX2 hown hK.1 hP hD hS 12 rfl rfl 5 (by decide) (hts _ q102) (fun _ h9 => h9) rfl (by decide +kernel) rfl rfl (Nat.le_of_ble_eq_true rfl) dX2_forget_2 (fun H locs hP hD hS => ?_)
  have hP : va_P (dC, dI) classes (wW h cy (sI σ 8 (-1))) H := hP
  have hD : va_D A (wW h cy (sI σ 8 (-1))) := hD
  exact W.vret hx hb hr (fun t ht hW => ⟨⟨sI σ 8 (-1), rfl, hF, by rw [ht]; exact hP, hK.warm hW, hD⟩, hS.F ht⟩) hS.2.2 dX2_forget_5
theorem dX2_leastSweepsAt_0 : decode cX2_leastSweepsAt 0 = .ok (.iload_n 1, 1) := by decide +kernel
theorem dX2_leastSweepsAt_1 : decode cX2_leastSweepsAt 1 = .ok (.aload_n 0, 1) := by decide +kernel
theorem dX2_leastSweepsAt_2 : decode cX2_leastSweepsAt 2 = .ok (.getfield 22, 3) := by decide +kernel
theorem dX2_leastSweepsAt_5 : decode cX2_leastSweepsAt 5 = .ok (.if_icmp .ne 7, 3) := by decide +kernel
theorem dX2_leastSweepsAt_8 : decode cX2_leastSweepsAt 8 = .ok (.iconst 0, 1) := by decide +kernel
theorem dX2_leastSweepsAt_9 : decode cX2_leastSweepsAt 9 = .ok (.goto 6, 3) := by decide +kernel
theorem dX2_leastSweepsAt_12 : decode cX2_leastSweepsAt 12 = .ok (.sipush 1000, 3) := by decide +kernel
theorem dX2_leastSweepsAt_15 : decode cX2_leastSweepsAt 15 = .ok (.istore_n 2, 1) := by decide +kernel
theorem dX2_leastSweepsAt_16 : decode cX2_leastSweepsAt 16 = .ok (.iconst 0, 1) := by decide +kernel
theorem dX2_leastSweepsAt_17 : decode cX2_leastSweepsAt 17 = .ok (.istore_n 3, 1) := by decide +kernel
theorem dX2_leastSweepsAt_18 : decode cX2_leastSweepsAt 18 = .ok (.iload_n 3, 1) := by decide +kernel
theorem dX2_leastSweepsAt_19 : decode cX2_leastSweepsAt 19 = .ok (.bipush 10, 2) := by decide +kernel
theorem dX2_leastSweepsAt_21 : decode cX2_leastSweepsAt 21 = .ok (.if_icmp .ge 24, 3) := by decide +kernel
theorem dX2_leastSweepsAt_24 : decode cX2_leastSweepsAt 24 = .ok (.iload_n 2, 1) := by decide +kernel
theorem dX2_leastSweepsAt_25 : decode cX2_leastSweepsAt 25 = .ok (.aload_n 0, 1) := by decide +kernel
theorem dX2_leastSweepsAt_26 : decode cX2_leastSweepsAt 26 = .ok (.iload_n 1, 1) := by decide +kernel
theorem dX2_leastSweepsAt_27 : decode cX2_leastSweepsAt 27 = .ok (.bipush 10, 2) := by decide +kernel
theorem dX2_leastSweepsAt_29 : decode cX2_leastSweepsAt 29 = .ok (.imul, 1) := by decide +kernel
theorem dX2_leastSweepsAt_30 : decode cX2_leastSweepsAt 30 = .ok (.iload_n 3, 1) := by decide +kernel
theorem dX2_leastSweepsAt_31 : decode cX2_leastSweepsAt 31 = .ok (.iadd, 1) := by decide +kernel
theorem dX2_leastSweepsAt_32 : decode cX2_leastSweepsAt 32 = .ok (.invokevirtual 95, 3) := by decide +kernel
theorem dX2_leastSweepsAt_35 : decode cX2_leastSweepsAt 35 = .ok (.invokestatic 79, 3) := by decide +kernel
theorem dX2_leastSweepsAt_38 : decode cX2_leastSweepsAt 38 = .ok (.istore_n 2, 1) := by decide +kernel
theorem dX2_leastSweepsAt_39 : decode cX2_leastSweepsAt 39 = .ok (.iinc 3 1, 3) := by decide +kernel
theorem dX2_leastSweepsAt_42 : decode cX2_leastSweepsAt 42 = .ok (.goto (-24), 3) := by decide +kernel
theorem dX2_leastSweepsAt_45 : decode cX2_leastSweepsAt 45 = .ok (.iload_n 2, 1) := by decide +kernel
theorem dX2_leastSweepsAt_46 : decode cX2_leastSweepsAt 46 = .ok (.ireturn, 1) := by decide +kernel
def wp_X2_leastSweepsAt_B18 (σ : SX) (x1 : Int32) (K18 : Int32 → Prop) (rec18 : Int32 → Int32 → Prop) (v3_18 : Int32) (v2_18 : Int32) : Prop := ((10 ≤ v3_18 → (K18 v2_18)) ∧ (¬ 10 ≤ v3_18 → (wp_X2_figureAt σ ((x1 * 10) + v3_18) (fun r32 => (rec18 (v3_18 + 1) (jmin v2_18 r32))))))
def wp_X2_leastSweepsAt_L18 (σ : SX) (x1 : Int32) (K18 : Int32 → Prop) : Nat → Int32 → Int32 → Prop
  | 0, _, _ => False
  | nn + 1, v3_18, v2_18 => wp_X2_leastSweepsAt_B18 σ x1 K18 (wp_X2_leastSweepsAt_L18 σ x1 K18 nn) v3_18 v2_18
def wp_X2_leastSweepsAt_J15 (fu : Nat) (σ : SX) (x1 : Int32) (P : Int32 → Prop) (t0_15 : Int32) : Prop := (wp_X2_leastSweepsAt_L18 σ x1 (fun (v2_45 : Int32) => (P v2_45)) fu 0 t0_15)
def wp_X2_leastSweepsAt (fu : Nat) (σ : SX) (x1 : Int32) (P : Int32 → Prop) : Prop := ((¬ x1 = (σ.1 8) → (wp_X2_leastSweepsAt_J15 fu σ x1 P 1000)) ∧ (x1 = (σ.1 8) → (wp_X2_leastSweepsAt_J15 fu σ x1 P 0)))
theorem k_X2_leastSweepsAt : KV RX2 yX2_leastSweepsAt cX2_leastSweepsAt 4 (some .int) 1 := ⟨q763, qs22, q4, q764, by decide +kernel⟩
set_option maxHeartbeats 4000000 in
set_option maxRecDepth 100000 in
theorem m_X2_leastSweepsAt (l : Launch) (dC : Nat → ClassId) (dI : Nat → Nat → Nat) (h : Nat → Nat) (cy : Nat → ClassId) (fu : Nat) (σ : SX) (x1 : Int32) (P : Int32 → Prop) (hF : wp_X2_leastSweepsAt fu σ x1 P) : Met l yX2_leastSweepsAt (ws_ yX2_leastSweepsAt cX2_leastSweepsAt 4 (some .int)) ({ frames := 1, cells := 0, slots := 0, locals := 21 } : Room) (va_Pc [.ref (h 12), .int x1] (fun U => va_P (dC, dI) classes (wW h cy σ) U.heap ∧ kwX dC dI cy U)) (vp_Si P) 0 0 (fun _ => False) := by
  refine Met.ofCx (own := RX2) (by decide) rfl (Nat.le_of_ble_eq_true rfl) ?_
  intro p e s m below meth c hC hv ls hl
  obtain ⟨hx, hb, hr, hml, hown, hts, hlocks⟩ := hC
  have hl : lv_has ls 4 [(0, .ref (h 12)), (1, .int x1)] := hl
  obtain ⟨hP, hK⟩ := hv
  unfold wp_X2_leastSweepsAt at hF
  refine lv_iload_n hx hb dX2_leastSweepsAt_0 rfl (lv_at hl 1 rfl) ?_
  refine lv_aload_n hx hb dX2_leastSweepsAt_1 rfl (lv_at hl 0 rfl) ?_
  refine va_get (D := (dC, dI)) (ci := 2) (v := .int (σ.1 8)) (C := RX2) (T := TX2) (N := 12) hx hb hts in_X2 hown hK.1 hP 12 rfl rfl 5 (by decide) (hts _ q102) (fun _ h9 => h9) rfl dX2_leastSweepsAt_2 ?_
  have hJ15 : ∀ (t0_15 : Int32), wp_X2_leastSweepsAt_J15 fu σ x1 P t0_15 → ∀ (ls : Array Slot), lv_has ls 4 [(0, .ref (h 12)), (1, .int x1)] → W p l e ({ frames := 1, cells := 0, slots := 0, locals := 21 } : Room) s m ([.ref (h 12), .int x1] : List Value).toArray below meth c s.heap [] 0 0 (MQ below (vp_Si P) ([.ref (h 12), .int x1] : List Value).toArray s 0 0 (fun _ => False)) (F0 m 15 ls [.int t0_15]) := by
    intro t0_15 hF ls hl
    unfold wp_X2_leastSweepsAt_J15 at hF
    refine lv_istore_n (lv' := [(2, .int t0_15), (0, .ref (h 12)), (1, .int x1)]) hx hb dX2_leastSweepsAt_15 rfl hl (by decide) rfl (fun ls hl => ?_)
    refine lv_iconst (v := 0) hx hb dX2_leastSweepsAt_16 (by decide) ?_
    refine lv_istore_n (lv' := [(3, .int 0), (2, .int t0_15), (0, .ref (h 12)), (1, .int x1)]) hx hb dX2_leastSweepsAt_17 rfl hl (by decide) rfl (fun ls hl => ?_)
    have hX18 : ∀ (v2_45 : Int32), (fun (v2_45 : Int32) => (P v2_45)) v2_45 → ∀ (ls : Array Slot), lv_has ls 4 [(2, .int v2_45)] → W p l e ({ frames := 1, cells := 0, slots := 0, locals := 21 } : Room) s m ([.ref (h 12), .int x1] : List Value).toArray below meth c s.heap [] 0 0 (MQ below (vp_Si P) ([.ref (h 12), .int x1] : List Value).toArray s 0 0 (fun _ => False)) (F0 m 45 ls []) := by
      intro v2_45 hF ls hl
      refine lv_iload_n hx hb dX2_leastSweepsAt_45 rfl (lv_at hl 0 rfl) ?_
      exact W.iret (v := v2_45) hx hb hr (fun t ht hW => ⟨v2_45, rfl, hF, ht⟩) (fun q hq => absurd hq List.not_mem_nil) dX2_leastSweepsAt_46
    have hL18 : ∀ (K18 : Int32 → Prop), (∀ (v2_45 : Int32), K18 v2_45 → ∀ (ls : Array Slot), lv_has ls 4 [(2, .int v2_45)] → W p l e ({ frames := 1, cells := 0, slots := 0, locals := 21 } : Room) s m ([.ref (h 12), .int x1] : List Value).toArray below meth c s.heap [] 0 0 (MQ below (vp_Si P) ([.ref (h 12), .int x1] : List Value).toArray s 0 0 (fun _ => False)) (F0 m 45 ls [])) → ∀ (nn : Nat), ∀ (v3_18 : Int32), ∀ (v2_18 : Int32), wp_X2_leastSweepsAt_L18 σ x1 K18 nn v3_18 v2_18 → ∀ (ls : Array Slot), lv_has ls 4 [(3, .int v3_18), (2, .int v2_18), (0, .ref (h 12)), (1, .int x1)] → W p l e ({ frames := 1, cells := 0, slots := 0, locals := 21 } : Room) s m ([.ref (h 12), .int x1] : List Value).toArray below meth c s.heap [] 0 0 (MQ below (vp_Si P) ([.ref (h 12), .int x1] : List Value).toArray s 0 0 (fun _ => False)) (F0 m 18 ls []) := by
      intro K18 hX18 nn
      induction nn with
      | zero =>
        intro v3_18 v2_18 hF
        exact hF.elim
      | succ nn ih =>
        intro v3_18 v2_18 hF ls hl
        obtain ⟨rec18, hrec⟩ : ∃ z : Int32 → Int32 → Prop, z = wp_X2_leastSweepsAt_L18 σ x1 K18 nn := ⟨_, rfl⟩
        have hF : wp_X2_leastSweepsAt_B18 σ x1 K18 rec18 v3_18 v2_18 := by rw [hrec]; exact hF
        rw [← hrec] at ih
        clear hrec
        unfold wp_X2_leastSweepsAt_B18 at hF
        refine lv_iload_n hx hb dX2_leastSweepsAt_18 rfl (lv_at hl 0 rfl) ?_
        refine lv_bipush (v := 10) hx hb dX2_leastSweepsAt_19 (by decide) ?_
        refine lv_icmp_ge (tgt := 45) hx hb dX2_leastSweepsAt_21 (by decide) (fun cz => ?_) (fun cz => ?_)
        · have hF := hF.1 cz
          exact hX18 v2_18 hF _ (lv_sub hl [1] rfl)
        · have hF := hF.2 cz
          refine lv_iload_n hx hb dX2_leastSweepsAt_24 rfl (lv_at hl 1 rfl) ?_
          refine lv_aload_n hx hb dX2_leastSweepsAt_25 rfl (lv_at hl 2 rfl) ?_
          refine lv_iload_n hx hb dX2_leastSweepsAt_26 rfl (lv_at hl 3 rfl) ?_
          refine lv_bipush (v := 10) hx hb dX2_leastSweepsAt_27 (by decide) ?_
          refine lv_imul hx hb dX2_leastSweepsAt_29 ?_
          refine lv_iload_n hx hb dX2_leastSweepsAt_30 rfl (lv_at hl 0 rfl) ?_
          refine lv_iadd hx hb dX2_leastSweepsAt_31 ?_
          refine cpVi (q0 := 12) (As := [.int ((x1 * 10) + v3_18)]) (rest := [.int v2_18]) ⟨hx, hb, hr, hml, hown, hts, hlocks⟩ hK hP rfl rfl (m_X2_figureAt l dC dI h cy σ ((x1 * 10) + v3_18) _ hF) k_X2_figureAt q328 ⟨rfl, rfl⟩ ⟨Nat.le_of_ble_eq_true rfl, Nat.le_of_ble_eq_true rfl⟩ hl.1 rfl rfl (Nat.le_of_ble_eq_true rfl) dX2_leastSweepsAt_32 ⟨Nat.le_of_ble_eq_true rfl, Nat.le_of_ble_eq_true rfl⟩ (fun r32 hF => ?_)
          refine va_mmin hx hb (by rw [hml]; exact hl.1.symm) hown (hts _ q260) (hts _ q261) (hts _ q13) (hts _ q262) (Nat.le_of_ble_eq_true rfl) (Nat.le_of_ble_eq_true rfl) (Nat.le_of_ble_eq_true rfl) (Nat.le_of_ble_eq_true rfl) dX2_leastSweepsAt_35 ?_
          refine lv_istore_n (lv' := [(2, .int (jmin v2_18 r32)), (3, .int v3_18), (0, .ref (h 12)), (1, .int x1)]) hx hb dX2_leastSweepsAt_38 rfl hl (by decide) rfl (fun ls hl => ?_)
          refine lv_iinc (v := v3_18 + 1) (lv' := [(3, .int (v3_18 + 1)), (2, .int (jmin v2_18 r32)), (0, .ref (h 12)), (1, .int x1)]) hx hb dX2_leastSweepsAt_39 hl (k := 1) rfl (by rfl) (by decide) rfl (fun ls hl => ?_)
          refine lv_goto (tgt := 18) hx hb dX2_leastSweepsAt_42 (by decide) ?_
          exact ih (v3_18 + 1) (jmin v2_18 r32) hF _ (lv_sub hl [0, 1, 2, 3] rfl)
    exact hL18 _ hX18 fu 0 t0_15 hF _ (lv_sub hl [0, 1, 2, 3] rfl)
  refine lv_icmp_ne (tgt := 12) hx hb dX2_leastSweepsAt_5 (by decide) (fun cz => ?_) (fun cz => ?_)
  · have hF := hF.1 cz
    refine lv_sipush (v := 1000) hx hb dX2_leastSweepsAt_12 (by decide) ?_
    exact hJ15 1000 hF _ (lv_sub hl [0, 1] rfl)
  · have hF := hF.2 cz
    refine lv_iconst (v := 0) hx hb dX2_leastSweepsAt_8 (by decide) ?_
    refine lv_goto (tgt := 15) hx hb dX2_leastSweepsAt_9 (by decide) ?_
    exact hJ15 0 hF _ (lv_sub hl [0, 1] rfl)
theorem dX2_sweepOn_0 : decode cX2_sweepOn 0 = .ok (.iconst 0, 1) := by decide +kernel
theorem dX2_sweepOn_1 : decode cX2_sweepOn 1 = .ok (.istore_n 3, 1) := by decide +kernel
theorem dX2_sweepOn_2 : decode cX2_sweepOn 2 = .ok (.iload_n 3, 1) := by decide +kernel
theorem dX2_sweepOn_3 : decode cX2_sweepOn 3 = .ok (.aload_n 0, 1) := by decide +kernel
theorem dX2_sweepOn_4 : decode cX2_sweepOn 4 = .ok (.getfield 29, 3) := by decide +kernel
theorem dX2_sweepOn_7 : decode cX2_sweepOn 7 = .ok (.invokevirtual 65, 3) := by decide +kernel
theorem dX2_sweepOn_10 : decode cX2_sweepOn 10 = .ok (.if_icmp .ge 98, 3) := by decide +kernel
theorem dX2_sweepOn_13 : decode cX2_sweepOn 13 = .ok (.aload_n 0, 1) := by decide +kernel
theorem dX2_sweepOn_14 : decode cX2_sweepOn 14 = .ok (.getfield 29, 3) := by decide +kernel
theorem dX2_sweepOn_17 : decode cX2_sweepOn 17 = .ok (.iload_n 1, 1) := by decide +kernel
theorem dX2_sweepOn_18 : decode cX2_sweepOn 18 = .ok (.iload_n 3, 1) := by decide +kernel
theorem dX2_sweepOn_19 : decode cX2_sweepOn 19 = .ok (.invokevirtual 71, 3) := by decide +kernel
theorem dX2_sweepOn_22 : decode cX2_sweepOn 22 = .ok (.istore 4, 2) := by decide +kernel
theorem dX2_sweepOn_24 : decode cX2_sweepOn 24 = .ok (.iload 4, 2) := by decide +kernel
theorem dX2_sweepOn_26 : decode cX2_sweepOn 26 = .ok (.iconst (-1), 1) := by decide +kernel
theorem dX2_sweepOn_27 : decode cX2_sweepOn 27 = .ok (.if_icmp .eq 75, 3) := by decide +kernel
theorem dX2_sweepOn_30 : decode cX2_sweepOn 30 = .ok (.aload_n 0, 1) := by decide +kernel
theorem dX2_sweepOn_31 : decode cX2_sweepOn 31 = .ok (.getfield 29, 3) := by decide +kernel
theorem dX2_sweepOn_34 : decode cX2_sweepOn 34 = .ok (.iload_n 3, 1) := by decide +kernel
theorem dX2_sweepOn_35 : decode cX2_sweepOn 35 = .ok (.invokevirtual 107, 3) := by decide +kernel
theorem dX2_sweepOn_38 : decode cX2_sweepOn 38 = .ok (.bipush 100, 2) := by decide +kernel
theorem dX2_sweepOn_40 : decode cX2_sweepOn 40 = .ok (.idiv, 1) := by decide +kernel
theorem dX2_sweepOn_41 : decode cX2_sweepOn 41 = .ok (.istore 5, 2) := by decide +kernel
theorem dX2_sweepOn_43 : decode cX2_sweepOn 43 = .ok (.aload_n 0, 1) := by decide +kernel
theorem dX2_sweepOn_44 : decode cX2_sweepOn 44 = .ok (.getfield 29, 3) := by decide +kernel
theorem dX2_sweepOn_47 : decode cX2_sweepOn 47 = .ok (.iload_n 3, 1) := by decide +kernel
theorem dX2_sweepOn_48 : decode cX2_sweepOn 48 = .ok (.invokevirtual 107, 3) := by decide +kernel
theorem dX2_sweepOn_51 : decode cX2_sweepOn 51 = .ok (.bipush 100, 2) := by decide +kernel
theorem dX2_sweepOn_53 : decode cX2_sweepOn 53 = .ok (.irem, 1) := by decide +kernel
theorem dX2_sweepOn_54 : decode cX2_sweepOn 54 = .ok (.istore 6, 2) := by decide +kernel
theorem dX2_sweepOn_56 : decode cX2_sweepOn 56 = .ok (.iload_n 2, 1) := by decide +kernel
theorem dX2_sweepOn_57 : decode cX2_sweepOn 57 = .ok (.iconst 1, 1) := by decide +kernel
theorem dX2_sweepOn_58 : decode cX2_sweepOn 58 = .ok (.iadd, 1) := by decide +kernel
theorem dX2_sweepOn_59 : decode cX2_sweepOn 59 = .ok (.aload_n 0, 1) := by decide +kernel
theorem dX2_sweepOn_60 : decode cX2_sweepOn 60 = .ok (.iload_n 1, 1) := by decide +kernel
theorem dX2_sweepOn_61 : decode cX2_sweepOn 61 = .ok (.bipush 10, 2) := by decide +kernel
theorem dX2_sweepOn_63 : decode cX2_sweepOn 63 = .ok (.imul, 1) := by decide +kernel
theorem dX2_sweepOn_64 : decode cX2_sweepOn 64 = .ok (.iload 5, 2) := by decide +kernel
theorem dX2_sweepOn_66 : decode cX2_sweepOn 66 = .ok (.iadd, 1) := by decide +kernel
theorem dX2_sweepOn_67 : decode cX2_sweepOn 67 = .ok (.invokevirtual 95, 3) := by decide +kernel
theorem dX2_sweepOn_70 : decode cX2_sweepOn 70 = .ok (.invokestatic 79, 3) := by decide +kernel
theorem dX2_sweepOn_73 : decode cX2_sweepOn 73 = .ok (.istore 7, 2) := by decide +kernel
theorem dX2_sweepOn_75 : decode cX2_sweepOn 75 = .ok (.iload 4, 2) := by decide +kernel
theorem dX2_sweepOn_77 : decode cX2_sweepOn 77 = .ok (.bipush 10, 2) := by decide +kernel
theorem dX2_sweepOn_79 : decode cX2_sweepOn 79 = .ok (.imul, 1) := by decide +kernel
theorem dX2_sweepOn_80 : decode cX2_sweepOn 80 = .ok (.iload 6, 2) := by decide +kernel
theorem dX2_sweepOn_82 : decode cX2_sweepOn 82 = .ok (.iadd, 1) := by decide +kernel
theorem dX2_sweepOn_83 : decode cX2_sweepOn 83 = .ok (.istore 8, 2) := by decide +kernel
theorem dX2_sweepOn_85 : decode cX2_sweepOn 85 = .ok (.aload_n 0, 1) := by decide +kernel
theorem dX2_sweepOn_86 : decode cX2_sweepOn 86 = .ok (.iload 8, 2) := by decide +kernel
theorem dX2_sweepOn_88 : decode cX2_sweepOn 88 = .ok (.iload 7, 2) := by decide +kernel
theorem dX2_sweepOn_90 : decode cX2_sweepOn 90 = .ok (.aload_n 0, 1) := by decide +kernel
theorem dX2_sweepOn_91 : decode cX2_sweepOn 91 = .ok (.iload 8, 2) := by decide +kernel
theorem dX2_sweepOn_93 : decode cX2_sweepOn 93 = .ok (.invokevirtual 95, 3) := by decide +kernel
theorem dX2_sweepOn_96 : decode cX2_sweepOn 96 = .ok (.invokestatic 79, 3) := by decide +kernel
theorem dX2_sweepOn_99 : decode cX2_sweepOn 99 = .ok (.invokevirtual 91, 3) := by decide +kernel
theorem dX2_sweepOn_102 : decode cX2_sweepOn 102 = .ok (.iinc 3 1, 3) := by decide +kernel
theorem dX2_sweepOn_105 : decode cX2_sweepOn 105 = .ok (.goto (-103), 3) := by decide +kernel
theorem dX2_sweepOn_108 : decode cX2_sweepOn 108 = .ok (.return_, 1) := by decide +kernel
def wp_X2_sweepOn_J102 (rec2 : Int32 → SX → Prop) (v3_2 : Int32) (s_102 : SX) : Prop := (rec2 (v3_2 + 1) s_102)
def wp_X2_sweepOn_B2 (x1 : Int32) (x2 : Int32) (K2 : SX → Prop) (rec2 : Int32 → SX → Prop) (v3_2 : Int32) (s_2 : SX) : Prop := (wp_X0_lineCount s_2  (fun r7 => ((r7 ≤ v3_2 → (K2 s_2)) ∧ (¬ r7 ≤ v3_2 → (wp_X0_behind s_2 x1 v3_2 (fun r19 => ((r19 = (-1) → (wp_X2_sweepOn_J102 rec2 v3_2 s_2)) ∧ (¬ r19 = (-1) → (wp_X0_codeOf s_2 v3_2 (fun r35 => (wp_X0_codeOf s_2 v3_2 (fun r48 => (wp_X2_figureAt s_2 ((x1 * 10) + (r35 / 100)) (fun r67 => (wp_X2_figureAt s_2 ((r19 * 10) + (r48 - r48 / 100 * 100)) (fun r93 => (wp_X2_changeFigure s_2 ((r19 * 10) + (r48 - r48 / 100 * 100)) (jmin (jmin (x2 + 1) r67) r93) (fun s99 => (wp_X2_sweepOn_J102 rec2 v3_2 s99)))))))))))))))))))
def wp_X2_sweepOn_L2 (x1 : Int32) (x2 : Int32) (K2 : SX → Prop) : Nat → Int32 → SX → Prop
  | 0, _, _ => False
  | nn + 1, v3_2, s_2 => wp_X2_sweepOn_B2 x1 x2 K2 (wp_X2_sweepOn_L2 x1 x2 K2 nn) v3_2 s_2
def wp_X2_sweepOn (fu : Nat) (σ : SX) (x1 : Int32) (x2 : Int32) (P : SX → Prop) : Prop := (wp_X2_sweepOn_L2 x1 x2 (fun (s_108 : SX) => (P s_108)) fu 0 σ)
theorem k_X2_sweepOn : KV RX2 yX2_sweepOn cX2_sweepOn 9 none 2 := ⟨q767, qs23, q4, q768, by decide +kernel⟩
set_option maxHeartbeats 4000000 in
set_option maxRecDepth 100000 in
theorem m_X2_sweepOn (l : Launch) (dC : Nat → ClassId) (dI : Nat → Nat → Nat) (h : Nat → Nat) (cy : Nat → ClassId) (sz : Nat) (fu : Nat) (σ : SX) (x1 : Int32) (x2 : Int32) (P : SX → Prop) (hF : wp_X2_sweepOn fu σ x1 x2 P) : Met l yX2_sweepOn (ws_ yX2_sweepOn cX2_sweepOn 9 none) ({ frames := 2, cells := 0, slots := 0, locals := 44 } : Room) (va_Pc [.ref (h 12), .int x1, .int x2] (fun U => U.heap.size = sz ∧ va_P (dC, dI) classes (wW h cy σ) U.heap ∧ kwX dC dI cy U ∧ va_D (fun _ => True) (wW h cy σ))) (va_Qv (fun u => P u) (fun (u : SX) t => va_P (dC, dI) classes (wW h cy u) t.heap ∧ kwX dC dI cy t ∧ va_D (va_A (wW h cy σ) sz) (wW h cy u)) (va_A (wW h cy σ) sz)) 0 0 (va_A (wW h cy σ) sz) := by
  refine Met.ofCx (own := RX2) (by decide) rfl (Nat.le_of_ble_eq_true rfl) ?_
  intro p e s m below meth c hC hv ls hl
  obtain ⟨hx, hb, hr, hml, hown, hts, hlocks⟩ := hC
  have hl : lv_has ls 9 [(0, .ref (h 12)), (1, .int x1), (2, .int x2)] := hl
  obtain ⟨hsz, hP, hK, hD0⟩ := hv
  subst hsz
  have hD := hD0.self (sz := s.heap.size)
  generalize hAe : va_A (wW h cy σ) s.heap.size = A at hD ⊢
  have hA : ∀ q : Nat, s.heap.size ≤ q → A q := fun q h => by rw [← hAe]; exact Or.inr h
  have hS : va_S A s.heap s.heap [] := va_S.rf
  clear hAe
  unfold wp_X2_sweepOn at hF
  refine lv_iconst (v := 0) hx hb dX2_sweepOn_0 (by decide) ?_
  refine lv_istore_n (lv' := [(3, .int 0), (0, .ref (h 12)), (1, .int x1), (2, .int x2)]) hx hb dX2_sweepOn_1 rfl hl (by decide) rfl (fun ls hl => ?_)
  have hX2 : ∀ (s_108 : SX), (fun (s_108 : SX) => (P s_108)) s_108 → ∀ (H : Heap) (locs : List Loc), va_P (dC, dI) classes (wW h cy s_108) H → va_D A (wW h cy s_108) → va_S A s.heap H locs → ∀ (ls : Array Slot), lv_has ls 9 [] → W p l e ({ frames := 2, cells := 0, slots := 0, locals := 44 } : Room) s m ([.ref (h 12), .int x1, .int x2] : List Value).toArray below meth c H locs 0 0 (MQ below (va_Qv (fun u => P u) (fun (u : SX) t => va_P (dC, dI) classes (wW h cy u) t.heap ∧ kwX dC dI cy t ∧ va_D A (wW h cy u)) A) ([.ref (h 12), .int x1, .int x2] : List Value).toArray s 0 0 A) (F0 m 108 ls []) := by
    intro s_108 hF H locs hP hD hS ls hl
    exact W.vret hx hb hr (fun t ht hW => ⟨⟨s_108, rfl, hF, by rw [ht]; exact hP, hK.warm hW, hD⟩, hS.F ht⟩) hS.2.2 dX2_sweepOn_108
  have hL2 : ∀ (K2 : SX → Prop), (∀ (s_108 : SX), K2 s_108 → ∀ (H : Heap) (locs : List Loc), va_P (dC, dI) classes (wW h cy s_108) H → va_D A (wW h cy s_108) → va_S A s.heap H locs → ∀ (ls : Array Slot), lv_has ls 9 [] → W p l e ({ frames := 2, cells := 0, slots := 0, locals := 44 } : Room) s m ([.ref (h 12), .int x1, .int x2] : List Value).toArray below meth c H locs 0 0 (MQ below (va_Qv (fun u => P u) (fun (u : SX) t => va_P (dC, dI) classes (wW h cy u) t.heap ∧ kwX dC dI cy t ∧ va_D A (wW h cy u)) A) ([.ref (h 12), .int x1, .int x2] : List Value).toArray s 0 0 A) (F0 m 108 ls [])) → ∀ (nn : Nat), ∀ (v3_2 : Int32), ∀ (s_2 : SX), wp_X2_sweepOn_L2 x1 x2 K2 nn v3_2 s_2 → ∀ (H : Heap) (locs : List Loc), va_P (dC, dI) classes (wW h cy s_2) H → va_D A (wW h cy s_2) → va_S A s.heap H locs → ∀ (ls : Array Slot), lv_has ls 9 [(3, .int v3_2), (0, .ref (h 12)), (1, .int x1), (2, .int x2)] → W p l e ({ frames := 2, cells := 0, slots := 0, locals := 44 } : Room) s m ([.ref (h 12), .int x1, .int x2] : List Value).toArray below meth c H locs 0 0 (MQ below (va_Qv (fun u => P u) (fun (u : SX) t => va_P (dC, dI) classes (wW h cy u) t.heap ∧ kwX dC dI cy t ∧ va_D A (wW h cy u)) A) ([.ref (h 12), .int x1, .int x2] : List Value).toArray s 0 0 A) (F0 m 2 ls []) := by
    intro K2 hX2 nn
    induction nn with
    | zero =>
      intro v3_2 s_2 hF
      exact hF.elim
    | succ nn ih =>
      intro v3_2 s_2 hF H locs hP hD hS ls hl
      obtain ⟨rec2, hrec⟩ : ∃ z : Int32 → SX → Prop, z = wp_X2_sweepOn_L2 x1 x2 K2 nn := ⟨_, rfl⟩
      have hF : wp_X2_sweepOn_B2 x1 x2 K2 rec2 v3_2 s_2 := by rw [hrec]; exact hF
      rw [← hrec] at ih
      clear hrec
      unfold wp_X2_sweepOn_B2 at hF
      refine lv_iload_n hx hb dX2_sweepOn_2 rfl (lv_at hl 0 rfl) ?_
      refine lv_aload_n hx hb dX2_sweepOn_3 rfl (lv_at hl 1 rfl) ?_
      refine va_get (D := (dC, dI)) (ci := 2) (v := .ref (h 0)) (C := RX2) (T := TX2) (N := 12) hx hb hts in_X2 hown hK.1 hP 12 rfl rfl 0 (by decide) (hts _ q96) (fun _ h9 => h9) rfl dX2_sweepOn_4 ?_
      have hPc := hP.sub (ws' := wB h cy s_2) [0, 1, 2, 3, 4, 5, 6, 7, 8, 9, 10, 11] rfl
      refine cpVi (q0 := 0) (As := []) (rest := [.int v3_2]) ⟨hx, hb, hr, hml, hown, hts, hlocks⟩ hK hPc rfl rfl (m_X0_lineCount l dC dI h cy s_2  _ hF) k_X0_lineCount q254 ⟨rfl, rfl⟩ ⟨Nat.le_of_ble_eq_true rfl, Nat.le_of_ble_eq_true rfl⟩ hl.1 rfl rfl (Nat.le_of_ble_eq_true rfl) dX2_sweepOn_7 ⟨Nat.le_of_ble_eq_true rfl, Nat.le_of_ble_eq_true rfl⟩ (fun r7 hF => ?_)
      refine lv_icmp_ge (tgt := 108) hx hb dX2_sweepOn_10 (by decide) (fun cz => ?_) (fun cz => ?_)
      · have hF := hF.1 cz
        exact hX2 s_2 hF _ _ hP hD hS _ (lv_sub hl [] rfl)
      · have hF := hF.2 cz
        refine lv_aload_n hx hb dX2_sweepOn_13 rfl (lv_at hl 1 rfl) ?_
        refine va_get (D := (dC, dI)) (ci := 2) (v := .ref (h 0)) (C := RX2) (T := TX2) (N := 12) hx hb hts in_X2 hown hK.1 hP 12 rfl rfl 0 (by decide) (hts _ q96) (fun _ h9 => h9) rfl dX2_sweepOn_14 ?_
        refine lv_iload_n hx hb dX2_sweepOn_17 rfl (lv_at hl 2 rfl) ?_
        refine lv_iload_n hx hb dX2_sweepOn_18 rfl (lv_at hl 0 rfl) ?_
        have hPc := hP.sub (ws' := wB h cy s_2) [0, 1, 2, 3, 4, 5, 6, 7, 8, 9, 10, 11] rfl
        refine cpVi (q0 := 0) (As := [.int x1, .int v3_2]) (rest := []) ⟨hx, hb, hr, hml, hown, hts, hlocks⟩ hK hPc rfl rfl (m_X0_behind l dC dI h cy s_2 x1 v3_2 _ hF) k_X0_behind q255 ⟨rfl, rfl⟩ ⟨Nat.le_of_ble_eq_true rfl, Nat.le_of_ble_eq_true rfl⟩ hl.1 rfl rfl (Nat.le_of_ble_eq_true rfl) dX2_sweepOn_19 ⟨Nat.le_of_ble_eq_true rfl, Nat.le_of_ble_eq_true rfl⟩ (fun r19 hF => ?_)
        refine lv_istore (lv' := [(4, .int r19), (3, .int v3_2), (0, .ref (h 12)), (1, .int x1), (2, .int x2)]) hx hb dX2_sweepOn_22 hl (by decide) rfl (fun ls hl => ?_)
        refine lv_iload hx hb dX2_sweepOn_24 (lv_at hl 0 rfl) ?_
        refine lv_iconst (v := (-1)) hx hb dX2_sweepOn_26 (by decide) ?_
        have hJ102 : ∀ (s_102 : SX), wp_X2_sweepOn_J102 rec2 v3_2 s_102 → ∀ (H : Heap) (locs : List Loc), va_P (dC, dI) classes (wW h cy s_102) H → va_D A (wW h cy s_102) → va_S A s.heap H locs → ∀ (ls : Array Slot), lv_has ls 9 [(3, .int v3_2), (0, .ref (h 12)), (1, .int x1), (2, .int x2)] → W p l e ({ frames := 2, cells := 0, slots := 0, locals := 44 } : Room) s m ([.ref (h 12), .int x1, .int x2] : List Value).toArray below meth c H locs 0 0 (MQ below (va_Qv (fun u => P u) (fun (u : SX) t => va_P (dC, dI) classes (wW h cy u) t.heap ∧ kwX dC dI cy t ∧ va_D A (wW h cy u)) A) ([.ref (h 12), .int x1, .int x2] : List Value).toArray s 0 0 A) (F0 m 102 ls []) := by
          intro s_102 hF H locs hP hD hS ls hl
          unfold wp_X2_sweepOn_J102 at hF
          refine lv_iinc (v := v3_2 + 1) (lv' := [(3, .int (v3_2 + 1)), (0, .ref (h 12)), (1, .int x1), (2, .int x2)]) hx hb dX2_sweepOn_102 hl (k := 0) rfl (by rfl) (by decide) rfl (fun ls hl => ?_)
          refine lv_goto (tgt := 2) hx hb dX2_sweepOn_105 (by decide) ?_
          exact ih (v3_2 + 1) s_102 hF _ _ hP hD hS _ (lv_sub hl [0, 1, 2, 3] rfl)
        refine lv_icmp_eq (tgt := 102) hx hb dX2_sweepOn_27 (by decide) (fun cz => ?_) (fun cz => ?_)
        · have hF := hF.1 cz
          exact hJ102 s_2 hF _ _ hP hD hS _ (lv_sub hl [1, 2, 3, 4] rfl)
        · have hF := hF.2 cz
          refine lv_aload_n hx hb dX2_sweepOn_30 rfl (lv_at hl 2 rfl) ?_
          refine va_get (D := (dC, dI)) (ci := 2) (v := .ref (h 0)) (C := RX2) (T := TX2) (N := 12) hx hb hts in_X2 hown hK.1 hP 12 rfl rfl 0 (by decide) (hts _ q96) (fun _ h9 => h9) rfl dX2_sweepOn_31 ?_
          refine lv_iload_n hx hb dX2_sweepOn_34 rfl (lv_at hl 1 rfl) ?_
          have hPc := hP.sub (ws' := wB h cy s_2) [0, 1, 2, 3, 4, 5, 6, 7, 8, 9, 10, 11] rfl
          refine cpVi (q0 := 0) (As := [.int v3_2]) (rest := []) ⟨hx, hb, hr, hml, hown, hts, hlocks⟩ hK hPc rfl rfl (m_X0_codeOf l dC dI h cy s_2 v3_2 _ hF) k_X0_codeOf q769 ⟨rfl, rfl⟩ ⟨Nat.le_of_ble_eq_true rfl, Nat.le_of_ble_eq_true rfl⟩ hl.1 rfl rfl (Nat.le_of_ble_eq_true rfl) dX2_sweepOn_35 ⟨Nat.le_of_ble_eq_true rfl, Nat.le_of_ble_eq_true rfl⟩ (fun r35 hF => ?_)
          refine lv_bipush (v := 100) hx hb dX2_sweepOn_38 (by decide) ?_
          refine lv_idiv hx hb dX2_sweepOn_40 (by decide) ?_
          refine lv_istore (lv' := [(5, .int (r35 / 100)), (4, .int r19), (3, .int v3_2), (0, .ref (h 12)), (1, .int x1), (2, .int x2)]) hx hb dX2_sweepOn_41 hl (by decide) rfl (fun ls hl => ?_)
          refine lv_aload_n hx hb dX2_sweepOn_43 rfl (lv_at hl 3 rfl) ?_
          refine va_get (D := (dC, dI)) (ci := 2) (v := .ref (h 0)) (C := RX2) (T := TX2) (N := 12) hx hb hts in_X2 hown hK.1 hP 12 rfl rfl 0 (by decide) (hts _ q96) (fun _ h9 => h9) rfl dX2_sweepOn_44 ?_
          refine lv_iload_n hx hb dX2_sweepOn_47 rfl (lv_at hl 2 rfl) ?_
          have hPc := hP.sub (ws' := wB h cy s_2) [0, 1, 2, 3, 4, 5, 6, 7, 8, 9, 10, 11] rfl
          refine cpVi (q0 := 0) (As := [.int v3_2]) (rest := []) ⟨hx, hb, hr, hml, hown, hts, hlocks⟩ hK hPc rfl rfl (m_X0_codeOf l dC dI h cy s_2 v3_2 _ hF) k_X0_codeOf q769 ⟨rfl, rfl⟩ ⟨Nat.le_of_ble_eq_true rfl, Nat.le_of_ble_eq_true rfl⟩ hl.1 rfl rfl (Nat.le_of_ble_eq_true rfl) dX2_sweepOn_48 ⟨Nat.le_of_ble_eq_true rfl, Nat.le_of_ble_eq_true rfl⟩ (fun r48 hF => ?_)
          refine lv_bipush (v := 100) hx hb dX2_sweepOn_51 (by decide) ?_
          refine lv_irem hx hb dX2_sweepOn_53 (by decide) ?_
          refine lv_istore (lv' := [(6, .int (r48 - r48 / 100 * 100)), (5, .int (r35 / 100)), (4, .int r19), (3, .int v3_2), (0, .ref (h 12)), (1, .int x1), (2, .int x2)]) hx hb dX2_sweepOn_54 hl (by decide) rfl (fun ls hl => ?_)
          refine lv_iload_n hx hb dX2_sweepOn_56 rfl (lv_at hl 6 rfl) ?_
          refine lv_iconst (v := 1) hx hb dX2_sweepOn_57 (by decide) ?_
          refine lv_iadd hx hb dX2_sweepOn_58 ?_
          refine lv_aload_n hx hb dX2_sweepOn_59 rfl (lv_at hl 4 rfl) ?_
          refine lv_iload_n hx hb dX2_sweepOn_60 rfl (lv_at hl 5 rfl) ?_
          refine lv_bipush (v := 10) hx hb dX2_sweepOn_61 (by decide) ?_
          refine lv_imul hx hb dX2_sweepOn_63 ?_
          refine lv_iload hx hb dX2_sweepOn_64 (lv_at hl 1 rfl) ?_
          refine lv_iadd hx hb dX2_sweepOn_66 ?_
          refine cpVi (q0 := 12) (As := [.int ((x1 * 10) + (r35 / 100))]) (rest := [.int (x2 + 1)]) ⟨hx, hb, hr, hml, hown, hts, hlocks⟩ hK hP rfl rfl (m_X2_figureAt l dC dI h cy s_2 ((x1 * 10) + (r35 / 100)) _ hF) k_X2_figureAt q328 ⟨rfl, rfl⟩ ⟨Nat.le_of_ble_eq_true rfl, Nat.le_of_ble_eq_true rfl⟩ hl.1 rfl rfl (Nat.le_of_ble_eq_true rfl) dX2_sweepOn_67 ⟨Nat.le_of_ble_eq_true rfl, Nat.le_of_ble_eq_true rfl⟩ (fun r67 hF => ?_)
          refine va_mmin hx hb (by rw [hml]; exact hl.1.symm) hown (hts _ q260) (hts _ q261) (hts _ q13) (hts _ q262) (Nat.le_of_ble_eq_true rfl) (Nat.le_of_ble_eq_true rfl) (Nat.le_of_ble_eq_true rfl) (Nat.le_of_ble_eq_true rfl) dX2_sweepOn_70 ?_
          refine lv_istore (lv' := [(7, .int (jmin (x2 + 1) r67)), (6, .int (r48 - r48 / 100 * 100)), (5, .int (r35 / 100)), (4, .int r19), (3, .int v3_2), (0, .ref (h 12)), (1, .int x1), (2, .int x2)]) hx hb dX2_sweepOn_73 hl (by decide) rfl (fun ls hl => ?_)
          refine lv_iload hx hb dX2_sweepOn_75 (lv_at hl 3 rfl) ?_
          refine lv_bipush (v := 10) hx hb dX2_sweepOn_77 (by decide) ?_
          refine lv_imul hx hb dX2_sweepOn_79 ?_
          refine lv_iload hx hb dX2_sweepOn_80 (lv_at hl 1 rfl) ?_
          refine lv_iadd hx hb dX2_sweepOn_82 ?_
          refine lv_istore (lv' := [(8, .int ((r19 * 10) + (r48 - r48 / 100 * 100))), (7, .int (jmin (x2 + 1) r67)), (6, .int (r48 - r48 / 100 * 100)), (5, .int (r35 / 100)), (4, .int r19), (3, .int v3_2), (0, .ref (h 12)), (1, .int x1), (2, .int x2)]) hx hb dX2_sweepOn_83 hl (by decide) rfl (fun ls hl => ?_)
          refine lv_aload_n hx hb dX2_sweepOn_85 rfl (lv_at hl 6 rfl) ?_
          refine lv_iload hx hb dX2_sweepOn_86 (lv_at hl 0 rfl) ?_
          refine lv_iload hx hb dX2_sweepOn_88 (lv_at hl 1 rfl) ?_
          refine lv_aload_n hx hb dX2_sweepOn_90 rfl (lv_at hl 6 rfl) ?_
          refine lv_iload hx hb dX2_sweepOn_91 (lv_at hl 0 rfl) ?_
          refine cpVi (q0 := 12) (As := [.int ((r19 * 10) + (r48 - r48 / 100 * 100))]) (rest := [.int (jmin (x2 + 1) r67), .int ((r19 * 10) + (r48 - r48 / 100 * 100)), .ref (h 12)]) ⟨hx, hb, hr, hml, hown, hts, hlocks⟩ hK hP rfl rfl (m_X2_figureAt l dC dI h cy s_2 ((r19 * 10) + (r48 - r48 / 100 * 100)) _ hF) k_X2_figureAt q328 ⟨rfl, rfl⟩ ⟨Nat.le_of_ble_eq_true rfl, Nat.le_of_ble_eq_true rfl⟩ hl.1 rfl rfl (Nat.le_of_ble_eq_true rfl) dX2_sweepOn_93 ⟨Nat.le_of_ble_eq_true rfl, Nat.le_of_ble_eq_true rfl⟩ (fun r93 hF => ?_)
          refine va_mmin hx hb (by rw [hml]; exact hl.1.symm) hown (hts _ q260) (hts _ q261) (hts _ q13) (hts _ q262) (Nat.le_of_ble_eq_true rfl) (Nat.le_of_ble_eq_true rfl) (Nat.le_of_ble_eq_true rfl) (Nat.le_of_ble_eq_true rfl) dX2_sweepOn_96 ?_
          have hFc := va_free (wc := wW h cy s_2) hD hS hA [0, 1, 2, 3, 4, 5, 6, 7, 8, 9, 10, 11, 12, 13, 14, 15] rfl
          refine cwVv (q0 := 12) (As := [.int ((r19 * 10) + (r48 - r48 / 100 * 100)), .int (jmin (jmin (x2 + 1) r67) r93)]) (rest := []) ⟨hx, hb, hr, hml, hown, hts, hlocks⟩ hK hP hD rfl rfl hS hFc (m_X2_changeFigure l dC dI h cy _ s_2 ((r19 * 10) + (r48 - r48 / 100 * 100)) (jmin (jmin (x2 + 1) r67) r93) _ hF) k_X2_changeFigure q332 ⟨rfl, rfl⟩ ⟨Nat.le_of_ble_eq_true rfl, Nat.le_of_ble_eq_true rfl⟩ hl.1 rfl rfl (Nat.le_of_ble_eq_true rfl) dX2_sweepOn_99 ⟨Nat.le_of_ble_eq_true rfl, Nat.le_of_ble_eq_true rfl⟩ (fun u H1 locs hF hP1 hD1 hk1 hS => ?_)
          obtain ⟨s99, rfl⟩ : ∃ z, z = u := ⟨_, rfl⟩
          have hP := hP1
          have hD := hD1.weaken (fun _ q _ h => hFc q.1 h)
          generalize H1 = H at hP hS ⊢
          have hP : va_P (dC, dI) classes (wW h cy s99) H := hP
          have hD : va_D A (wW h cy s99) := hD
          exact hJ102 s99 hF _ _ hP hD hS _ (lv_sub hl [5, 6, 7, 8] rfl)
  exact hL2 _ hX2 fu 0 σ hF _ _ hP hD hS _ (lv_sub hl [0, 1, 2, 3] rfl)
theorem dX2_leastSweepsTo_0 : decode cX2_leastSweepsTo 0 = .ok (.aload_n 0, 1) := by decide +kernel
theorem dX2_leastSweepsTo_1 : decode cX2_leastSweepsTo 1 = .ok (.iconst 0, 1) := by decide +kernel
theorem dX2_leastSweepsTo_2 : decode cX2_leastSweepsTo 2 = .ok (.putfield 26, 3) := by decide +kernel
theorem dX2_leastSweepsTo_5 : decode cX2_leastSweepsTo 5 = .ok (.iconst 0, 1) := by decide +kernel
theorem dX2_leastSweepsTo_6 : decode cX2_leastSweepsTo 6 = .ok (.istore_n 2, 1) := by decide +kernel
theorem dX2_leastSweepsTo_7 : decode cX2_leastSweepsTo 7 = .ok (.iload_n 2, 1) := by decide +kernel
theorem dX2_leastSweepsTo_8 : decode cX2_leastSweepsTo 8 = .ok (.aload_n 0, 1) := by decide +kernel
theorem dX2_leastSweepsTo_9 : decode cX2_leastSweepsTo 9 = .ok (.getfield 49, 3) := by decide +kernel
theorem dX2_leastSweepsTo_12 : decode cX2_leastSweepsTo 12 = .ok (.if_icmp .ge 50, 3) := by decide +kernel
theorem dX2_leastSweepsTo_15 : decode cX2_leastSweepsTo 15 = .ok (.iload_n 2, 1) := by decide +kernel
theorem dX2_leastSweepsTo_16 : decode cX2_leastSweepsTo 16 = .ok (.aload_n 0, 1) := by decide +kernel
theorem dX2_leastSweepsTo_17 : decode cX2_leastSweepsTo 17 = .ok (.getfield 9, 3) := by decide +kernel
theorem dX2_leastSweepsTo_20 : decode cX2_leastSweepsTo 20 = .ok (.arraylength, 1) := by decide +kernel
theorem dX2_leastSweepsTo_21 : decode cX2_leastSweepsTo 21 = .ok (.if_icmp .ge 41, 3) := by decide +kernel
theorem dX2_leastSweepsTo_24 : decode cX2_leastSweepsTo 24 = .ok (.iconst 0, 1) := by decide +kernel
theorem dX2_leastSweepsTo_25 : decode cX2_leastSweepsTo 25 = .ok (.istore_n 3, 1) := by decide +kernel
theorem dX2_leastSweepsTo_26 : decode cX2_leastSweepsTo 26 = .ok (.iload_n 3, 1) := by decide +kernel
theorem dX2_leastSweepsTo_27 : decode cX2_leastSweepsTo 27 = .ok (.bipush 10, 2) := by decide +kernel
theorem dX2_leastSweepsTo_29 : decode cX2_leastSweepsTo 29 = .ok (.if_icmp .ge 27, 3) := by decide +kernel
theorem dX2_leastSweepsTo_32 : decode cX2_leastSweepsTo 32 = .ok (.aload_n 0, 1) := by decide +kernel
theorem dX2_leastSweepsTo_33 : decode cX2_leastSweepsTo 33 = .ok (.aload_n 0, 1) := by decide +kernel
theorem dX2_leastSweepsTo_34 : decode cX2_leastSweepsTo 34 = .ok (.getfield 9, 3) := by decide +kernel
theorem dX2_leastSweepsTo_37 : decode cX2_leastSweepsTo 37 = .ok (.iload_n 2, 1) := by decide +kernel
theorem dX2_leastSweepsTo_38 : decode cX2_leastSweepsTo 38 = .ok (.iaload, 1) := by decide +kernel
theorem dX2_leastSweepsTo_39 : decode cX2_leastSweepsTo 39 = .ok (.bipush 10, 2) := by decide +kernel
theorem dX2_leastSweepsTo_41 : decode cX2_leastSweepsTo 41 = .ok (.imul, 1) := by decide +kernel
theorem dX2_leastSweepsTo_42 : decode cX2_leastSweepsTo 42 = .ok (.iload_n 3, 1) := by decide +kernel
theorem dX2_leastSweepsTo_43 : decode cX2_leastSweepsTo 43 = .ok (.iadd, 1) := by decide +kernel
theorem dX2_leastSweepsTo_44 : decode cX2_leastSweepsTo 44 = .ok (.sipush 1000, 3) := by decide +kernel
theorem dX2_leastSweepsTo_47 : decode cX2_leastSweepsTo 47 = .ok (.invokevirtual 91, 3) := by decide +kernel
theorem dX2_leastSweepsTo_50 : decode cX2_leastSweepsTo 50 = .ok (.iinc 3 1, 3) := by decide +kernel
theorem dX2_leastSweepsTo_53 : decode cX2_leastSweepsTo 53 = .ok (.goto (-27), 3) := by decide +kernel
theorem dX2_leastSweepsTo_56 : decode cX2_leastSweepsTo 56 = .ok (.iinc 2 1, 3) := by decide +kernel
theorem dX2_leastSweepsTo_59 : decode cX2_leastSweepsTo 59 = .ok (.goto (-52), 3) := by decide +kernel
theorem dX2_leastSweepsTo_62 : decode cX2_leastSweepsTo 62 = .ok (.iconst 0, 1) := by decide +kernel
theorem dX2_leastSweepsTo_63 : decode cX2_leastSweepsTo 63 = .ok (.istore_n 2, 1) := by decide +kernel
theorem dX2_leastSweepsTo_64 : decode cX2_leastSweepsTo 64 = .ok (.iload_n 2, 1) := by decide +kernel
theorem dX2_leastSweepsTo_65 : decode cX2_leastSweepsTo 65 = .ok (.aload_n 0, 1) := by decide +kernel
theorem dX2_leastSweepsTo_66 : decode cX2_leastSweepsTo 66 = .ok (.getfield 49, 3) := by decide +kernel
theorem dX2_leastSweepsTo_69 : decode cX2_leastSweepsTo 69 = .ok (.if_icmp .ge 52, 3) := by decide +kernel
theorem dX2_leastSweepsTo_72 : decode cX2_leastSweepsTo 72 = .ok (.iload_n 2, 1) := by decide +kernel
theorem dX2_leastSweepsTo_73 : decode cX2_leastSweepsTo 73 = .ok (.aload_n 0, 1) := by decide +kernel
theorem dX2_leastSweepsTo_74 : decode cX2_leastSweepsTo 74 = .ok (.getfield 9, 3) := by decide +kernel
theorem dX2_leastSweepsTo_77 : decode cX2_leastSweepsTo 77 = .ok (.arraylength, 1) := by decide +kernel
theorem dX2_leastSweepsTo_78 : decode cX2_leastSweepsTo 78 = .ok (.if_icmp .ge 43, 3) := by decide +kernel
theorem dX2_leastSweepsTo_81 : decode cX2_leastSweepsTo 81 = .ok (.aload_n 0, 1) := by decide +kernel
theorem dX2_leastSweepsTo_82 : decode cX2_leastSweepsTo 82 = .ok (.aload_n 0, 1) := by decide +kernel
theorem dX2_leastSweepsTo_83 : decode cX2_leastSweepsTo 83 = .ok (.getfield 9, 3) := by decide +kernel
theorem dX2_leastSweepsTo_86 : decode cX2_leastSweepsTo 86 = .ok (.iload_n 2, 1) := by decide +kernel
theorem dX2_leastSweepsTo_87 : decode cX2_leastSweepsTo 87 = .ok (.iaload, 1) := by decide +kernel
theorem dX2_leastSweepsTo_88 : decode cX2_leastSweepsTo 88 = .ok (.invokevirtual 101, 3) := by decide +kernel
theorem dX2_leastSweepsTo_91 : decode cX2_leastSweepsTo 91 = .ok (.istore_n 3, 1) := by decide +kernel
theorem dX2_leastSweepsTo_92 : decode cX2_leastSweepsTo 92 = .ok (.aload_n 0, 1) := by decide +kernel
theorem dX2_leastSweepsTo_93 : decode cX2_leastSweepsTo 93 = .ok (.getfield 9, 3) := by decide +kernel
theorem dX2_leastSweepsTo_96 : decode cX2_leastSweepsTo 96 = .ok (.iload_n 2, 1) := by decide +kernel
theorem dX2_leastSweepsTo_97 : decode cX2_leastSweepsTo 97 = .ok (.iaload, 1) := by decide +kernel
theorem dX2_leastSweepsTo_98 : decode cX2_leastSweepsTo 98 = .ok (.iload_n 1, 1) := by decide +kernel
theorem dX2_leastSweepsTo_99 : decode cX2_leastSweepsTo 99 = .ok (.if_icmp .ne 5, 3) := by decide +kernel
theorem dX2_leastSweepsTo_102 : decode cX2_leastSweepsTo 102 = .ok (.iload_n 3, 1) := by decide +kernel
theorem dX2_leastSweepsTo_103 : decode cX2_leastSweepsTo 103 = .ok (.ireturn, 1) := by decide +kernel
theorem dX2_leastSweepsTo_104 : decode cX2_leastSweepsTo 104 = .ok (.aload_n 0, 1) := by decide +kernel
theorem dX2_leastSweepsTo_105 : decode cX2_leastSweepsTo 105 = .ok (.aload_n 0, 1) := by decide +kernel
theorem dX2_leastSweepsTo_106 : decode cX2_leastSweepsTo 106 = .ok (.getfield 9, 3) := by decide +kernel
theorem dX2_leastSweepsTo_109 : decode cX2_leastSweepsTo 109 = .ok (.iload_n 2, 1) := by decide +kernel
theorem dX2_leastSweepsTo_110 : decode cX2_leastSweepsTo 110 = .ok (.iaload, 1) := by decide +kernel
theorem dX2_leastSweepsTo_111 : decode cX2_leastSweepsTo 111 = .ok (.iload_n 3, 1) := by decide +kernel
theorem dX2_leastSweepsTo_112 : decode cX2_leastSweepsTo 112 = .ok (.invokevirtual 104, 3) := by decide +kernel
theorem dX2_leastSweepsTo_115 : decode cX2_leastSweepsTo 115 = .ok (.iinc 2 1, 3) := by decide +kernel
theorem dX2_leastSweepsTo_118 : decode cX2_leastSweepsTo 118 = .ok (.goto (-54), 3) := by decide +kernel
theorem dX2_leastSweepsTo_121 : decode cX2_leastSweepsTo 121 = .ok (.sipush 1000, 3) := by decide +kernel
theorem dX2_leastSweepsTo_124 : decode cX2_leastSweepsTo 124 = .ok (.ireturn, 1) := by decide +kernel
def wp_X2_leastSweepsTo_B64 (fu : Nat) (x1 : Int32) (P : Int32 → SX → Prop) (K64 : SX → Prop) (rec64 : Int32 → SX → Prop) (v2_64 : Int32) (s_64 : SX) : Prop := (((s_64.1 7) ≤ v2_64 → (K64 s_64)) ∧ (¬ (s_64.1 7) ≤ v2_64 → ((8192 ≤ v2_64 → (K64 s_64)) ∧ (¬ 8192 ≤ v2_64 → (vp_in v2_64 8192 ∧ (wp_X2_leastSweepsAt fu s_64 ((s_64.2.1 6) v2_64.toNatClampNeg) (fun r88 => (vp_in v2_64 8192 ∧ ((¬ ((s_64.2.1 6) v2_64.toNatClampNeg) = x1 → (vp_in v2_64 8192 ∧ (wp_X2_sweepOn fu s_64 ((s_64.2.1 6) v2_64.toNatClampNeg) r88 (fun s112 => (rec64 (v2_64 + 1) s112))))) ∧ (((s_64.2.1 6) v2_64.toNatClampNeg) = x1 → (P r88 s_64)))))))))))
def wp_X2_leastSweepsTo_L64 (fu : Nat) (x1 : Int32) (P : Int32 → SX → Prop) (K64 : SX → Prop) : Nat → Int32 → SX → Prop
  | 0, _, _ => False
  | nn + 1, v2_64, s_64 => wp_X2_leastSweepsTo_B64 fu x1 P K64 (wp_X2_leastSweepsTo_L64 fu x1 P K64 nn) v2_64 s_64
def wp_X2_leastSweepsTo_B26 (v2_7 : Int32) (K26 : SX → Prop) (rec26 : Int32 → SX → Prop) (v3_26 : Int32) (s_26 : SX) : Prop := ((10 ≤ v3_26 → (K26 s_26)) ∧ (¬ 10 ≤ v3_26 → (vp_in v2_7 8192 ∧ (wp_X2_changeFigure s_26 ((((s_26.2.1 6) v2_7.toNatClampNeg) * 10) + v3_26) 1000 (fun s47 => (rec26 (v3_26 + 1) s47))))))
def wp_X2_leastSweepsTo_L26 (v2_7 : Int32) (K26 : SX → Prop) : Nat → Int32 → SX → Prop
  | 0, _, _ => False
  | nn + 1, v3_26, s_26 => wp_X2_leastSweepsTo_B26 v2_7 K26 (wp_X2_leastSweepsTo_L26 v2_7 K26 nn) v3_26 s_26
def wp_X2_leastSweepsTo_B7 (fu : Nat) (K7 : SX → Prop) (rec7 : Int32 → SX → Prop) (v2_7 : Int32) (s_7 : SX) : Prop := (((s_7.1 7) ≤ v2_7 → (K7 s_7)) ∧ (¬ (s_7.1 7) ≤ v2_7 → ((8192 ≤ v2_7 → (K7 s_7)) ∧ (¬ 8192 ≤ v2_7 → (wp_X2_leastSweepsTo_L26 v2_7 (fun (s_56 : SX) => (rec7 (v2_7 + 1) s_56)) fu 0 s_7)))))
def wp_X2_leastSweepsTo_L7 (fu : Nat) (K7 : SX → Prop) : Nat → Int32 → SX → Prop
  | 0, _, _ => False
  | nn + 1, v2_7, s_7 => wp_X2_leastSweepsTo_B7 fu K7 (wp_X2_leastSweepsTo_L7 fu K7 nn) v2_7 s_7
def wp_X2_leastSweepsTo (fu : Nat) (σ : SX) (x1 : Int32) (P : Int32 → SX → Prop) : Prop := (wp_X2_leastSweepsTo_L7 fu (fun (s_62 : SX) => (wp_X2_leastSweepsTo_L64 fu x1 P (fun (s_121 : SX) => (P 1000 s_121)) fu 0 s_62)) fu 0 (sI σ 13 0))
theorem k_X2_leastSweepsTo : KV RX2 yX2_leastSweepsTo cX2_leastSweepsTo 4 (some .int) 1 := ⟨q758, q759, q4, q760, by decide +kernel⟩
set_option maxHeartbeats 4000000 in
set_option maxRecDepth 100000 in
theorem m_X2_leastSweepsTo (l : Launch) (dC : Nat → ClassId) (dI : Nat → Nat → Nat) (h : Nat → Nat) (cy : Nat → ClassId) (sz : Nat) (fu : Nat) (σ : SX) (x1 : Int32) (P : Int32 → SX → Prop) (hF : wp_X2_leastSweepsTo fu σ x1 P) : Met l yX2_leastSweepsTo (ws_ yX2_leastSweepsTo cX2_leastSweepsTo 4 (some .int)) ({ frames := 3, cells := 0, slots := 0, locals := 72 } : Room) (va_Pc [.ref (h 12), .int x1] (fun U => U.heap.size = sz ∧ va_P (dC, dI) classes (wW h cy σ) U.heap ∧ kwX dC dI cy U ∧ va_D (fun _ => True) (wW h cy σ))) (va_Qi (fun r u => P r u) (fun (u : SX) t => va_P (dC, dI) classes (wW h cy u) t.heap ∧ kwX dC dI cy t ∧ va_D (va_A (wW h cy σ) sz) (wW h cy u)) (va_A (wW h cy σ) sz)) 0 0 (va_A (wW h cy σ) sz) := by
  refine Met.ofCx (own := RX2) (by decide) rfl (Nat.le_of_ble_eq_true rfl) ?_
  intro p e s m below meth c hC hv ls hl
  obtain ⟨hx, hb, hr, hml, hown, hts, hlocks⟩ := hC
  have hl : lv_has ls 4 [(0, .ref (h 12)), (1, .int x1)] := hl
  obtain ⟨hsz, hP, hK, hD0⟩ := hv
  subst hsz
  have hD := hD0.self (sz := s.heap.size)
  generalize hAe : va_A (wW h cy σ) s.heap.size = A at hD ⊢
  have hA : ∀ q : Nat, s.heap.size ≤ q → A q := fun q h => by rw [← hAe]; exact Or.inr h
  have hS : va_S A s.heap s.heap [] := va_S.rf
  clear hAe
  unfold wp_X2_leastSweepsTo at hF
  refine lv_aload_n hx hb dX2_leastSweepsTo_0 rfl (lv_at hl 0 rfl) ?_
  refine lv_iconst (v := 0) hx hb dX2_leastSweepsTo_1 (by decide) ?_
  refine va_put (D := (dC, dI)) (ci := 2) (v := .int 0) (ty := .int) (C := RX2) (T := TX2) (N := 12) hx hb hts in_X2 tyX2 tyX2_ok nmX2 hown hK.1 hP hD hS 12 rfl rfl 10 (by decide) (hts _ q111) (fun _ h9 => h9) rfl (by decide +kernel) rfl rfl (Nat.le_of_ble_eq_true rfl) dX2_leastSweepsTo_2 (fun H locs hP hD hS => ?_)
  have hP : va_P (dC, dI) classes (wW h cy (sI σ 13 0)) H := hP
  have hD : va_D A (wW h cy (sI σ 13 0)) := hD
  refine lv_iconst (v := 0) hx hb dX2_leastSweepsTo_5 (by decide) ?_
  refine lv_istore_n (lv' := [(2, .int 0), (0, .ref (h 12)), (1, .int x1)]) hx hb dX2_leastSweepsTo_6 rfl hl (by decide) rfl (fun ls hl => ?_)
  have hX7 : ∀ (s_62 : SX), (fun (s_62 : SX) => (wp_X2_leastSweepsTo_L64 fu x1 P (fun (s_121 : SX) => (P 1000 s_121)) fu 0 s_62)) s_62 → ∀ (H : Heap) (locs : List Loc), va_P (dC, dI) classes (wW h cy s_62) H → va_D A (wW h cy s_62) → va_S A s.heap H locs → ∀ (ls : Array Slot), lv_has ls 4 [(0, .ref (h 12)), (1, .int x1)] → W p l e ({ frames := 3, cells := 0, slots := 0, locals := 72 } : Room) s m ([.ref (h 12), .int x1] : List Value).toArray below meth c H locs 0 0 (MQ below (va_Qi (fun r u => P r u) (fun (u : SX) t => va_P (dC, dI) classes (wW h cy u) t.heap ∧ kwX dC dI cy t ∧ va_D A (wW h cy u)) A) ([.ref (h 12), .int x1] : List Value).toArray s 0 0 A) (F0 m 62 ls []) := by
    intro s_62 hF H locs hP hD hS ls hl
    refine lv_iconst (v := 0) hx hb dX2_leastSweepsTo_62 (by decide) ?_
    refine lv_istore_n (lv' := [(2, .int 0), (0, .ref (h 12)), (1, .int x1)]) hx hb dX2_leastSweepsTo_63 rfl hl (by decide) rfl (fun ls hl => ?_)
    have hX64 : ∀ (s_121 : SX), (fun (s_121 : SX) => (P 1000 s_121)) s_121 → ∀ (H : Heap) (locs : List Loc), va_P (dC, dI) classes (wW h cy s_121) H → va_D A (wW h cy s_121) → va_S A s.heap H locs → ∀ (ls : Array Slot), lv_has ls 4 [] → W p l e ({ frames := 3, cells := 0, slots := 0, locals := 72 } : Room) s m ([.ref (h 12), .int x1] : List Value).toArray below meth c H locs 0 0 (MQ below (va_Qi (fun r u => P r u) (fun (u : SX) t => va_P (dC, dI) classes (wW h cy u) t.heap ∧ kwX dC dI cy t ∧ va_D A (wW h cy u)) A) ([.ref (h 12), .int x1] : List Value).toArray s 0 0 A) (F0 m 121 ls []) := by
      intro s_121 hF H locs hP hD hS ls hl
      refine lv_sipush (v := 1000) hx hb dX2_leastSweepsTo_121 (by decide) ?_
      exact W.iret (v := 1000) hx hb hr (fun t ht hW => ⟨⟨1000, s_121, rfl, hF, by rw [ht]; exact hP, hK.warm hW, hD⟩, hS.F ht⟩) hS.2.2 dX2_leastSweepsTo_124
    have hL64 : ∀ (K64 : SX → Prop), (∀ (s_121 : SX), K64 s_121 → ∀ (H : Heap) (locs : List Loc), va_P (dC, dI) classes (wW h cy s_121) H → va_D A (wW h cy s_121) → va_S A s.heap H locs → ∀ (ls : Array Slot), lv_has ls 4 [] → W p l e ({ frames := 3, cells := 0, slots := 0, locals := 72 } : Room) s m ([.ref (h 12), .int x1] : List Value).toArray below meth c H locs 0 0 (MQ below (va_Qi (fun r u => P r u) (fun (u : SX) t => va_P (dC, dI) classes (wW h cy u) t.heap ∧ kwX dC dI cy t ∧ va_D A (wW h cy u)) A) ([.ref (h 12), .int x1] : List Value).toArray s 0 0 A) (F0 m 121 ls [])) → ∀ (nn : Nat), ∀ (v2_64 : Int32), ∀ (s_64 : SX), wp_X2_leastSweepsTo_L64 fu x1 P K64 nn v2_64 s_64 → ∀ (H : Heap) (locs : List Loc), va_P (dC, dI) classes (wW h cy s_64) H → va_D A (wW h cy s_64) → va_S A s.heap H locs → ∀ (ls : Array Slot), lv_has ls 4 [(2, .int v2_64), (0, .ref (h 12)), (1, .int x1)] → W p l e ({ frames := 3, cells := 0, slots := 0, locals := 72 } : Room) s m ([.ref (h 12), .int x1] : List Value).toArray below meth c H locs 0 0 (MQ below (va_Qi (fun r u => P r u) (fun (u : SX) t => va_P (dC, dI) classes (wW h cy u) t.heap ∧ kwX dC dI cy t ∧ va_D A (wW h cy u)) A) ([.ref (h 12), .int x1] : List Value).toArray s 0 0 A) (F0 m 64 ls []) := by
      intro K64 hX64 nn
      induction nn with
      | zero =>
        intro v2_64 s_64 hF
        exact hF.elim
      | succ nn ih =>
        intro v2_64 s_64 hF H locs hP hD hS ls hl
        obtain ⟨rec64, hrec⟩ : ∃ z : Int32 → SX → Prop, z = wp_X2_leastSweepsTo_L64 fu x1 P K64 nn := ⟨_, rfl⟩
        have hF : wp_X2_leastSweepsTo_B64 fu x1 P K64 rec64 v2_64 s_64 := by rw [hrec]; exact hF
        rw [← hrec] at ih
        clear hrec
        unfold wp_X2_leastSweepsTo_B64 at hF
        refine lv_iload_n hx hb dX2_leastSweepsTo_64 rfl (lv_at hl 0 rfl) ?_
        refine lv_aload_n hx hb dX2_leastSweepsTo_65 rfl (lv_at hl 1 rfl) ?_
        refine va_get (D := (dC, dI)) (ci := 2) (v := .int (s_64.1 7)) (C := RX2) (T := TX2) (N := 12) hx hb hts in_X2 hown hK.1 hP 12 rfl rfl 4 (by decide) (hts _ q100) (fun _ h9 => h9) rfl dX2_leastSweepsTo_66 ?_
        refine lv_icmp_ge (tgt := 121) hx hb dX2_leastSweepsTo_69 (by decide) (fun cz => ?_) (fun cz => ?_)
        · have hF := hF.1 cz
          exact hX64 s_64 hF _ _ hP hD hS _ (lv_sub hl [] rfl)
        · have hF := hF.2 cz
          refine lv_iload_n hx hb dX2_leastSweepsTo_72 rfl (lv_at hl 0 rfl) ?_
          refine lv_aload_n hx hb dX2_leastSweepsTo_73 rfl (lv_at hl 1 rfl) ?_
          refine va_get (D := (dC, dI)) (ci := 2) (v := .ref (h 13)) (C := RX2) (T := TX2) (N := 12) hx hb hts in_X2 hown hK.1 hP 12 rfl rfl 1 (by decide) (hts _ q97) (fun _ h9 => h9) rfl dX2_leastSweepsTo_74 ?_
          refine va_alen hx hb hK.1 hP 13 0 rfl rfl (v := 8192) (by rfl) dX2_leastSweepsTo_77 ?_
          refine lv_icmp_ge (tgt := 121) hx hb dX2_leastSweepsTo_78 (by decide) (fun cz => ?_) (fun cz => ?_)
          · have hF := hF.1 cz
            exact hX64 s_64 hF _ _ hP hD hS _ (lv_sub hl [] rfl)
          · have hF := hF.2 cz
            refine lv_aload_n hx hb dX2_leastSweepsTo_81 rfl (lv_at hl 1 rfl) ?_
            refine lv_aload_n hx hb dX2_leastSweepsTo_82 rfl (lv_at hl 1 rfl) ?_
            refine va_get (D := (dC, dI)) (ci := 2) (v := .ref (h 13)) (C := RX2) (T := TX2) (N := 12) hx hb hts in_X2 hown hK.1 hP 12 rfl rfl 1 (by decide) (hts _ q97) (fun _ h9 => h9) rfl dX2_leastSweepsTo_83 ?_
            refine lv_iload_n hx hb dX2_leastSweepsTo_86 rfl (lv_at hl 0 rfl) ?_
            have hI := hF.1
            have hF := hF.2
            refine va_iald hx hb hK.1 hP 13 0 rfl rfl hI dX2_leastSweepsTo_87 ?_
            refine cpVi (q0 := 12) (As := [.int ((s_64.2.1 6) v2_64.toNatClampNeg)]) (rest := []) ⟨hx, hb, hr, hml, hown, hts, hlocks⟩ hK hP rfl rfl (m_X2_leastSweepsAt l dC dI h cy fu s_64 ((s_64.2.1 6) v2_64.toNatClampNeg) _ hF) k_X2_leastSweepsAt q761 ⟨rfl, rfl⟩ ⟨Nat.le_of_ble_eq_true rfl, Nat.le_of_ble_eq_true rfl⟩ hl.1 rfl rfl (Nat.le_of_ble_eq_true rfl) dX2_leastSweepsTo_88 ⟨Nat.le_of_ble_eq_true rfl, Nat.le_of_ble_eq_true rfl⟩ (fun r88 hF => ?_)
            refine lv_istore_n (lv' := [(3, .int r88), (2, .int v2_64), (0, .ref (h 12)), (1, .int x1)]) hx hb dX2_leastSweepsTo_91 rfl hl (by decide) rfl (fun ls hl => ?_)
            refine lv_aload_n hx hb dX2_leastSweepsTo_92 rfl (lv_at hl 2 rfl) ?_
            refine va_get (D := (dC, dI)) (ci := 2) (v := .ref (h 13)) (C := RX2) (T := TX2) (N := 12) hx hb hts in_X2 hown hK.1 hP 12 rfl rfl 1 (by decide) (hts _ q97) (fun _ h9 => h9) rfl dX2_leastSweepsTo_93 ?_
            refine lv_iload_n hx hb dX2_leastSweepsTo_96 rfl (lv_at hl 1 rfl) ?_
            have hI := hF.1
            have hF := hF.2
            refine va_iald hx hb hK.1 hP 13 0 rfl rfl hI dX2_leastSweepsTo_97 ?_
            refine lv_iload_n hx hb dX2_leastSweepsTo_98 rfl (lv_at hl 3 rfl) ?_
            refine lv_icmp_ne (tgt := 104) hx hb dX2_leastSweepsTo_99 (by decide) (fun cz => ?_) (fun cz => ?_)
            · have hF := hF.1 cz
              refine lv_aload_n hx hb dX2_leastSweepsTo_104 rfl (lv_at hl 2 rfl) ?_
              refine lv_aload_n hx hb dX2_leastSweepsTo_105 rfl (lv_at hl 2 rfl) ?_
              refine va_get (D := (dC, dI)) (ci := 2) (v := .ref (h 13)) (C := RX2) (T := TX2) (N := 12) hx hb hts in_X2 hown hK.1 hP 12 rfl rfl 1 (by decide) (hts _ q97) (fun _ h9 => h9) rfl dX2_leastSweepsTo_106 ?_
              refine lv_iload_n hx hb dX2_leastSweepsTo_109 rfl (lv_at hl 1 rfl) ?_
              have hI := hF.1
              have hF := hF.2
              refine va_iald hx hb hK.1 hP 13 0 rfl rfl hI dX2_leastSweepsTo_110 ?_
              refine lv_iload_n hx hb dX2_leastSweepsTo_111 rfl (lv_at hl 0 rfl) ?_
              have hFc := va_free (wc := wW h cy s_64) hD hS hA [0, 1, 2, 3, 4, 5, 6, 7, 8, 9, 10, 11, 12, 13, 14, 15] rfl
              refine cwVv (q0 := 12) (As := [.int ((s_64.2.1 6) v2_64.toNatClampNeg), .int r88]) (rest := []) ⟨hx, hb, hr, hml, hown, hts, hlocks⟩ hK hP hD rfl rfl hS hFc (m_X2_sweepOn l dC dI h cy _ fu s_64 ((s_64.2.1 6) v2_64.toNatClampNeg) r88 _ hF) k_X2_sweepOn q765 ⟨rfl, rfl⟩ ⟨Nat.le_of_ble_eq_true rfl, Nat.le_of_ble_eq_true rfl⟩ hl.1 rfl rfl (Nat.le_of_ble_eq_true rfl) dX2_leastSweepsTo_112 ⟨Nat.le_of_ble_eq_true rfl, Nat.le_of_ble_eq_true rfl⟩ (fun u H1 locs hF hP1 hD1 hk1 hS => ?_)
              obtain ⟨s112, rfl⟩ : ∃ z, z = u := ⟨_, rfl⟩
              have hP := hP1
              have hD := hD1.weaken (fun _ q _ h => hFc q.1 h)
              generalize H1 = H at hP hS ⊢
              have hP : va_P (dC, dI) classes (wW h cy s112) H := hP
              have hD : va_D A (wW h cy s112) := hD
              refine lv_iinc (v := v2_64 + 1) (lv' := [(2, .int (v2_64 + 1)), (3, .int r88), (0, .ref (h 12)), (1, .int x1)]) hx hb dX2_leastSweepsTo_115 hl (k := 1) rfl (by rfl) (by decide) rfl (fun ls hl => ?_)
              refine lv_goto (tgt := 64) hx hb dX2_leastSweepsTo_118 (by decide) ?_
              exact ih (v2_64 + 1) s112 hF _ _ hP hD hS _ (lv_sub hl [0, 2, 3] rfl)
            · have hF := hF.2 cz
              refine lv_iload_n hx hb dX2_leastSweepsTo_102 rfl (lv_at hl 0 rfl) ?_
              exact W.iret (v := r88) hx hb hr (fun t ht hW => ⟨⟨r88, s_64, rfl, hF, by rw [ht]; exact hP, hK.warm hW, hD⟩, hS.F ht⟩) hS.2.2 dX2_leastSweepsTo_103
    exact hL64 _ hX64 fu 0 s_62 hF _ _ hP hD hS _ (lv_sub hl [0, 1, 2] rfl)
  have hL7 : ∀ (K7 : SX → Prop), (∀ (s_62 : SX), K7 s_62 → ∀ (H : Heap) (locs : List Loc), va_P (dC, dI) classes (wW h cy s_62) H → va_D A (wW h cy s_62) → va_S A s.heap H locs → ∀ (ls : Array Slot), lv_has ls 4 [(0, .ref (h 12)), (1, .int x1)] → W p l e ({ frames := 3, cells := 0, slots := 0, locals := 72 } : Room) s m ([.ref (h 12), .int x1] : List Value).toArray below meth c H locs 0 0 (MQ below (va_Qi (fun r u => P r u) (fun (u : SX) t => va_P (dC, dI) classes (wW h cy u) t.heap ∧ kwX dC dI cy t ∧ va_D A (wW h cy u)) A) ([.ref (h 12), .int x1] : List Value).toArray s 0 0 A) (F0 m 62 ls [])) → ∀ (nn : Nat), ∀ (v2_7 : Int32), ∀ (s_7 : SX), wp_X2_leastSweepsTo_L7 fu K7 nn v2_7 s_7 → ∀ (H : Heap) (locs : List Loc), va_P (dC, dI) classes (wW h cy s_7) H → va_D A (wW h cy s_7) → va_S A s.heap H locs → ∀ (ls : Array Slot), lv_has ls 4 [(2, .int v2_7), (0, .ref (h 12)), (1, .int x1)] → W p l e ({ frames := 3, cells := 0, slots := 0, locals := 72 } : Room) s m ([.ref (h 12), .int x1] : List Value).toArray below meth c H locs 0 0 (MQ below (va_Qi (fun r u => P r u) (fun (u : SX) t => va_P (dC, dI) classes (wW h cy u) t.heap ∧ kwX dC dI cy t ∧ va_D A (wW h cy u)) A) ([.ref (h 12), .int x1] : List Value).toArray s 0 0 A) (F0 m 7 ls []) := by
    intro K7 hX7 nn
    induction nn with
    | zero =>
      intro v2_7 s_7 hF
      exact hF.elim
    | succ nn ih =>
      intro v2_7 s_7 hF H locs hP hD hS ls hl
      obtain ⟨rec7, hrec⟩ : ∃ z : Int32 → SX → Prop, z = wp_X2_leastSweepsTo_L7 fu K7 nn := ⟨_, rfl⟩
      have hF : wp_X2_leastSweepsTo_B7 fu K7 rec7 v2_7 s_7 := by rw [hrec]; exact hF
      rw [← hrec] at ih
      clear hrec
      unfold wp_X2_leastSweepsTo_B7 at hF
      refine lv_iload_n hx hb dX2_leastSweepsTo_7 rfl (lv_at hl 0 rfl) ?_
      refine lv_aload_n hx hb dX2_leastSweepsTo_8 rfl (lv_at hl 1 rfl) ?_
      refine va_get (D := (dC, dI)) (ci := 2) (v := .int (s_7.1 7)) (C := RX2) (T := TX2) (N := 12) hx hb hts in_X2 hown hK.1 hP 12 rfl rfl 4 (by decide) (hts _ q100) (fun _ h9 => h9) rfl dX2_leastSweepsTo_9 ?_
      refine lv_icmp_ge (tgt := 62) hx hb dX2_leastSweepsTo_12 (by decide) (fun cz => ?_) (fun cz => ?_)
      · have hF := hF.1 cz
        exact hX7 s_7 hF _ _ hP hD hS _ (lv_sub hl [1, 2] rfl)
      · have hF := hF.2 cz
        refine lv_iload_n hx hb dX2_leastSweepsTo_15 rfl (lv_at hl 0 rfl) ?_
        refine lv_aload_n hx hb dX2_leastSweepsTo_16 rfl (lv_at hl 1 rfl) ?_
        refine va_get (D := (dC, dI)) (ci := 2) (v := .ref (h 13)) (C := RX2) (T := TX2) (N := 12) hx hb hts in_X2 hown hK.1 hP 12 rfl rfl 1 (by decide) (hts _ q97) (fun _ h9 => h9) rfl dX2_leastSweepsTo_17 ?_
        refine va_alen hx hb hK.1 hP 13 0 rfl rfl (v := 8192) (by rfl) dX2_leastSweepsTo_20 ?_
        refine lv_icmp_ge (tgt := 62) hx hb dX2_leastSweepsTo_21 (by decide) (fun cz => ?_) (fun cz => ?_)
        · have hF := hF.1 cz
          exact hX7 s_7 hF _ _ hP hD hS _ (lv_sub hl [1, 2] rfl)
        · have hF := hF.2 cz
          refine lv_iconst (v := 0) hx hb dX2_leastSweepsTo_24 (by decide) ?_
          refine lv_istore_n (lv' := [(3, .int 0), (2, .int v2_7), (0, .ref (h 12)), (1, .int x1)]) hx hb dX2_leastSweepsTo_25 rfl hl (by decide) rfl (fun ls hl => ?_)
          have hX26 : ∀ (s_56 : SX), (fun (s_56 : SX) => (rec7 (v2_7 + 1) s_56)) s_56 → ∀ (H : Heap) (locs : List Loc), va_P (dC, dI) classes (wW h cy s_56) H → va_D A (wW h cy s_56) → va_S A s.heap H locs → ∀ (ls : Array Slot), lv_has ls 4 [(2, .int v2_7), (0, .ref (h 12)), (1, .int x1)] → W p l e ({ frames := 3, cells := 0, slots := 0, locals := 72 } : Room) s m ([.ref (h 12), .int x1] : List Value).toArray below meth c H locs 0 0 (MQ below (va_Qi (fun r u => P r u) (fun (u : SX) t => va_P (dC, dI) classes (wW h cy u) t.heap ∧ kwX dC dI cy t ∧ va_D A (wW h cy u)) A) ([.ref (h 12), .int x1] : List Value).toArray s 0 0 A) (F0 m 56 ls []) := by
            intro s_56 hF H locs hP hD hS ls hl
            refine lv_iinc (v := v2_7 + 1) (lv' := [(2, .int (v2_7 + 1)), (0, .ref (h 12)), (1, .int x1)]) hx hb dX2_leastSweepsTo_56 hl (k := 0) rfl (by rfl) (by decide) rfl (fun ls hl => ?_)
            refine lv_goto (tgt := 7) hx hb dX2_leastSweepsTo_59 (by decide) ?_
            exact ih (v2_7 + 1) s_56 hF _ _ hP hD hS _ (lv_sub hl [0, 1, 2] rfl)
          have hL26 : ∀ (K26 : SX → Prop), (∀ (s_56 : SX), K26 s_56 → ∀ (H : Heap) (locs : List Loc), va_P (dC, dI) classes (wW h cy s_56) H → va_D A (wW h cy s_56) → va_S A s.heap H locs → ∀ (ls : Array Slot), lv_has ls 4 [(2, .int v2_7), (0, .ref (h 12)), (1, .int x1)] → W p l e ({ frames := 3, cells := 0, slots := 0, locals := 72 } : Room) s m ([.ref (h 12), .int x1] : List Value).toArray below meth c H locs 0 0 (MQ below (va_Qi (fun r u => P r u) (fun (u : SX) t => va_P (dC, dI) classes (wW h cy u) t.heap ∧ kwX dC dI cy t ∧ va_D A (wW h cy u)) A) ([.ref (h 12), .int x1] : List Value).toArray s 0 0 A) (F0 m 56 ls [])) → ∀ (nn : Nat), ∀ (v3_26 : Int32), ∀ (s_26 : SX), wp_X2_leastSweepsTo_L26 v2_7 K26 nn v3_26 s_26 → ∀ (H : Heap) (locs : List Loc), va_P (dC, dI) classes (wW h cy s_26) H → va_D A (wW h cy s_26) → va_S A s.heap H locs → ∀ (ls : Array Slot), lv_has ls 4 [(3, .int v3_26), (2, .int v2_7), (0, .ref (h 12)), (1, .int x1)] → W p l e ({ frames := 3, cells := 0, slots := 0, locals := 72 } : Room) s m ([.ref (h 12), .int x1] : List Value).toArray below meth c H locs 0 0 (MQ below (va_Qi (fun r u => P r u) (fun (u : SX) t => va_P (dC, dI) classes (wW h cy u) t.heap ∧ kwX dC dI cy t ∧ va_D A (wW h cy u)) A) ([.ref (h 12), .int x1] : List Value).toArray s 0 0 A) (F0 m 26 ls []) := by
            intro K26 hX26 nn
            induction nn with
            | zero =>
              intro v3_26 s_26 hF
              exact hF.elim
            | succ nn ih =>
              intro v3_26 s_26 hF H locs hP hD hS ls hl
              obtain ⟨rec26, hrec⟩ : ∃ z : Int32 → SX → Prop, z = wp_X2_leastSweepsTo_L26 v2_7 K26 nn := ⟨_, rfl⟩
              have hF : wp_X2_leastSweepsTo_B26 v2_7 K26 rec26 v3_26 s_26 := by rw [hrec]; exact hF
              rw [← hrec] at ih
              clear hrec
              unfold wp_X2_leastSweepsTo_B26 at hF
              refine lv_iload_n hx hb dX2_leastSweepsTo_26 rfl (lv_at hl 0 rfl) ?_
              refine lv_bipush (v := 10) hx hb dX2_leastSweepsTo_27 (by decide) ?_
              refine lv_icmp_ge (tgt := 56) hx hb dX2_leastSweepsTo_29 (by decide) (fun cz => ?_) (fun cz => ?_)
              · have hF := hF.1 cz
                exact hX26 s_26 hF _ _ hP hD hS _ (lv_sub hl [1, 2, 3] rfl)
              · have hF := hF.2 cz
                refine lv_aload_n hx hb dX2_leastSweepsTo_32 rfl (lv_at hl 2 rfl) ?_
                refine lv_aload_n hx hb dX2_leastSweepsTo_33 rfl (lv_at hl 2 rfl) ?_
                refine va_get (D := (dC, dI)) (ci := 2) (v := .ref (h 13)) (C := RX2) (T := TX2) (N := 12) hx hb hts in_X2 hown hK.1 hP 12 rfl rfl 1 (by decide) (hts _ q97) (fun _ h9 => h9) rfl dX2_leastSweepsTo_34 ?_
                refine lv_iload_n hx hb dX2_leastSweepsTo_37 rfl (lv_at hl 1 rfl) ?_
                have hI := hF.1
                have hF := hF.2
                refine va_iald hx hb hK.1 hP 13 0 rfl rfl hI dX2_leastSweepsTo_38 ?_
                refine lv_bipush (v := 10) hx hb dX2_leastSweepsTo_39 (by decide) ?_
                refine lv_imul hx hb dX2_leastSweepsTo_41 ?_
                refine lv_iload_n hx hb dX2_leastSweepsTo_42 rfl (lv_at hl 0 rfl) ?_
                refine lv_iadd hx hb dX2_leastSweepsTo_43 ?_
                refine lv_sipush (v := 1000) hx hb dX2_leastSweepsTo_44 (by decide) ?_
                have hFc := va_free (wc := wW h cy s_26) hD hS hA [0, 1, 2, 3, 4, 5, 6, 7, 8, 9, 10, 11, 12, 13, 14, 15] rfl
                refine cwVv (q0 := 12) (As := [.int ((((s_26.2.1 6) v2_7.toNatClampNeg) * 10) + v3_26), .int 1000]) (rest := []) ⟨hx, hb, hr, hml, hown, hts, hlocks⟩ hK hP hD rfl rfl hS hFc (m_X2_changeFigure l dC dI h cy _ s_26 ((((s_26.2.1 6) v2_7.toNatClampNeg) * 10) + v3_26) 1000 _ hF) k_X2_changeFigure q332 ⟨rfl, rfl⟩ ⟨Nat.le_of_ble_eq_true rfl, Nat.le_of_ble_eq_true rfl⟩ hl.1 rfl rfl (Nat.le_of_ble_eq_true rfl) dX2_leastSweepsTo_47 ⟨Nat.le_of_ble_eq_true rfl, Nat.le_of_ble_eq_true rfl⟩ (fun u H1 locs hF hP1 hD1 hk1 hS => ?_)
                obtain ⟨s47, rfl⟩ : ∃ z, z = u := ⟨_, rfl⟩
                have hP := hP1
                have hD := hD1.weaken (fun _ q _ h => hFc q.1 h)
                generalize H1 = H at hP hS ⊢
                have hP : va_P (dC, dI) classes (wW h cy s47) H := hP
                have hD : va_D A (wW h cy s47) := hD
                refine lv_iinc (v := v3_26 + 1) (lv' := [(3, .int (v3_26 + 1)), (2, .int v2_7), (0, .ref (h 12)), (1, .int x1)]) hx hb dX2_leastSweepsTo_50 hl (k := 0) rfl (by rfl) (by decide) rfl (fun ls hl => ?_)
                refine lv_goto (tgt := 26) hx hb dX2_leastSweepsTo_53 (by decide) ?_
                exact ih (v3_26 + 1) s47 hF _ _ hP hD hS _ (lv_sub hl [0, 1, 2, 3] rfl)
          exact hL26 _ hX26 fu 0 s_7 hF _ _ hP hD hS _ (lv_sub hl [0, 1, 2, 3] rfl)
  exact hL7 _ hX7 fu 0 (sI σ 13 0) hF _ _ hP hD hS _ (lv_sub hl [0, 1, 2] rfl)
