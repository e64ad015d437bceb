section FW
variable {l : Launch}
theorem Met.ofWF {y : MethodName} {ws ws' : List Cond} {rm : Room} {Pc : Array Value → State → Prop} {Qc : Array Value → State → Outcome → State → Prop} {mc ms : Nat} {free : Addr → Prop} {cc : ByteArray} {maxL : Nat} {ret : Option FieldType}
    (hy : plainFor y = true) (hw : ws = Cond.code y cc maxL ret :: ws')
    (body : ∀ p e s m args below meth c s₁, BodyLoose p l y (headSpec ws rm) cc maxL ret e s m args below meth c s₁ → c.maxLocals = maxL → Pc args s →
      W p l e (headSpec ws rm).room s m args below meth c s.heap [] 0 0 (MQ below Qc args s mc ms free) (entryFrame m args maxL)) : Met l y ws rm Pc Qc mc ms free := by
  refine MetFree.of_bodySF (code := cc) (maxLocals := maxL) (ret := ret) hy ?_ ?_
  · intro args s m h hn
    obtain ⟨meth, c, h1, h2, h3, h4, h5, h6, -, -⟩ := Cond.code_spec hn (atoms_spec (ws := ws) h _ (by rw [hw]; exact List.mem_cons_self))
    exact ⟨meth, c, h1, h2, h3, h4, h5, h6⟩
  · intro p e s m args below meth c s₁ B hml hP _
    have hh0 : s₁.heap = s.heap := by rw [B.state]; rfl
    obtain ⟨t, a1, o, b1, b2, b3⟩ := body p e s m args below meth c s₁ B hml hP s₁ hh0 (Stand.of_body B)
    exact ⟨t, o, a1, b1, b2, ⟨b3.1, b3.2⟩⟩
theorem Met.ofCxF {y : MethodName} {rm : Room} {Pc' : State → Prop} {Qc : Array Value → State → Outcome → State → Prop} {mc ms : Nat} {free : Addr → Prop} {cc : ByteArray} {nL : Nat} {ret : Option FieldType} {av : List Value} {own : String}
    (hy : plainFor y = true) (ho : y.cls = own) (hn : (lg_sl av).length ≤ nL)
    (body : ∀ (p : Program) (e : Env) (s : State) (m : MethodId) (below : List Frame) (meth : Method) (c : Code), Cx p s m av.toArray meth c own cc nL ret → Pc' s → ∀ ls : Array Slot, lv_has ls nL (lv_args 0 av) →
      W p l e rm s m av.toArray below meth c s.heap [] 0 0 (MQ below Qc av.toArray s mc ms free) (F0 m 0 ls [])) :
    Met l y (ws_ y cc nL ret) rm (va_Pc av Pc') Qc mc ms free := by
  refine Met.ofWF (cc := cc) (maxL := nL) (ret := ret) hy rfl ?_
  intro p e s m args below meth c s₁ B hml hv
  obtain ⟨rfl, hv⟩ := hv
  have hts := atoms_spec (ws := ws_ y cc nL ret) B.pre
  have hC : Cx p s m av.toArray meth c own cc nL ret := ⟨B.exec, B.bytes, B.returns, hml, by rw [← ho]; exact findClass_of_methodNamed B.named, fun w h => hts w (List.mem_cons_of_mem _ h), B.notSynchronized⟩
  rw [lg_entry_eq]
  exact body p e s m below meth c hC hv _ (lv_entry av hn)
end FW
theorem dJxf58ca_isNaN_12338_0 : decode cJxf58ca_isNaN_12338 0 = .ok (.fload_n 0, 1) := by decide +kernel
theorem dJxf58ca_isNaN_12338_1 : decode cJxf58ca_isNaN_12338 1 = .ok (.fload_n 0, 1) := by decide +kernel
theorem dJxf58ca_isNaN_12338_2 : decode cJxf58ca_isNaN_12338 2 = .ok (.fcmp .l, 1) := by decide +kernel
theorem dJxf58ca_isNaN_12338_3 : decode cJxf58ca_isNaN_12338 3 = .ok (.ifCond .eq 7, 3) := by decide +kernel
theorem dJxf58ca_isNaN_12338_6 : decode cJxf58ca_isNaN_12338 6 = .ok (.iconst 1, 1) := by decide +kernel
theorem dJxf58ca_isNaN_12338_7 : decode cJxf58ca_isNaN_12338 7 = .ok (.goto 4, 3) := by decide +kernel
theorem dJxf58ca_isNaN_12338_10 : decode cJxf58ca_isNaN_12338 10 = .ok (.iconst 0, 1) := by decide +kernel
theorem dJxf58ca_isNaN_12338_11 : decode cJxf58ca_isNaN_12338 11 = .ok (.ireturn, 1) := by decide +kernel
def wp_Jxf58ca_isNaN_12338 (x0 : UInt32) (P : Int32 → Prop) : Prop := (((Op.cmpValue (FP.fcmp x0 x0) CmpOp.l) = 0 → (P 0)) ∧ (¬ (Op.cmpValue (FP.fcmp x0 x0) CmpOp.l) = 0 → (P 1)))
theorem k_Jxf58ca_isNaN_12338 : KS yJxf58ca_isNaN_12338 cJxf58ca_isNaN_12338 1 (some .boolean) 1 := ⟨q1832, q35, q1833, by decide +kernel⟩
set_option maxHeartbeats 4000000 in
set_option maxRecDepth 100000 in
theorem m_Jxf58ca_isNaN_12338 (l : Launch) (x0 : UInt32) (P : Int32 → Prop) (hF : wp_Jxf58ca_isNaN_12338 x0 P) : Met l yJxf58ca_isNaN_12338 (ws_ yJxf58ca_isNaN_12338 cJxf58ca_isNaN_12338 1 (some .boolean)) ({ frames := 0, cells := 0, slots := 0, locals := 0 } : Room) (va_Pc [.float x0] (fun _ => True)) (vp_Si P) 0 0 (fun _ => False) := by
  refine Met.ofCxF (own := RJxf58ca) (by decide +kernel) rfl (Nat.le_of_ble_eq_true rfl) ?_
  intro p e s m below meth c hC hv ls hl
  obtain ⟨hx, hb, hr, hml, hown, hts, hlocks⟩ := hC
  have hl : lv_has ls 1 [(0, .float x0)] := hl
  unfold wp_Jxf58ca_isNaN_12338 at hF
  refine lv_fload_n hx hb dJxf58ca_isNaN_12338_0 rfl (lv_at hl 0 rfl) ?_
  refine lv_fload_n hx hb dJxf58ca_isNaN_12338_1 rfl (lv_at hl 0 rfl) ?_
  refine lv_fcmp hx hb dJxf58ca_isNaN_12338_2 ?_
  refine lv_if_eq (tgt := 10) hx hb dJxf58ca_isNaN_12338_3 (by decide) (fun cz => ?_) (fun cz => ?_)
  · have hF := hF.1 cz
    refine lv_iconst (v := 0) hx hb dJxf58ca_isNaN_12338_10 (by decide) ?_
    exact W.zret (v := 0) hx hb hr rfl (fun t ht hW => ⟨0, rfl, hF, ht⟩) (fun q hq => absurd hq List.not_mem_nil) dJxf58ca_isNaN_12338_11
  · have hF := hF.2 cz
    refine lv_iconst (v := 1) hx hb dJxf58ca_isNaN_12338_6 (by decide) ?_
    refine lv_goto (tgt := 11) hx hb dJxf58ca_isNaN_12338_7 (by decide) ?_
    exact W.zret (v := 1) hx hb hr rfl (fun t ht hW => ⟨1, rfl, hF, ht⟩) (fun q hq => absurd hq List.not_mem_nil) dJxf58ca_isNaN_12338_11
theorem dJxf58ca_floatToIntBits_5c35a_0 : decode cJxf58ca_floatToIntBits_5c35a 0 = .ok (.fload_n 0, 1) := by decide +kernel
theorem dJxf58ca_floatToIntBits_5c35a_1 : decode cJxf58ca_floatToIntBits_5c35a 1 = .ok (.invokestatic 59, 3) := by decide +kernel
theorem dJxf58ca_floatToIntBits_5c35a_4 : decode cJxf58ca_floatToIntBits_5c35a 4 = .ok (.ifCond .ne 8, 3) := by decide +kernel
theorem dJxf58ca_floatToIntBits_5c35a_7 : decode cJxf58ca_floatToIntBits_5c35a 7 = .ok (.fload_n 0, 1) := by decide +kernel
theorem dJxf58ca_floatToIntBits_5c35a_8 : decode cJxf58ca_floatToIntBits_5c35a 8 = .ok (.invokestatic 74, 3) := by decide +kernel
theorem dJxf58ca_floatToIntBits_5c35a_11 : decode cJxf58ca_floatToIntBits_5c35a 11 = .ok (.ireturn, 1) := by decide +kernel
theorem dJxf58ca_floatToIntBits_5c35a_12 : decode cJxf58ca_floatToIntBits_5c35a 12 = .ok (.ldc 77, 2) := by decide +kernel
theorem dJxf58ca_floatToIntBits_5c35a_14 : decode cJxf58ca_floatToIntBits_5c35a 14 = .ok (.ireturn, 1) := by decide +kernel
def wp_Jxf58ca_floatToIntBits_5c35a (x0 : UInt32) (P : Int32 → Prop) : Prop := (wp_Jxf58ca_isNaN_12338 x0 (fun r1 => ((¬ r1 = 0 → (P 2143289344)) ∧ (r1 = 0 → (P x0.toInt32)))))
theorem k_Jxf58ca_floatToIntBits_5c35a : KS yJxf58ca_floatToIntBits_5c35a cJxf58ca_floatToIntBits_5c35a 1 (some .int) 1 := ⟨q1829, q35, q1830, by decide +kernel⟩
set_option maxHeartbeats 4000000 in
set_option maxRecDepth 100000 in
theorem m_Jxf58ca_floatToIntBits_5c35a (l : Launch) (x0 : UInt32) (P : Int32 → Prop) (hF : wp_Jxf58ca_floatToIntBits_5c35a x0 P) : Met l yJxf58ca_floatToIntBits_5c35a (ws_ yJxf58ca_floatToIntBits_5c35a cJxf58ca_floatToIntBits_5c35a 1 (some .int)) ({ frames := 1, cells := 0, slots := 0, locals := 21 } : Room) (va_Pc [.float x0] (fun _ => True)) (vp_Si P) 0 0 (fun _ => False) := by
  refine Met.ofCxF (own := RJxf58ca) (by decide +kernel) rfl (Nat.le_of_ble_eq_true rfl) ?_
  intro p e s m below meth c hC hv ls hl
  obtain ⟨hx, hb, hr, hml, hown, hts, hlocks⟩ := hC
  have hl : lv_has ls 1 [(0, .float x0)] := hl
  unfold wp_Jxf58ca_floatToIntBits_5c35a at hF
  refine lv_fload_n hx hb dJxf58ca_floatToIntBits_5c35a_0 rfl (lv_at hl 0 rfl) ?_
  refine cpSi (As := [.float x0]) (rest := []) ⟨hx, hb, hr, hml, hown, hts, hlocks⟩ (m_Jxf58ca_isNaN_12338 l x0 _ hF) k_Jxf58ca_isNaN_12338 q1831 ⟨rfl, rfl⟩ ⟨Nat.le_of_ble_eq_true rfl, Nat.le_of_ble_eq_true rfl⟩ hl.1 rfl rfl (Nat.le_of_ble_eq_true rfl) dJxf58ca_floatToIntBits_5c35a_1 ⟨Nat.le_of_ble_eq_true rfl, Nat.le_of_ble_eq_true rfl⟩ (fun r1 hF => ?_)
  refine lv_if_ne (tgt := 12) hx hb dJxf58ca_floatToIntBits_5c35a_4 (by decide) (fun cz => ?_) (fun cz => ?_)
  · have hF := hF.1 cz
    refine lv_ldc (v := 2143289344) hx hb hown (hts _ q1837) dJxf58ca_floatToIntBits_5c35a_12 ?_
    exact W.iret (v := 2143289344) hx hb hr (fun t ht hW => ⟨2143289344, rfl, hF, ht⟩) (fun q hq => absurd hq List.not_mem_nil) dJxf58ca_floatToIntBits_5c35a_14
  · have hF := hF.2 cz
    refine lv_fload_n hx hb dJxf58ca_floatToIntBits_5c35a_7 rfl (lv_at hl 0 rfl) ?_
    refine vn_f2i hx hb (by rw [hml]; exact hl.1.symm) hown (hts _ q1834) (hts _ q1836) (hts _ q1835) (hts _ q35) (Nat.le_of_ble_eq_true rfl) (Nat.le_of_ble_eq_true rfl) dJxf58ca_floatToIntBits_5c35a_8 ?_
    exact W.iret (v := x0.toInt32) hx hb hr (fun t ht hW => ⟨x0.toInt32, rfl, hF, ht⟩) (fun q hq => absurd hq List.not_mem_nil) dJxf58ca_floatToIntBits_5c35a_11
theorem dX4_pegBits_0 : decode cX4_pegBits 0 = .ok (.aload_n 0, 1) := by decide +kernel
theorem dX4_pegBits_1 : decode cX4_pegBits 1 = .ok (.aload_n 0, 1) := by decide +kernel
theorem dX4_pegBits_2 : decode cX4_pegBits 2 = .ok (.getfield 64, 3) := by decide +kernel
theorem dX4_pegBits_5 : decode cX4_pegBits 5 = .ok (.ifCond .ne 7, 3) := by decide +kernel
theorem dX4_pegBits_8 : decode cX4_pegBits 8 = .ok (.iconst 1, 1) := by decide +kernel
theorem dX4_pegBits_9 : decode cX4_pegBits 9 = .ok (.goto 4, 3) := by decide +kernel
theorem dX4_pegBits_12 : decode cX4_pegBits 12 = .ok (.iconst 0, 1) := by decide +kernel
theorem dX4_pegBits_13 : decode cX4_pegBits 13 = .ok (.invokevirtual 100, 3) := by decide +kernel
theorem dX4_pegBits_16 : decode cX4_pegBits 16 = .ok (.ifCond .eq 7, 3) := by decide +kernel
theorem dX4_pegBits_19 : decode cX4_pegBits 19 = .ok (.iconst 0, 1) := by decide +kernel
theorem dX4_pegBits_20 : decode cX4_pegBits 20 = .ok (.goto 20, 3) := by decide +kernel
theorem dX4_pegBits_23 : decode cX4_pegBits 23 = .ok (.aload_n 0, 1) := by decide +kernel
theorem dX4_pegBits_24 : decode cX4_pegBits 24 = .ok (.getfield 120, 3) := by decide +kernel
theorem dX4_pegBits_27 : decode cX4_pegBits 27 = .ok (.invokestatic 179, 3) := by decide +kernel
theorem dX4_pegBits_30 : decode cX4_pegBits 30 = .ok (.i2f, 1) := by decide +kernel
theorem dX4_pegBits_31 : decode cX4_pegBits 31 = .ok (.aload_n 0, 1) := by decide +kernel
theorem dX4_pegBits_32 : decode cX4_pegBits 32 = .ok (.getfield 64, 3) := by decide +kernel
theorem dX4_pegBits_35 : decode cX4_pegBits 35 = .ok (.i2f, 1) := by decide +kernel
theorem dX4_pegBits_36 : decode cX4_pegBits 36 = .ok (.fdiv, 1) := by decide +kernel
theorem dX4_pegBits_37 : decode cX4_pegBits 37 = .ok (.invokestatic 276, 3) := by decide +kernel
theorem dX4_pegBits_40 : decode cX4_pegBits 40 = .ok (.ireturn, 1) := by decide +kernel
def wp_X4_pegBits_J13 (σ : SX) (P : Int32 → SX → Prop) (t1_13 : Int32) : Prop := (wp_X4_fails σ t1_13 (fun r13 s13 => ((r13 = 0 → (wp_J6_bitCount_0f7a4 (s13.1 2) (fun r27 => (vf_n32 (FP.fdiv (FP.i2f r27) (FP.i2f (s13.1 0))) ∧ (wp_Jxf58ca_floatToIntBits_5c35a (FP.fdiv (FP.i2f r27) (FP.i2f (s13.1 0))) (fun r37 => (P r37 s13))))))) ∧ (¬ r13 = 0 → (P 0 s13)))))
def wp_X4_pegBits (σ : SX) (P : Int32 → SX → Prop) : Prop := ((¬ (σ.1 0) = 0 → (wp_X4_pegBits_J13 σ P 0)) ∧ ((σ.1 0) = 0 → (wp_X4_pegBits_J13 σ P 1)))
theorem k_X4_pegBits : KV RX4 yX4_pegBits cX4_pegBits 1 (some .int) 0 := ⟨q1825, q1826, q5, q1827, by decide +kernel⟩
set_option maxHeartbeats 4000000 in
set_option maxRecDepth 100000 in
theorem m_X4_pegBits (l : Launch) (dC : Nat → ClassId) (dI : Nat → Nat → Nat) (h : Nat → Nat) (cy : Nat → ClassId) (sz : Nat) (σ : SX) (P : Int32 → SX → Prop) (hF : wp_X4_pegBits σ P) : Met l yX4_pegBits (ws_ yX4_pegBits cX4_pegBits 1 (some .int)) ({ frames := 2, cells := 0, slots := 0, locals := 41 } : Room) (va_Pc [.ref (h 0)] (fun U => U.heap.size = sz ∧ va_P (dC, dI) classes (wC h cy σ) U.heap ∧ kwX dC dI cy U ∧ va_D (fun _ => True) (wC h cy σ))) (va_Qi (fun r u => P r u) (fun (u : SX) t => va_P (dC, dI) classes (wC h cy u) t.heap ∧ kwX dC dI cy t ∧ va_D (va_A (wC h cy σ) sz) (wC h cy u)) (va_A (wC h cy σ) sz)) 0 0 (va_A (wC h cy σ) sz) := by
  refine Met.ofCx (own := RX4) (by decide) rfl (Nat.le_of_ble_eq_true rfl) ?_
  intro p e s m below meth c hC hv ls hl
  obtain ⟨hx, hb, hr, hml, hown, hts, hlocks⟩ := hC
  have hl : lv_has ls 1 [(0, .ref (h 0))] := hl
  obtain ⟨hsz, hP, hK, hD0⟩ := hv
  subst hsz
  have hD := hD0.self (sz := s.heap.size)
  generalize hAe : va_A (wC h cy σ) s.heap.size = A at hD ⊢
  have hA : ∀ q : Nat, s.heap.size ≤ q → A q := fun q h => by rw [← hAe]; exact Or.inr h
  have hS : va_S A s.heap s.heap [] := va_S.rf
  clear hAe
  unfold wp_X4_pegBits at hF
  refine lv_aload_n hx hb dX4_pegBits_0 rfl (lv_at hl 0 rfl) ?_
  refine lv_aload_n hx hb dX4_pegBits_1 rfl (lv_at hl 0 rfl) ?_
  refine va_get (D := (dC, dI)) (ci := 4) (v := .int (σ.1 0)) (C := RX4) (T := TX4) (N := 19) hx hb hts in_X4 hown hK.1 hP 0 rfl rfl 13 (by decide) (hts _ q963) (fun _ h9 => h9) rfl dX4_pegBits_2 ?_
  have hJ13 : ∀ (t1_13 : Int32), wp_X4_pegBits_J13 σ P t1_13 → ∀ (H : Heap) (locs : List Loc), va_P (dC, dI) classes (wC h cy σ) H → va_D A (wC h cy σ) → va_S A s.heap H locs → ∀ (ls : Array Slot), lv_has ls 1 [(0, .ref (h 0))] → W p l e ({ frames := 2, cells := 0, slots := 0, locals := 41 } : Room) s m ([.ref (h 0)] : List Value).toArray below meth c H locs 0 0 (MQ below (va_Qi (fun r u => P r u) (fun (u : SX) t => va_P (dC, dI) classes (wC h cy u) t.heap ∧ kwX dC dI cy t ∧ va_D A (wC h cy u)) A) ([.ref (h 0)] : List Value).toArray s 0 0 A) (F0 m 13 ls [.int t1_13, .ref (h 0)]) := by
    intro t1_13 hF H locs hP hD hS ls hl
    unfold wp_X4_pegBits_J13 at hF
    have hFc := va_free (wc := wC h cy σ) hD hS hA [0, 1, 2, 3, 4, 5, 6, 7, 8, 9] rfl
    refine cwVi (q0 := 0) (As := [.int t1_13]) (rest := []) ⟨hx, hb, hr, hml, hown, hts, hlocks⟩ hK hP hD rfl rfl hS hFc (m_X4_fails l dC dI h cy _ σ t1_13 _ hF) k_X4_fails q1102 ⟨rfl, rfl⟩ ⟨Nat.le_of_ble_eq_true rfl, Nat.le_of_ble_eq_true rfl⟩ hl.1 rfl rfl (Nat.le_of_ble_eq_true rfl) dX4_pegBits_13 ⟨Nat.le_of_ble_eq_true rfl, Nat.le_of_ble_eq_true rfl⟩ (fun r13 u H1 locs hF hP1 hD1 hk1 hS => ?_)
    obtain ⟨s13, rfl⟩ : ∃ z, z = u := ⟨_, rfl⟩
    have hP := hP1
    have hD := hD1.weaken (fun _ q _ h => hFc q.1 h)
    generalize H1 = H at hP hS ⊢
    have hP : va_P (dC, dI) classes (wC h cy s13) H := hP
    have hD : va_D A (wC h cy s13) := hD
    refine lv_if_eq (tgt := 23) hx hb dX4_pegBits_16 (by decide) (fun cz => ?_) (fun cz => ?_)
    · have hF := hF.1 cz
      refine lv_aload_n hx hb dX4_pegBits_23 rfl (lv_at hl 0 rfl) ?_
      refine va_get (D := (dC, dI)) (ci := 4) (v := .int (s13.1 2)) (C := RX4) (T := TX4) (N := 19) hx hb hts in_X4 hown hK.1 hP 0 rfl rfl 15 (by decide) (hts _ q965) (fun _ h9 => h9) rfl dX4_pegBits_24 ?_
      refine cpSi (As := [.int (s13.1 2)]) (rest := []) ⟨hx, hb, hr, hml, hown, hts, hlocks⟩ (m_J6_bitCount_0f7a4 l (s13.1 2) _ hF) k_J6_bitCount_0f7a4 q1319 ⟨rfl, rfl⟩ ⟨Nat.le_of_ble_eq_true rfl, Nat.le_of_ble_eq_true rfl⟩ hl.1 rfl rfl (Nat.le_of_ble_eq_true rfl) dX4_pegBits_27 ⟨Nat.le_of_ble_eq_true rfl, Nat.le_of_ble_eq_true rfl⟩ (fun r27 hF => ?_)
      refine lv_i2f hx hb dX4_pegBits_30 ?_
      refine lv_aload_n hx hb dX4_pegBits_31 rfl (lv_at hl 0 rfl) ?_
      refine va_get (D := (dC, dI)) (ci := 4) (v := .int (s13.1 0)) (C := RX4) (T := TX4) (N := 19) hx hb hts in_X4 hown hK.1 hP 0 rfl rfl 13 (by decide) (hts _ q963) (fun _ h9 => h9) rfl dX4_pegBits_32 ?_
      refine lv_i2f hx hb dX4_pegBits_35 ?_
      have hO := hF.1
      have hF := hF.2
      refine lv_fdiv hx hb dX4_pegBits_36 hO ?_
      refine cpSi (As := [.float (FP.fdiv (FP.i2f r27) (FP.i2f (s13.1 0)))]) (rest := []) ⟨hx, hb, hr, hml, hown, hts, hlocks⟩ (m_Jxf58ca_floatToIntBits_5c35a l (FP.fdiv (FP.i2f r27) (FP.i2f (s13.1 0))) _ hF) k_Jxf58ca_floatToIntBits_5c35a q1828 ⟨rfl, rfl⟩ ⟨Nat.le_of_ble_eq_true rfl, Nat.le_of_ble_eq_true rfl⟩ hl.1 rfl rfl (Nat.le_of_ble_eq_true rfl) dX4_pegBits_37 ⟨Nat.le_of_ble_eq_true rfl, Nat.le_of_ble_eq_true rfl⟩ (fun r37 hF => ?_)
      exact W.iret (v := r37) hx hb hr (fun t ht hW => ⟨⟨r37, s13, rfl, hF, by rw [ht]; exact hP, hK.warm hW, hD⟩, hS.F ht⟩) hS.2.2 dX4_pegBits_40
    · have hF := hF.2 cz
      refine lv_iconst (v := 0) hx hb dX4_pegBits_19 (by decide) ?_
      refine lv_goto (tgt := 40) hx hb dX4_pegBits_20 (by decide) ?_
      exact W.iret (v := 0) hx hb hr (fun t ht hW => ⟨⟨0, s13, rfl, hF, by rw [ht]; exact hP, hK.warm hW, hD⟩, hS.F ht⟩) hS.2.2 dX4_pegBits_40
  refine lv_if_ne (tgt := 12) hx hb dX4_pegBits_5 (by decide) (fun cz => ?_) (fun cz => ?_)
  · have hF := hF.1 cz
    refine lv_iconst (v := 0) hx hb dX4_pegBits_12 (by decide) ?_
    exact hJ13 0 hF _ _ hP hD hS _ (lv_sub hl [0] rfl)
  · have hF := hF.2 cz
    refine lv_iconst (v := 1) hx hb dX4_pegBits_8 (by decide) ?_
    refine lv_goto (tgt := 13) hx hb dX4_pegBits_9 (by decide) ?_
    exact hJ13 1 hF _ _ hP hD hS _ (lv_sub hl [0] rfl)
