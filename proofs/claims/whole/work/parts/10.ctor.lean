theorem arr_same0 {dC : Nat → ClassId} {dI : Nat → Nat → Nat} {cy : Nat → ClassId} {s : State} {cA : ClassId} (h : va_K (dC, dI) classes (tysX cy ++ [(cA, .int)]) s) : cA = cy 0 := by
  have h1 := (h.2 5 (cA, .int) rfl).2
  have h2 := (h.2 0 (cy 0, .int) rfl).2
  exact Option.some.inj (h1.symm.trans h2)
theorem arr_same1 {dC : Nat → ClassId} {dI : Nat → Nat → Nat} {cy : Nat → ClassId} {s : State} {cA : ClassId} (h : va_K (dC, dI) classes (tysX cy ++ [(cA, .long)]) s) : cA = cy 1 := by
  have h1 := (h.2 5 (cA, .long) rfl).2
  have h2 := (h.2 1 (cy 1, .long) rfl).2
  exact Option.some.inj (h1.symm.trans h2)
abbrev PcI (dC : Nat → ClassId) (dI : Nat → Nat → Nat) (cy : Nat → ClassId) (wc : va_W) (sz : Nat) (U : State) : Prop := U.heap.size = sz ∧ va_P (dC, dI) classes wc U.heap ∧ kwX dC dI cy U ∧ va_D (fun _ => True) wc
theorem preI {s : State} {H : Heap} {dC : Nat → ClassId} {dI : Nat → Nat → Nat} {cy : Nat → ClassId} {wc : va_W} {b : Nat} {As : List Value} {A1 : Nat → Prop} (hK : kwX dC dI cy s) (hP : va_P (dC, dI) classes wc H) (hD : va_D A1 wc) :
    PreS s H (va_Pc (.ref b :: As) (PcI dC dI cy wc H.size)) (.ref b :: As) :=
  ⟨fun a U g mk q => ⟨q.1, q.2.1, q.2.2.1, q.2.2.2.1.calling, q.2.2.2.2⟩, fun U hU hW => ⟨rfl, by rw [hU], by rw [hU]; exact hP, hK.warm hW, hD.weaken (fun _ _ _ _ => trivial)⟩⟩
theorem Met.ofCxN {l : Launch} {y : MethodName} {rm : Room} {Pc' : State → Prop} {Qc : Array Value → State → Outcome → State → Prop} {mc ms : Nat} {free : Addr → Prop} {cc : ByteArray} {nL : Nat} {ret : Option FieldType} {av : List Value} {own : String}
    (hy : plainName y.cls = true) (ho : y.cls = own) (hi : y.name = "<init>") (hn : (lg_sl av).length ≤ nL)
    (body : ∀ (p : Program) (e : Env) (s : State) (m : MethodId) (below : List Frame) (meth : Method) (c : Code), Cx p s m av.toArray meth c own cc nL ret → meth.name = "<init>" → Pc' s → ∀ ls : Array Slot, lv_has ls nL (lv_args 0 av) →
      W p l e rm s m av.toArray below meth c s.heap [] 0 0 (MQ below Qc av.toArray s mc ms free) (F0 m 0 ls [])) :
    Met l y (ws_ y cc nL ret) rm (va_Pc av Pc') Qc mc ms free := by
  refine Met.ofW (cc := cc) (maxL := nL) (ret := ret) hy rfl ?_
  intro p e s m args below meth c s₁ B hml hv
  obtain ⟨rfl, hv⟩ := hv
  have hts := atoms_spec (ws := ws_ y cc nL ret) B.pre
  have hC : Cx p s m av.toArray meth c own cc nL ret := ⟨B.exec, B.bytes, B.returns, hml, by rw [← ho]; exact findClass_of_methodNamed B.named, fun w h => hts w (List.mem_cons_of_mem _ h), B.notSynchronized⟩
  rw [lg_entry_eq]
  exact body p e s m below meth c hC ((name_of_methodNamed B.named B.method).1.trans hi) hv _ (lv_entry av hn)

/-- a new house: a square board, no holes, no walk -/
def sgm0 : SX := (fun j => bif Nat.beq j 0 then 115 else bif Nat.beq j 8 then -1 else 0, fun _ _ => 0, fun _ => 0)

theorem dX1_init_0 : decode cX1_init 0 = .ok (.aload_n 0, 1) := by decide +kernel
theorem dX1_init_1 : decode cX1_init 1 = .ok (.invokespecial 3, 3) := by decide +kernel
theorem dX1_init_4 : decode cX1_init 4 = .ok (.aload_n 0, 1) := by decide +kernel
theorem dX1_init_5 : decode cX1_init 5 = .ok (.iload_n 1, 1) := by decide +kernel
theorem dX1_init_6 : decode cX1_init 6 = .ok (.ifCond .ge 7, 3) := by decide +kernel
theorem dX1_init_9 : decode cX1_init 9 = .ok (.iconst 0, 1) := by decide +kernel
theorem dX1_init_10 : decode cX1_init 10 = .ok (.goto 4, 3) := by decide +kernel
theorem dX1_init_13 : decode cX1_init 13 = .ok (.iload_n 1, 1) := by decide +kernel
theorem dX1_init_14 : decode cX1_init 14 = .ok (.newarray .int, 2) := by decide +kernel
theorem dX1_init_16 : decode cX1_init 16 = .ok (.putfield 9, 3) := by decide +kernel
theorem dX1_init_19 : decode cX1_init 19 = .ok (.return_, 1) := by decide +kernel
set_option maxHeartbeats 4000000 in
set_option maxRecDepth 100000 in
theorem m_X1_init (l : Launch) (dC : Nat → ClassId) (dI : Nat → Nat → Nat) (h0 : Nat) (cy : Nat → ClassId) (sz : Nat) (x1 : Int32) (cap : Nat) (hroom : 0 ≤ x1) (hpos : ¬ x1 < 0) (hcap : x1.toNatClampNeg = cap) (hbyt : cap * 4 ≤ 536870912) : Met l yX1_init (ws_ yX1_init cX1_init 2 none) ({ frames := 1, cells := 1, slots := cap, locals := 32 } : Room) (va_Pc [.ref h0, .int x1] (PcI dC dI cy ([(h0, .inr (1, [.null, .int 0]))]) sz)) (va_Qv (fun _ => True) (fun (_ : Unit) t => ∃ (bh0 : Nat), va_P (dC, dI) classes ([(h0, .inr (1, [.ref bh0, .int 0])), (bh0, .inl (cy 0, cap, .inl (fun _ => 0)))]) t.heap ∧ va_D (va_A ([(h0, .inr (1, [.null, .int 0]))]) sz) ([(h0, .inr (1, [.ref bh0, .int 0])), (bh0, .inl (cy 0, cap, .inl (fun _ => 0)))])) (va_A ([(h0, .inr (1, [.null, .int 0]))]) sz)) 1 cap (va_A ([(h0, .inr (1, [.null, .int 0]))]) sz) := by
  refine Met.ofCxN (own := RX1) (by decide) rfl rfl (Nat.le_of_ble_eq_true rfl) ?_
  intro p e s m below meth c hC hin hv ls hl
  obtain ⟨hx, hb, hr, hml, hown, hts, hlocks⟩ := hC
  have hl : lv_has ls 2 [(0, .ref h0), (1, .int x1)] := hl
  obtain ⟨hsz, hP, hK, hD0⟩ := hv
  subst hsz
  have hD := hD0.self (sz := s.heap.size)
  generalize hAe : va_A ([(h0, .inr (1, [.null, .int 0]))]) s.heap.size = A at hD ⊢
  have hA : ∀ q : Nat, s.heap.size ≤ q → A q := fun q h => by rw [← hAe]; exact Or.inr h
  have hS : va_S A s.heap s.heap [] := va_S.rf
  clear hAe
  have hslt : 0 + cap ≤ cap := by omega
  refine lv_aload_n hx hb dX1_init_0 rfl (lv_at hl 0 rfl) ?_
  refine W.objInit hx hb hown (hts _ q55) (hts _ q42) (hts _ q43) rfl (by rw [hml]; exact hl.1) rfl dX1_init_1 (Nat.le_of_ble_eq_true rfl) (Nat.le_of_ble_eq_true rfl) ?_
  refine W.eq (g2 := F0 m 4 ls []) rfl ?_
  refine lv_aload_n hx hb dX1_init_4 rfl (lv_at hl 0 rfl) ?_
  refine lv_iload_n hx hb dX1_init_5 rfl (lv_at hl 1 rfl) ?_
  refine lv_if_ge (tgt := 13) hx hb dX1_init_6 (by decide) (fun cz => ?_) (fun cz => absurd hroom cz)
  refine lv_iload_n hx hb dX1_init_13 rfl (lv_at hl 1 rfl) ?_
  refine va_newa (atype := .int) (ty := .int) (N' := cap) (a0 := (cap, .inl (fun _ => 0))) hx hb (hts _ q63) rfl hK.1 hP hD hS hA (fun _ => rfl) hpos hcap hbyt (Nat.le_of_ble_eq_true rfl) hslt dX1_init_14 (fun a14 cA H hK1 hP hD hS => ?_)
  have ec : cA = cy 0 := arr_same0 hK1
  subst ec
  have hP : va_P (dC, dI) classes ([(h0, .inr (1, [.null, .int 0])), (a14, .inl (cy 0, cap, .inl (fun _ => 0)))]) H := hP
  have hD : va_D A ([(h0, .inr (1, [.null, .int 0])), (a14, .inl (cy 0, cap, .inl (fun _ => 0)))]) := hD
  refine va_putF (D := (dC, dI)) (ci := 1) (v := .ref a14) (ty := .array .int) (C := RX1) (T := TX1) (N := 2) hx hb hts in_X1 tyX1 tyX1_ok nmX1 hown hK.1 hP hD hS 0 rfl rfl 0 (by decide) (hts _ q56) (fun _ h9 => h9) rfl hin rfl (by decide +kernel) rfl rfl (Nat.le_of_ble_eq_true rfl) dX1_init_16 (fun H locs hP hD hS => ?_)
  have hP : va_P (dC, dI) classes ([(h0, .inr (1, [.ref a14, .int 0])), (a14, .inl (cy 0, cap, .inl (fun _ => 0)))]) H := hP
  have hD : va_D A ([(h0, .inr (1, [.ref a14, .int 0])), (a14, .inl (cy 0, cap, .inl (fun _ => 0)))]) := hD
  have hP9 := hP.sub (ws' := [(h0, .inr (1, [.ref a14, .int 0])), (a14, .inl (cy 0, cap, .inl (fun _ => 0)))]) [0, 1] rfl
  have hD9 := hD.sub (ws' := [(h0, .inr (1, [.ref a14, .int 0])), (a14, .inl (cy 0, cap, .inl (fun _ => 0)))]) [0, 1] (by decide) rfl
  refine W.widen (k := 1) (n := cap) (Nat.le_of_ble_eq_true rfl) (by omega) ?_
  exact W.vret hx hb hr (fun t ht hW => ⟨⟨(), rfl, trivial, a14, by rw [ht]; exact hP9, hD9⟩, hS.F ht⟩) hS.2.2 dX1_init_19
theorem dX0_init_0 : decode cX0_init 0 = .ok (.aload_n 0, 1) := by decide +kernel
theorem dX0_init_1 : decode cX0_init 1 = .ok (.invokespecial 3, 3) := by decide +kernel
theorem dX0_init_4 : decode cX0_init 4 = .ok (.aload_n 0, 1) := by decide +kernel
theorem dX0_init_5 : decode cX0_init 5 = .ok (.bipush 115, 2) := by decide +kernel
theorem dX0_init_7 : decode cX0_init 7 = .ok (.putfield 9, 3) := by decide +kernel
theorem dX0_init_10 : decode cX0_init 10 = .ok (.aload_n 0, 1) := by decide +kernel
theorem dX0_init_11 : decode cX0_init 11 = .ok (.bipush 25, 2) := by decide +kernel
theorem dX0_init_13 : decode cX0_init 13 = .ok (.newarray .int, 2) := by decide +kernel
theorem dX0_init_15 : decode cX0_init 15 = .ok (.putfield 15, 3) := by decide +kernel
theorem dX0_init_18 : decode cX0_init 18 = .ok (.aload_n 0, 1) := by decide +kernel
theorem dX0_init_19 : decode cX0_init 19 = .ok (.new 19, 3) := by decide +kernel
theorem dX0_init_22 : decode cX0_init 22 = .ok (.dup, 1) := by decide +kernel
theorem dX0_init_23 : decode cX0_init 23 = .ok (.bipush 13, 2) := by decide +kernel
theorem dX0_init_25 : decode cX0_init 25 = .ok (.invokespecial 21, 3) := by decide +kernel
theorem dX0_init_28 : decode cX0_init 28 = .ok (.putfield 24, 3) := by decide +kernel
theorem dX0_init_31 : decode cX0_init 31 = .ok (.aload_n 0, 1) := by decide +kernel
theorem dX0_init_32 : decode cX0_init 32 = .ok (.new 19, 3) := by decide +kernel
theorem dX0_init_35 : decode cX0_init 35 = .ok (.dup, 1) := by decide +kernel
theorem dX0_init_36 : decode cX0_init 36 = .ok (.bipush 104, 2) := by decide +kernel
theorem dX0_init_38 : decode cX0_init 38 = .ok (.invokespecial 21, 3) := by decide +kernel
theorem dX0_init_41 : decode cX0_init 41 = .ok (.putfield 28, 3) := by decide +kernel
theorem dX0_init_44 : decode cX0_init 44 = .ok (.aload_n 0, 1) := by decide +kernel
theorem dX0_init_45 : decode cX0_init 45 = .ok (.new 19, 3) := by decide +kernel
theorem dX0_init_48 : decode cX0_init 48 = .ok (.dup, 1) := by decide +kernel
theorem dX0_init_49 : decode cX0_init 49 = .ok (.bipush 104, 2) := by decide +kernel
theorem dX0_init_51 : decode cX0_init 51 = .ok (.invokespecial 21, 3) := by decide +kernel
theorem dX0_init_54 : decode cX0_init 54 = .ok (.putfield 31, 3) := by decide +kernel
theorem dX0_init_57 : decode cX0_init 57 = .ok (.aload_n 0, 1) := by decide +kernel
theorem dX0_init_58 : decode cX0_init 58 = .ok (.new 19, 3) := by decide +kernel
theorem dX0_init_61 : decode cX0_init 61 = .ok (.dup, 1) := by decide +kernel
theorem dX0_init_62 : decode cX0_init 62 = .ok (.bipush 104, 2) := by decide +kernel
theorem dX0_init_64 : decode cX0_init 64 = .ok (.invokespecial 21, 3) := by decide +kernel
theorem dX0_init_67 : decode cX0_init 67 = .ok (.putfield 34, 3) := by decide +kernel
theorem dX0_init_70 : decode cX0_init 70 = .ok (.aload_n 0, 1) := by decide +kernel
theorem dX0_init_71 : decode cX0_init 71 = .ok (.new 19, 3) := by decide +kernel
theorem dX0_init_74 : decode cX0_init 74 = .ok (.dup, 1) := by decide +kernel
theorem dX0_init_75 : decode cX0_init 75 = .ok (.bipush 104, 2) := by decide +kernel
theorem dX0_init_77 : decode cX0_init 77 = .ok (.invokespecial 21, 3) := by decide +kernel
theorem dX0_init_80 : decode cX0_init 80 = .ok (.putfield 37, 3) := by decide +kernel
theorem dX0_init_83 : decode cX0_init 83 = .ok (.return_, 1) := by decide +kernel
set_option maxHeartbeats 4000000 in
set_option maxRecDepth 100000 in
theorem m_X0_init (l : Launch) (dC : Nat → ClassId) (dI : Nat → Nat → Nat) (h0 : Nat) (cy : Nat → ClassId) (sz : Nat) : Met l yX0_init (ws_ yX0_init cX0_init 1 none) ({ frames := 2, cells := 11, slots := 464, locals := 60 } : Room) (va_Pc [.ref h0] (PcI dC dI cy ([(h0, .inr (0, [.int 0, .int 0, .null, .null, .null, .null, .null, .null]))]) sz)) (va_Qv (fun _ => True) (fun (_ : Unit) t => ∃ (b1 : Nat) (b2 : Nat) (b3 : Nat) (b4 : Nat) (b5 : Nat) (b6 : Nat) (b7 : Nat) (b8 : Nat) (b9 : Nat) (b10 : Nat) (b11 : Nat), va_P (dC, dI) classes ([(h0, .inr (0, [.int 115, .int 0, .ref b1, .ref b2, .ref b4, .ref b6, .ref b8, .ref b10])), (b1, .inl (cy 0, 25, .inl (fun _ => 0))), (b2, .inr (1, [.ref b3, .int 0])), (b3, .inl (cy 0, 13, .inl (fun _ => 0))), (b4, .inr (1, [.ref b5, .int 0])), (b5, .inl (cy 0, 104, .inl (fun _ => 0))), (b6, .inr (1, [.ref b7, .int 0])), (b7, .inl (cy 0, 104, .inl (fun _ => 0))), (b8, .inr (1, [.ref b9, .int 0])), (b9, .inl (cy 0, 104, .inl (fun _ => 0))), (b10, .inr (1, [.ref b11, .int 0])), (b11, .inl (cy 0, 104, .inl (fun _ => 0)))]) t.heap ∧ va_D (va_A ([(h0, .inr (0, [.int 0, .int 0, .null, .null, .null, .null, .null, .null]))]) sz) ([(h0, .inr (0, [.int 115, .int 0, .ref b1, .ref b2, .ref b4, .ref b6, .ref b8, .ref b10])), (b1, .inl (cy 0, 25, .inl (fun _ => 0))), (b2, .inr (1, [.ref b3, .int 0])), (b3, .inl (cy 0, 13, .inl (fun _ => 0))), (b4, .inr (1, [.ref b5, .int 0])), (b5, .inl (cy 0, 104, .inl (fun _ => 0))), (b6, .inr (1, [.ref b7, .int 0])), (b7, .inl (cy 0, 104, .inl (fun _ => 0))), (b8, .inr (1, [.ref b9, .int 0])), (b9, .inl (cy 0, 104, .inl (fun _ => 0))), (b10, .inr (1, [.ref b11, .int 0])), (b11, .inl (cy 0, 104, .inl (fun _ => 0)))])) (va_A ([(h0, .inr (0, [.int 0, .int 0, .null, .null, .null, .null, .null, .null]))]) sz)) 11 464 (va_A ([(h0, .inr (0, [.int 0, .int 0, .null, .null, .null, .null, .null, .null]))]) sz) := by
  refine Met.ofCxN (own := RX0) (by decide) rfl rfl (Nat.le_of_ble_eq_true rfl) ?_
  intro p e s m below meth c hC hin hv ls hl
  obtain ⟨hx, hb, hr, hml, hown, hts, hlocks⟩ := hC
  have hl : lv_has ls 1 [(0, .ref h0)] := hl
  obtain ⟨hsz, hP, hK, hD0⟩ := hv
  subst hsz
  have hD := hD0.self (sz := s.heap.size)
  generalize hAe : va_A ([(h0, .inr (0, [.int 0, .int 0, .null, .null, .null, .null, .null, .null]))]) s.heap.size = A at hD ⊢
  have hA : ∀ q : Nat, s.heap.size ≤ q → A q := fun q h => by rw [← hAe]; exact Or.inr h
  have hS : va_S A s.heap s.heap [] := va_S.rf
  clear hAe
  refine lv_aload_n hx hb dX0_init_0 rfl (lv_at hl 0 rfl) ?_
  refine W.objInit hx hb hown (hts _ q49) (hts _ q42) (hts _ q43) rfl (by rw [hml]; exact hl.1) rfl dX0_init_1 (Nat.le_of_ble_eq_true rfl) (Nat.le_of_ble_eq_true rfl) ?_
  refine W.eq (g2 := F0 m 4 ls []) rfl ?_
  refine lv_aload_n hx hb dX0_init_4 rfl (lv_at hl 0 rfl) ?_
  refine lv_bipush (v := 115) hx hb dX0_init_5 (by decide) ?_
  refine va_put (D := (dC, dI)) (ci := 0) (v := .int 115) (ty := .char) (C := RX0) (T := TX0) (N := 8) hx hb hts in_X0 tyX0 tyX0_ok nmX0 hown hK.1 hP hD hS 0 rfl rfl 0 (by decide) (hts _ q64) (fun _ h9 => h9) rfl (by decide +kernel) rfl rfl (Nat.le_of_ble_eq_true rfl) dX0_init_7 (fun H locs hP hD hS => ?_)
  have hP : va_P (dC, dI) classes ([(h0, .inr (0, [.int 115, .int 0, .null, .null, .null, .null, .null, .null]))]) H := hP
  have hD : va_D A ([(h0, .inr (0, [.int 115, .int 0, .null, .null, .null, .null, .null, .null]))]) := hD
  refine lv_aload_n hx hb dX0_init_10 rfl (lv_at hl 0 rfl) ?_
  refine lv_bipush (v := 25) hx hb dX0_init_11 (by decide) ?_
  refine va_newa (atype := .int) (ty := .int) (N' := 25) (a0 := (25, .inl (fun _ => 0))) hx hb (hts _ q63) rfl hK.1 hP hD hS hA (fun _ => rfl) (by decide) (by decide) (Nat.le_of_ble_eq_true rfl) (Nat.le_of_ble_eq_true rfl) (Nat.le_of_ble_eq_true rfl) dX0_init_13 (fun a13 cA H hK1 hP hD hS => ?_)
  have ec : cA = cy 0 := arr_same0 hK1
  subst ec
  have hP : va_P (dC, dI) classes ([(h0, .inr (0, [.int 115, .int 0, .null, .null, .null, .null, .null, .null])), (a13, .inl (cy 0, 25, .inl (fun _ => 0)))]) H := hP
  have hD : va_D A ([(h0, .inr (0, [.int 115, .int 0, .null, .null, .null, .null, .null, .null])), (a13, .inl (cy 0, 25, .inl (fun _ => 0)))]) := hD
  refine va_putF (D := (dC, dI)) (ci := 0) (v := .ref a13) (ty := .array .int) (C := RX0) (T := TX0) (N := 8) hx hb hts in_X0 tyX0 tyX0_ok nmX0 hown hK.1 hP hD hS 0 rfl rfl 2 (by decide) (hts _ q67) (fun _ h9 => h9) rfl hin rfl (by decide +kernel) rfl rfl (Nat.le_of_ble_eq_true rfl) dX0_init_15 (fun H locs hP hD hS => ?_)
  have hP : va_P (dC, dI) classes ([(h0, .inr (0, [.int 115, .int 0, .ref a13, .null, .null, .null, .null, .null])), (a13, .inl (cy 0, 25, .inl (fun _ => 0)))]) H := hP
  have hD : va_D A ([(h0, .inr (0, [.int 115, .int 0, .ref a13, .null, .null, .null, .null, .null])), (a13, .inl (cy 0, 25, .inl (fun _ => 0)))]) := hD
  refine lv_aload_n hx hb dX0_init_18 rfl (lv_at hl 0 rfl) ?_
  refine va_new (ci := 1) (fs := [.null, .int 0]) (C := RX1) (T := TX1) (N := 2) hx hb hts in_X1 tyX1 tyX1_ok hown (hts _ q50) (hts _ q51) (hts _ q3) hK.1 hP hD hS hA rfl (fun j hj => by rcases (show j = 0 ∨ j = 1 by omega) with rfl | rfl <;> rfl) (Nat.le_of_ble_eq_true rfl) (Nat.le_of_ble_eq_true rfl) dX0_init_19 (fun a19 H hP hD hS => ?_)
  have hP : va_P (dC, dI) classes ([(h0, .inr (0, [.int 115, .int 0, .ref a13, .null, .null, .null, .null, .null])), (a13, .inl (cy 0, 25, .inl (fun _ => 0))), (a19, .inr (1, [.null, .int 0]))]) H := hP
  have hD : va_D A ([(h0, .inr (0, [.int 115, .int 0, .ref a13, .null, .null, .null, .null, .null])), (a13, .inl (cy 0, 25, .inl (fun _ => 0))), (a19, .inr (1, [.null, .int 0]))]) := hD
  refine lv_dup hx hb dX0_init_22 rfl ?_
  refine lv_bipush (v := 13) hx hb dX0_init_23 (by decide) ?_
  have hPc := hP.sub (ws' := [(a19, .inr (1, [.null, .int 0]))]) [2] rfl
  have hDc := hD.sub (ws' := [(a19, .inr (1, [.null, .int 0]))]) [2] (by decide) rfl
  have hFc := va_free (wc := [(a19, .inr (1, [.null, .int 0]))]) hD hS hA [2] rfl
  refine va_callv (va_runI (As := [.int 13]) (rest := [.ref a19, .ref h0]) ⟨hx, hb, hml, hown, hts⟩ (m_X1_init l dC dI a19 cy _ 13 13 (by decide) (by decide) (by decide) (Nat.le_of_ble_eq_true rfl)) (cwI 1 hts (ws_good q54) rfl rfl rfl (hts _ q3) (hts _ q52) (hts _ q53) rfl (by decide +kernel) ⟨Nat.le_of_ble_eq_true rfl, Nat.le_of_ble_eq_true rfl⟩) (preI hK hPc hDc) rfl rfl hl.1 rfl (lv_room (Nat.le_of_ble_eq_true rfl)) dX0_init_25 ⟨Nat.le_of_ble_eq_true rfl, Nat.le_of_ble_eq_true rfl⟩) hS (fun q _ h => hFc q h) hFc (fun u t H1 locs ht hvm hw hB hz1 hk1 hS => ?_)
  obtain ⟨ba19, hP1, hD1⟩ := hB
  rw [ht] at hP1
  obtain ⟨hP, hD⟩ := va_join (wr := [(h0, .inr (0, [.int 115, .int 0, .ref a13, .null, .null, .null, .null, .null])), (a13, .inl (cy 0, 25, .inl (fun _ => 0)))]) (w1 := [(a19, .inr (1, [.ref ba19, .int 0])), (ba19, .inl (cy 0, 13, .inl (fun _ => 0)))]) hP hD [2] [0, 1] rfl rfl (by decide) (by decide) hk1 hFc hP1 hD1
  generalize H1 = H at hP hS ⊢
  have hP : va_P (dC, dI) classes ([(h0, .inr (0, [.int 115, .int 0, .ref a13, .null, .null, .null, .null, .null])), (a13, .inl (cy 0, 25, .inl (fun _ => 0))), (a19, .inr (1, [.ref ba19, .int 0])), (ba19, .inl (cy 0, 13, .inl (fun _ => 0)))]) H := hP
  have hD : va_D A ([(h0, .inr (0, [.int 115, .int 0, .ref a13, .null, .null, .null, .null, .null])), (a13, .inl (cy 0, 25, .inl (fun _ => 0))), (a19, .inr (1, [.ref ba19, .int 0])), (ba19, .inl (cy 0, 13, .inl (fun _ => 0)))]) := hD
  refine va_putF (D := (dC, dI)) (ci := 0) (v := .ref a19) (ty := .object "PegshoreHouse$Row") (C := RX0) (T := TX0) (N := 8) hx hb hts in_X0 tyX0 tyX0_ok nmX0 hown hK.1 hP hD hS 0 rfl rfl 3 (by decide) (hts _ q68) (fun _ h9 => h9) rfl hin rfl (by decide +kernel) rfl rfl (Nat.le_of_ble_eq_true rfl) dX0_init_28 (fun H locs hP hD hS => ?_)
  have hP : va_P (dC, dI) classes ([(h0, .inr (0, [.int 115, .int 0, .ref a13, .ref a19, .null, .null, .null, .null])), (a13, .inl (cy 0, 25, .inl (fun _ => 0))), (a19, .inr (1, [.ref ba19, .int 0])), (ba19, .inl (cy 0, 13, .inl (fun _ => 0)))]) H := hP
  have hD : va_D A ([(h0, .inr (0, [.int 115, .int 0, .ref a13, .ref a19, .null, .null, .null, .null])), (a13, .inl (cy 0, 25, .inl (fun _ => 0))), (a19, .inr (1, [.ref ba19, .int 0])), (ba19, .inl (cy 0, 13, .inl (fun _ => 0)))]) := hD
  refine lv_aload_n hx hb dX0_init_31 rfl (lv_at hl 0 rfl) ?_
  refine va_new (ci := 1) (fs := [.null, .int 0]) (C := RX1) (T := TX1) (N := 2) hx hb hts in_X1 tyX1 tyX1_ok hown (hts _ q50) (hts _ q51) (hts _ q3) hK.1 hP hD hS hA rfl (fun j hj => by rcases (show j = 0 ∨ j = 1 by omega) with rfl | rfl <;> rfl) (Nat.le_of_ble_eq_true rfl) (Nat.le_of_ble_eq_true rfl) dX0_init_32 (fun a32 H hP hD hS => ?_)
  have hP : va_P (dC, dI) classes ([(h0, .inr (0, [.int 115, .int 0, .ref a13, .ref a19, .null, .null, .null, .null])), (a13, .inl (cy 0, 25, .inl (fun _ => 0))), (a19, .inr (1, [.ref ba19, .int 0])), (ba19, .inl (cy 0, 13, .inl (fun _ => 0))), (a32, .inr (1, [.null, .int 0]))]) H := hP
  have hD : va_D A ([(h0, .inr (0, [.int 115, .int 0, .ref a13, .ref a19, .null, .null, .null, .null])), (a13, .inl (cy 0, 25, .inl (fun _ => 0))), (a19, .inr (1, [.ref ba19, .int 0])), (ba19, .inl (cy 0, 13, .inl (fun _ => 0))), (a32, .inr (1, [.null, .int 0]))]) := hD
  refine lv_dup hx hb dX0_init_35 rfl ?_
  refine lv_bipush (v := 104) hx hb dX0_init_36 (by decide) ?_
  have hPc := hP.sub (ws' := [(a32, .inr (1, [.null, .int 0]))]) [4] rfl
  have hDc := hD.sub (ws' := [(a32, .inr (1, [.null, .int 0]))]) [4] (by decide) rfl
  have hFc := va_free (wc := [(a32, .inr (1, [.null, .int 0]))]) hD hS hA [4] rfl
  refine va_callv (va_runI (As := [.int 104]) (rest := [.ref a32, .ref h0]) ⟨hx, hb, hml, hown, hts⟩ (m_X1_init l dC dI a32 cy _ 104 104 (by decide) (by decide) (by decide) (Nat.le_of_ble_eq_true rfl)) (cwI 1 hts (ws_good q54) rfl rfl rfl (hts _ q3) (hts _ q52) (hts _ q53) rfl (by decide +kernel) ⟨Nat.le_of_ble_eq_true rfl, Nat.le_of_ble_eq_true rfl⟩) (preI hK hPc hDc) rfl rfl hl.1 rfl (lv_room (Nat.le_of_ble_eq_true rfl)) dX0_init_38 ⟨Nat.le_of_ble_eq_true rfl, Nat.le_of_ble_eq_true rfl⟩) hS (fun q _ h => hFc q h) hFc (fun u t H1 locs ht hvm hw hB hz1 hk1 hS => ?_)
  obtain ⟨ba32, hP1, hD1⟩ := hB
  rw [ht] at hP1
  obtain ⟨hP, hD⟩ := va_join (wr := [(h0, .inr (0, [.int 115, .int 0, .ref a13, .ref a19, .null, .null, .null, .null])), (a13, .inl (cy 0, 25, .inl (fun _ => 0))), (a19, .inr (1, [.ref ba19, .int 0])), (ba19, .inl (cy 0, 13, .inl (fun _ => 0)))]) (w1 := [(a32, .inr (1, [.ref ba32, .int 0])), (ba32, .inl (cy 0, 104, .inl (fun _ => 0)))]) hP hD [4] [0, 1, 2, 3] rfl rfl (by decide) (by decide) hk1 hFc hP1 hD1
  generalize H1 = H at hP hS ⊢
  have hP : va_P (dC, dI) classes ([(h0, .inr (0, [.int 115, .int 0, .ref a13, .ref a19, .null, .null, .null, .null])), (a13, .inl (cy 0, 25, .inl (fun _ => 0))), (a19, .inr (1, [.ref ba19, .int 0])), (ba19, .inl (cy 0, 13, .inl (fun _ => 0))), (a32, .inr (1, [.ref ba32, .int 0])), (ba32, .inl (cy 0, 104, .inl (fun _ => 0)))]) H := hP
  have hD : va_D A ([(h0, .inr (0, [.int 115, .int 0, .ref a13, .ref a19, .null, .null, .null, .null])), (a13, .inl (cy 0, 25, .inl (fun _ => 0))), (a19, .inr (1, [.ref ba19, .int 0])), (ba19, .inl (cy 0, 13, .inl (fun _ => 0))), (a32, .inr (1, [.ref ba32, .int 0])), (ba32, .inl (cy 0, 104, .inl (fun _ => 0)))]) := hD
  refine va_putF (D := (dC, dI)) (ci := 0) (v := .ref a32) (ty := .object "PegshoreHouse$Row") (C := RX0) (T := TX0) (N := 8) hx hb hts in_X0 tyX0 tyX0_ok nmX0 hown hK.1 hP hD hS 0 rfl rfl 4 (by decide) (hts _ q69) (fun _ h9 => h9) rfl hin rfl (by decide +kernel) rfl rfl (Nat.le_of_ble_eq_true rfl) dX0_init_41 (fun H locs hP hD hS => ?_)
  have hP : va_P (dC, dI) classes ([(h0, .inr (0, [.int 115, .int 0, .ref a13, .ref a19, .ref a32, .null, .null, .null])), (a13, .inl (cy 0, 25, .inl (fun _ => 0))), (a19, .inr (1, [.ref ba19, .int 0])), (ba19, .inl (cy 0, 13, .inl (fun _ => 0))), (a32, .inr (1, [.ref ba32, .int 0])), (ba32, .inl (cy 0, 104, .inl (fun _ => 0)))]) H := hP
  have hD : va_D A ([(h0, .inr (0, [.int 115, .int 0, .ref a13, .ref a19, .ref a32, .null, .null, .null])), (a13, .inl (cy 0, 25, .inl (fun _ => 0))), (a19, .inr (1, [.ref ba19, .int 0])), (ba19, .inl (cy 0, 13, .inl (fun _ => 0))), (a32, .inr (1, [.ref ba32, .int 0])), (ba32, .inl (cy 0, 104, .inl (fun _ => 0)))]) := hD
  refine lv_aload_n hx hb dX0_init_44 rfl (lv_at hl 0 rfl) ?_
  refine va_new (ci := 1) (fs := [.null, .int 0]) (C := RX1) (T := TX1) (N := 2) hx hb hts in_X1 tyX1 tyX1_ok hown (hts _ q50) (hts _ q51) (hts _ q3) hK.1 hP hD hS hA rfl (fun j hj => by rcases (show j = 0 ∨ j = 1 by omega) with rfl | rfl <;> rfl) (Nat.le_of_ble_eq_true rfl) (Nat.le_of_ble_eq_true rfl) dX0_init_45 (fun a45 H hP hD hS => ?_)
  have hP : va_P (dC, dI) classes ([(h0, .inr (0, [.int 115, .int 0, .ref a13, .ref a19, .ref a32, .null, .null, .null])), (a13, .inl (cy 0, 25, .inl (fun _ => 0))), (a19, .inr (1, [.ref ba19, .int 0])), (ba19, .inl (cy 0, 13, .inl (fun _ => 0))), (a32, .inr (1, [.ref ba32, .int 0])), (ba32, .inl (cy 0, 104, .inl (fun _ => 0))), (a45, .inr (1, [.null, .int 0]))]) H := hP
  have hD : va_D A ([(h0, .inr (0, [.int 115, .int 0, .ref a13, .ref a19, .ref a32, .null, .null, .null])), (a13, .inl (cy 0, 25, .inl (fun _ => 0))), (a19, .inr (1, [.ref ba19, .int 0])), (ba19, .inl (cy 0, 13, .inl (fun _ => 0))), (a32, .inr (1, [.ref ba32, .int 0])), (ba32, .inl (cy 0, 104, .inl (fun _ => 0))), (a45, .inr (1, [.null, .int 0]))]) := hD
  refine lv_dup hx hb dX0_init_48 rfl ?_
  refine lv_bipush (v := 104) hx hb dX0_init_49 (by decide) ?_
  have hPc := hP.sub (ws' := [(a45, .inr (1, [.null, .int 0]))]) [6] rfl
  have hDc := hD.sub (ws' := [(a45, .inr (1, [.null, .int 0]))]) [6] (by decide) rfl
  have hFc := va_free (wc := [(a45, .inr (1, [.null, .int 0]))]) hD hS hA [6] rfl
  refine va_callv (va_runI (As := [.int 104]) (rest := [.ref a45, .ref h0]) ⟨hx, hb, hml, hown, hts⟩ (m_X1_init l dC dI a45 cy _ 104 104 (by decide) (by decide) (by decide) (Nat.le_of_ble_eq_true rfl)) (cwI 1 hts (ws_good q54) rfl rfl rfl (hts _ q3) (hts _ q52) (hts _ q53) rfl (by decide +kernel) ⟨Nat.le_of_ble_eq_true rfl, Nat.le_of_ble_eq_true rfl⟩) (preI hK hPc hDc) rfl rfl hl.1 rfl (lv_room (Nat.le_of_ble_eq_true rfl)) dX0_init_51 ⟨Nat.le_of_ble_eq_true rfl, Nat.le_of_ble_eq_true rfl⟩) hS (fun q _ h => hFc q h) hFc (fun u t H1 locs ht hvm hw hB hz1 hk1 hS => ?_)
  obtain ⟨ba45, hP1, hD1⟩ := hB
  rw [ht] at hP1
  obtain ⟨hP, hD⟩ := va_join (wr := [(h0, .inr (0, [.int 115, .int 0, .ref a13, .ref a19, .ref a32, .null, .null, .null])), (a13, .inl (cy 0, 25, .inl (fun _ => 0))), (a19, .inr (1, [.ref ba19, .int 0])), (ba19, .inl (cy 0, 13, .inl (fun _ => 0))), (a32, .inr (1, [.ref ba32, .int 0])), (ba32, .inl (cy 0, 104, .inl (fun _ => 0)))]) (w1 := [(a45, .inr (1, [.ref ba45, .int 0])), (ba45, .inl (cy 0, 104, .inl (fun _ => 0)))]) hP hD [6] [0, 1, 2, 3, 4, 5] rfl rfl (by decide) (by decide) hk1 hFc hP1 hD1
  generalize H1 = H at hP hS ⊢
  have hP : va_P (dC, dI) classes ([(h0, .inr (0, [.int 115, .int 0, .ref a13, .ref a19, .ref a32, .null, .null, .null])), (a13, .inl (cy 0, 25, .inl (fun _ => 0))), (a19, .inr (1, [.ref ba19, .int 0])), (ba19, .inl (cy 0, 13, .inl (fun _ => 0))), (a32, .inr (1, [.ref ba32, .int 0])), (ba32, .inl (cy 0, 104, .inl (fun _ => 0))), (a45, .inr (1, [.ref ba45, .int 0])), (ba45, .inl (cy 0, 104, .inl (fun _ => 0)))]) H := hP
  have hD : va_D A ([(h0, .inr (0, [.int 115, .int 0, .ref a13, .ref a19, .ref a32, .null, .null, .null])), (a13, .inl (cy 0, 25, .inl (fun _ => 0))), (a19, .inr (1, [.ref ba19, .int 0])), (ba19, .inl (cy 0, 13, .inl (fun _ => 0))), (a32, .inr (1, [.ref ba32, .int 0])), (ba32, .inl (cy 0, 104, .inl (fun _ => 0))), (a45, .inr (1, [.ref ba45, .int 0])), (ba45, .inl (cy 0, 104, .inl (fun _ => 0)))]) := hD
  refine va_putF (D := (dC, dI)) (ci := 0) (v := .ref a45) (ty := .object "PegshoreHouse$Row") (C := RX0) (T := TX0) (N := 8) hx hb hts in_X0 tyX0 tyX0_ok nmX0 hown hK.1 hP hD hS 0 rfl rfl 5 (by decide) (hts _ q70) (fun _ h9 => h9) rfl hin rfl (by decide +kernel) rfl rfl (Nat.le_of_ble_eq_true rfl) dX0_init_54 (fun H locs hP hD hS => ?_)
  have hP : va_P (dC, dI) classes ([(h0, .inr (0, [.int 115, .int 0, .ref a13, .ref a19, .ref a32, .ref a45, .null, .null])), (a13, .inl (cy 0, 25, .inl (fun _ => 0))), (a19, .inr (1, [.ref ba19, .int 0])), (ba19, .inl (cy 0, 13, .inl (fun _ => 0))), (a32, .inr (1, [.ref ba32, .int 0])), (ba32, .inl (cy 0, 104, .inl (fun _ => 0))), (a45, .inr (1, [.ref ba45, .int 0])), (ba45, .inl (cy 0, 104, .inl (fun _ => 0)))]) H := hP
  have hD : va_D A ([(h0, .inr (0, [.int 115, .int 0, .ref a13, .ref a19, .ref a32, .ref a45, .null, .null])), (a13, .inl (cy 0, 25, .inl (fun _ => 0))), (a19, .inr (1, [.ref ba19, .int 0])), (ba19, .inl (cy 0, 13, .inl (fun _ => 0))), (a32, .inr (1, [.ref ba32, .int 0])), (ba32, .inl (cy 0, 104, .inl (fun _ => 0))), (a45, .inr (1, [.ref ba45, .int 0])), (ba45, .inl (cy 0, 104, .inl (fun _ => 0)))]) := hD
  refine lv_aload_n hx hb dX0_init_57 rfl (lv_at hl 0 rfl) ?_
  refine va_new (ci := 1) (fs := [.null, .int 0]) (C := RX1) (T := TX1) (N := 2) hx hb hts in_X1 tyX1 tyX1_ok hown (hts _ q50) (hts _ q51) (hts _ q3) hK.1 hP hD hS hA rfl (fun j hj => by rcases (show j = 0 ∨ j = 1 by omega) with rfl | rfl <;> rfl) (Nat.le_of_ble_eq_true rfl) (Nat.le_of_ble_eq_true rfl) dX0_init_58 (fun a58 H hP hD hS => ?_)
  have hP : va_P (dC, dI) classes ([(h0, .inr (0, [.int 115, .int 0, .ref a13, .ref a19, .ref a32, .ref a45, .null, .null])), (a13, .inl (cy 0, 25, .inl (fun _ => 0))), (a19, .inr (1, [.ref ba19, .int 0])), (ba19, .inl (cy 0, 13, .inl (fun _ => 0))), (a32, .inr (1, [.ref ba32, .int 0])), (ba32, .inl (cy 0, 104, .inl (fun _ => 0))), (a45, .inr (1, [.ref ba45, .int 0])), (ba45, .inl (cy 0, 104, .inl (fun _ => 0))), (a58, .inr (1, [.null, .int 0]))]) H := hP
  have hD : va_D A ([(h0, .inr (0, [.int 115, .int 0, .ref a13, .ref a19, .ref a32, .ref a45, .null, .null])), (a13, .inl (cy 0, 25, .inl (fun _ => 0))), (a19, .inr (1, [.ref ba19, .int 0])), (ba19, .inl (cy 0, 13, .inl (fun _ => 0))), (a32, .inr (1, [.ref ba32, .int 0])), (ba32, .inl (cy 0, 104, .inl (fun _ => 0))), (a45, .inr (1, [.ref ba45, .int 0])), (ba45, .inl (cy 0, 104, .inl (fun _ => 0))), (a58, .inr (1, [.null, .int 0]))]) := hD
  refine lv_dup hx hb dX0_init_61 rfl ?_
  refine lv_bipush (v := 104) hx hb dX0_init_62 (by decide) ?_
  have hPc := hP.sub (ws' := [(a58, .inr (1, [.null, .int 0]))]) [8] rfl
  have hDc := hD.sub (ws' := [(a58, .inr (1, [.null, .int 0]))]) [8] (by decide) rfl
  have hFc := va_free (wc := [(a58, .inr (1, [.null, .int 0]))]) hD hS hA [8] rfl
  refine va_callv (va_runI (As := [.int 104]) (rest := [.ref a58, .ref h0]) ⟨hx, hb, hml, hown, hts⟩ (m_X1_init l dC dI a58 cy _ 104 104 (by decide) (by decide) (by decide) (Nat.le_of_ble_eq_true rfl)) (cwI 1 hts (ws_good q54) rfl rfl rfl (hts _ q3) (hts _ q52) (hts _ q53) rfl (by decide +kernel) ⟨Nat.le_of_ble_eq_true rfl, Nat.le_of_ble_eq_true rfl⟩) (preI hK hPc hDc) rfl rfl hl.1 rfl (lv_room (Nat.le_of_ble_eq_true rfl)) dX0_init_64 ⟨Nat.le_of_ble_eq_true rfl, Nat.le_of_ble_eq_true rfl⟩) hS (fun q _ h => hFc q h) hFc (fun u t H1 locs ht hvm hw hB hz1 hk1 hS => ?_)
  obtain ⟨ba58, hP1, hD1⟩ := hB
  rw [ht] at hP1
  obtain ⟨hP, hD⟩ := va_join (wr := [(h0, .inr (0, [.int 115, .int 0, .ref a13, .ref a19, .ref a32, .ref a45, .null, .null])), (a13, .inl (cy 0, 25, .inl (fun _ => 0))), (a19, .inr (1, [.ref ba19, .int 0])), (ba19, .inl (cy 0, 13, .inl (fun _ => 0))), (a32, .inr (1, [.ref ba32, .int 0])), (ba32, .inl (cy 0, 104, .inl (fun _ => 0))), (a45, .inr (1, [.ref ba45, .int 0])), (ba45, .inl (cy 0, 104, .inl (fun _ => 0)))]) (w1 := [(a58, .inr (1, [.ref ba58, .int 0])), (ba58, .inl (cy 0, 104, .inl (fun _ => 0)))]) hP hD [8] [0, 1, 2, 3, 4, 5, 6, 7] rfl rfl (by decide) (by decide) hk1 hFc hP1 hD1
  generalize H1 = H at hP hS ⊢
  have hP : va_P (dC, dI) classes ([(h0, .inr (0, [.int 115, .int 0, .ref a13, .ref a19, .ref a32, .ref a45, .null, .null])), (a13, .inl (cy 0, 25, .inl (fun _ => 0))), (a19, .inr (1, [.ref ba19, .int 0])), (ba19, .inl (cy 0, 13, .inl (fun _ => 0))), (a32, .inr (1, [.ref ba32, .int 0])), (ba32, .inl (cy 0, 104, .inl (fun _ => 0))), (a45, .inr (1, [.ref ba45, .int 0])), (ba45, .inl (cy 0, 104, .inl (fun _ => 0))), (a58, .inr (1, [.ref ba58, .int 0])), (ba58, .inl (cy 0, 104, .inl (fun _ => 0)))]) H := hP
  have hD : va_D A ([(h0, .inr (0, [.int 115, .int 0, .ref a13, .ref a19, .ref a32, .ref a45, .null, .null])), (a13, .inl (cy 0, 25, .inl (fun _ => 0))), (a19, .inr (1, [.ref ba19, .int 0])), (ba19, .inl (cy 0, 13, .inl (fun _ => 0))), (a32, .inr (1, [.ref ba32, .int 0])), (ba32, .inl (cy 0, 104, .inl (fun _ => 0))), (a45, .inr (1, [.ref ba45, .int 0])), (ba45, .inl (cy 0, 104, .inl (fun _ => 0))), (a58, .inr (1, [.ref ba58, .int 0])), (ba58, .inl (cy 0, 104, .inl (fun _ => 0)))]) := hD
  refine va_putF (D := (dC, dI)) (ci := 0) (v := .ref a58) (ty := .object "PegshoreHouse$Row") (C := RX0) (T := TX0) (N := 8) hx hb hts in_X0 tyX0 tyX0_ok nmX0 hown hK.1 hP hD hS 0 rfl rfl 6 (by decide) (hts _ q71) (fun _ h9 => h9) rfl hin rfl (by decide +kernel) rfl rfl (Nat.le_of_ble_eq_true rfl) dX0_init_67 (fun H locs hP hD hS => ?_)
  have hP : va_P (dC, dI) classes ([(h0, .inr (0, [.int 115, .int 0, .ref a13, .ref a19, .ref a32, .ref a45, .ref a58, .null])), (a13, .inl (cy 0, 25, .inl (fun _ => 0))), (a19, .inr (1, [.ref ba19, .int 0])), (ba19, .inl (cy 0, 13, .inl (fun _ => 0))), (a32, .inr (1, [.ref ba32, .int 0])), (ba32, .inl (cy 0, 104, .inl (fun _ => 0))), (a45, .inr (1, [.ref ba45, .int 0])), (ba45, .inl (cy 0, 104, .inl (fun _ => 0))), (a58, .inr (1, [.ref ba58, .int 0])), (ba58, .inl (cy 0, 104, .inl (fun _ => 0)))]) H := hP
  have hD : va_D A ([(h0, .inr (0, [.int 115, .int 0, .ref a13, .ref a19, .ref a32, .ref a45, .ref a58, .null])), (a13, .inl (cy 0, 25, .inl (fun _ => 0))), (a19, .inr (1, [.ref ba19, .int 0])), (ba19, .inl (cy 0, 13, .inl (fun _ => 0))), (a32, .inr (1, [.ref ba32, .int 0])), (ba32, .inl (cy 0, 104, .inl (fun _ => 0))), (a45, .inr (1, [.ref ba45, .int 0])), (ba45, .inl (cy 0, 104, .inl (fun _ => 0))), (a58, .inr (1, [.ref ba58, .int 0])), (ba58, .inl (cy 0, 104, .inl (fun _ => 0)))]) := hD
  refine lv_aload_n hx hb dX0_init_70 rfl (lv_at hl 0 rfl) ?_
  refine va_new (ci := 1) (fs := [.null, .int 0]) (C := RX1) (T := TX1) (N := 2) hx hb hts in_X1 tyX1 tyX1_ok hown (hts _ q50) (hts _ q51) (hts _ q3) hK.1 hP hD hS hA rfl (fun j hj => by rcases (show j = 0 ∨ j = 1 by omega) with rfl | rfl <;> rfl) (Nat.le_of_ble_eq_true rfl) (Nat.le_of_ble_eq_true rfl) dX0_init_71 (fun a71 H hP hD hS => ?_)
  have hP : va_P (dC, dI) classes ([(h0, .inr (0, [.int 115, .int 0, .ref a13, .ref a19, .ref a32, .ref a45, .ref a58, .null])), (a13, .inl (cy 0, 25, .inl (fun _ => 0))), (a19, .inr (1, [.ref ba19, .int 0])), (ba19, .inl (cy 0, 13, .inl (fun _ => 0))), (a32, .inr (1, [.ref ba32, .int 0])), (ba32, .inl (cy 0, 104, .inl (fun _ => 0))), (a45, .inr (1, [.ref ba45, .int 0])), (ba45, .inl (cy 0, 104, .inl (fun _ => 0))), (a58, .inr (1, [.ref ba58, .int 0])), (ba58, .inl (cy 0, 104, .inl (fun _ => 0))), (a71, .inr (1, [.null, .int 0]))]) H := hP
  have hD : va_D A ([(h0, .inr (0, [.int 115, .int 0, .ref a13, .ref a19, .ref a32, .ref a45, .ref a58, .null])), (a13, .inl (cy 0, 25, .inl (fun _ => 0))), (a19, .inr (1, [.ref ba19, .int 0])), (ba19, .inl (cy 0, 13, .inl (fun _ => 0))), (a32, .inr (1, [.ref ba32, .int 0])), (ba32, .inl (cy 0, 104, .inl (fun _ => 0))), (a45, .inr (1, [.ref ba45, .int 0])), (ba45, .inl (cy 0, 104, .inl (fun _ => 0))), (a58, .inr (1, [.ref ba58, .int 0])), (ba58, .inl (cy 0, 104, .inl (fun _ => 0))), (a71, .inr (1, [.null, .int 0]))]) := hD
  refine lv_dup hx hb dX0_init_74 rfl ?_
  refine lv_bipush (v := 104) hx hb dX0_init_75 (by decide) ?_
  have hPc := hP.sub (ws' := [(a71, .inr (1, [.null, .int 0]))]) [10] rfl
  have hDc := hD.sub (ws' := [(a71, .inr (1, [.null, .int 0]))]) [10] (by decide) rfl
  have hFc := va_free (wc := [(a71, .inr (1, [.null, .int 0]))]) hD hS hA [10] rfl
  refine va_callv (va_runI (As := [.int 104]) (rest := [.ref a71, .ref h0]) ⟨hx, hb, hml, hown, hts⟩ (m_X1_init l dC dI a71 cy _ 104 104 (by decide) (by decide) (by decide) (Nat.le_of_ble_eq_true rfl)) (cwI 1 hts (ws_good q54) rfl rfl rfl (hts _ q3) (hts _ q52) (hts _ q53) rfl (by decide +kernel) ⟨Nat.le_of_ble_eq_true rfl, Nat.le_of_ble_eq_true rfl⟩) (preI hK hPc hDc) rfl rfl hl.1 rfl (lv_room (Nat.le_of_ble_eq_true rfl)) dX0_init_77 ⟨Nat.le_of_ble_eq_true rfl, Nat.le_of_ble_eq_true rfl⟩) hS (fun q _ h => hFc q h) hFc (fun u t H1 locs ht hvm hw hB hz1 hk1 hS => ?_)
  obtain ⟨ba71, hP1, hD1⟩ := hB
  rw [ht] at hP1
  obtain ⟨hP, hD⟩ := va_join (wr := [(h0, .inr (0, [.int 115, .int 0, .ref a13, .ref a19, .ref a32, .ref a45, .ref a58, .null])), (a13, .inl (cy 0, 25, .inl (fun _ => 0))), (a19, .inr (1, [.ref ba19, .int 0])), (ba19, .inl (cy 0, 13, .inl (fun _ => 0))), (a32, .inr (1, [.ref ba32, .int 0])), (ba32, .inl (cy 0, 104, .inl (fun _ => 0))), (a45, .inr (1, [.ref ba45, .int 0])), (ba45, .inl (cy 0, 104, .inl (fun _ => 0))), (a58, .inr (1, [.ref ba58, .int 0])), (ba58, .inl (cy 0, 104, .inl (fun _ => 0)))]) (w1 := [(a71, .inr (1, [.ref ba71, .int 0])), (ba71, .inl (cy 0, 104, .inl (fun _ => 0)))]) hP hD [10] [0, 1, 2, 3, 4, 5, 6, 7, 8, 9] rfl rfl (by decide) (by decide) hk1 hFc hP1 hD1
  generalize H1 = H at hP hS ⊢
  have hP : va_P (dC, dI) classes ([(h0, .inr (0, [.int 115, .int 0, .ref a13, .ref a19, .ref a32, .ref a45, .ref a58, .null])), (a13, .inl (cy 0, 25, .inl (fun _ => 0))), (a19, .inr (1, [.ref ba19, .int 0])), (ba19, .inl (cy 0, 13, .inl (fun _ => 0))), (a32, .inr (1, [.ref ba32, .int 0])), (ba32, .inl (cy 0, 104, .inl (fun _ => 0))), (a45, .inr (1, [.ref ba45, .int 0])), (ba45, .inl (cy 0, 104, .inl (fun _ => 0))), (a58, .inr (1, [.ref ba58, .int 0])), (ba58, .inl (cy 0, 104, .inl (fun _ => 0))), (a71, .inr (1, [.ref ba71, .int 0])), (ba71, .inl (cy 0, 104, .inl (fun _ => 0)))]) H := hP
  have hD : va_D A ([(h0, .inr (0, [.int 115, .int 0, .ref a13, .ref a19, .ref a32, .ref a45, .ref a58, .null])), (a13, .inl (cy 0, 25, .inl (fun _ => 0))), (a19, .inr (1, [.ref ba19, .int 0])), (ba19, .inl (cy 0, 13, .inl (fun _ => 0))), (a32, .inr (1, [.ref ba32, .int 0])), (ba32, .inl (cy 0, 104, .inl (fun _ => 0))), (a45, .inr (1, [.ref ba45, .int 0])), (ba45, .inl (cy 0, 104, .inl (fun _ => 0))), (a58, .inr (1, [.ref ba58, .int 0])), (ba58, .inl (cy 0, 104, .inl (fun _ => 0))), (a71, .inr (1, [.ref ba71, .int 0])), (ba71, .inl (cy 0, 104, .inl (fun _ => 0)))]) := hD
  refine va_putF (D := (dC, dI)) (ci := 0) (v := .ref a71) (ty := .object "PegshoreHouse$Row") (C := RX0) (T := TX0) (N := 8) hx hb hts in_X0 tyX0 tyX0_ok nmX0 hown hK.1 hP hD hS 0 rfl rfl 7 (by decide) (hts _ q72) (fun _ h9 => h9) rfl hin rfl (by decide +kernel) rfl rfl (Nat.le_of_ble_eq_true rfl) dX0_init_80 (fun H locs hP hD hS => ?_)
  have hP : va_P (dC, dI) classes ([(h0, .inr (0, [.int 115, .int 0, .ref a13, .ref a19, .ref a32, .ref a45, .ref a58, .ref a71])), (a13, .inl (cy 0, 25, .inl (fun _ => 0))), (a19, .inr (1, [.ref ba19, .int 0])), (ba19, .inl (cy 0, 13, .inl (fun _ => 0))), (a32, .inr (1, [.ref ba32, .int 0])), (ba32, .inl (cy 0, 104, .inl (fun _ => 0))), (a45, .inr (1, [.ref ba45, .int 0])), (ba45, .inl (cy 0, 104, .inl (fun _ => 0))), (a58, .inr (1, [.ref ba58, .int 0])), (ba58, .inl (cy 0, 104, .inl (fun _ => 0))), (a71, .inr (1, [.ref ba71, .int 0])), (ba71, .inl (cy 0, 104, .inl (fun _ => 0)))]) H := hP
  have hD : va_D A ([(h0, .inr (0, [.int 115, .int 0, .ref a13, .ref a19, .ref a32, .ref a45, .ref a58, .ref a71])), (a13, .inl (cy 0, 25, .inl (fun _ => 0))), (a19, .inr (1, [.ref ba19, .int 0])), (ba19, .inl (cy 0, 13, .inl (fun _ => 0))), (a32, .inr (1, [.ref ba32, .int 0])), (ba32, .inl (cy 0, 104, .inl (fun _ => 0))), (a45, .inr (1, [.ref ba45, .int 0])), (ba45, .inl (cy 0, 104, .inl (fun _ => 0))), (a58, .inr (1, [.ref ba58, .int 0])), (ba58, .inl (cy 0, 104, .inl (fun _ => 0))), (a71, .inr (1, [.ref ba71, .int 0])), (ba71, .inl (cy 0, 104, .inl (fun _ => 0)))]) := hD
  have hP9 := hP.sub (ws' := [(h0, .inr (0, [.int 115, .int 0, .ref a13, .ref a19, .ref a32, .ref a45, .ref a58, .ref a71])), (a13, .inl (cy 0, 25, .inl (fun _ => 0))), (a19, .inr (1, [.ref ba19, .int 0])), (ba19, .inl (cy 0, 13, .inl (fun _ => 0))), (a32, .inr (1, [.ref ba32, .int 0])), (ba32, .inl (cy 0, 104, .inl (fun _ => 0))), (a45, .inr (1, [.ref ba45, .int 0])), (ba45, .inl (cy 0, 104, .inl (fun _ => 0))), (a58, .inr (1, [.ref ba58, .int 0])), (ba58, .inl (cy 0, 104, .inl (fun _ => 0))), (a71, .inr (1, [.ref ba71, .int 0])), (ba71, .inl (cy 0, 104, .inl (fun _ => 0)))]) [0, 1, 2, 3, 4, 5, 6, 7, 8, 9, 10, 11] rfl
  have hD9 := hD.sub (ws' := [(h0, .inr (0, [.int 115, .int 0, .ref a13, .ref a19, .ref a32, .ref a45, .ref a58, .ref a71])), (a13, .inl (cy 0, 25, .inl (fun _ => 0))), (a19, .inr (1, [.ref ba19, .int 0])), (ba19, .inl (cy 0, 13, .inl (fun _ => 0))), (a32, .inr (1, [.ref ba32, .int 0])), (ba32, .inl (cy 0, 104, .inl (fun _ => 0))), (a45, .inr (1, [.ref ba45, .int 0])), (ba45, .inl (cy 0, 104, .inl (fun _ => 0))), (a58, .inr (1, [.ref ba58, .int 0])), (ba58, .inl (cy 0, 104, .inl (fun _ => 0))), (a71, .inr (1, [.ref ba71, .int 0])), (ba71, .inl (cy 0, 104, .inl (fun _ => 0)))]) [0, 1, 2, 3, 4, 5, 6, 7, 8, 9, 10, 11] (by decide) rfl
  refine W.widen (k := 11) (n := 464) (Nat.le_of_ble_eq_true rfl) (Nat.le_of_ble_eq_true rfl) ?_
  exact W.vret hx hb hr (fun t ht hW => ⟨⟨(), rfl, trivial, a13, a19, ba19, a32, ba32, a45, ba45, a58, ba58, a71, ba71, by rw [ht]; exact hP9, hD9⟩, hS.F ht⟩) hS.2.2 dX0_init_83
theorem dX2_init_0 : decode cX2_init 0 = .ok (.aload_n 0, 1) := by decide +kernel
theorem dX2_init_1 : decode cX2_init 1 = .ok (.invokespecial 3, 3) := by decide +kernel
theorem dX2_init_4 : decode cX2_init 4 = .ok (.aload_n 0, 1) := by decide +kernel
theorem dX2_init_5 : decode cX2_init 5 = .ok (.sipush 8192, 3) := by decide +kernel
theorem dX2_init_8 : decode cX2_init 8 = .ok (.newarray .int, 2) := by decide +kernel
theorem dX2_init_10 : decode cX2_init 10 = .ok (.putfield 9, 3) := by decide +kernel
theorem dX2_init_13 : decode cX2_init 13 = .ok (.aload_n 0, 1) := by decide +kernel
theorem dX2_init_14 : decode cX2_init 14 = .ok (.sipush 8192, 3) := by decide +kernel
theorem dX2_init_17 : decode cX2_init 17 = .ok (.newarray .long, 2) := by decide +kernel
theorem dX2_init_19 : decode cX2_init 19 = .ok (.putfield 15, 3) := by decide +kernel
theorem dX2_init_22 : decode cX2_init 22 = .ok (.aload_n 0, 1) := by decide +kernel
theorem dX2_init_23 : decode cX2_init 23 = .ok (.sipush 10240, 3) := by decide +kernel
theorem dX2_init_26 : decode cX2_init 26 = .ok (.newarray .int, 2) := by decide +kernel
theorem dX2_init_28 : decode cX2_init 28 = .ok (.putfield 19, 3) := by decide +kernel
theorem dX2_init_31 : decode cX2_init 31 = .ok (.aload_n 0, 1) := by decide +kernel
theorem dX2_init_32 : decode cX2_init 32 = .ok (.iconst (-1), 1) := by decide +kernel
theorem dX2_init_33 : decode cX2_init 33 = .ok (.putfield 22, 3) := by decide +kernel
theorem dX2_init_36 : decode cX2_init 36 = .ok (.aload_n 0, 1) := by decide +kernel
theorem dX2_init_37 : decode cX2_init 37 = .ok (.iconst 0, 1) := by decide +kernel
theorem dX2_init_38 : decode cX2_init 38 = .ok (.putfield 26, 3) := by decide +kernel
theorem dX2_init_41 : decode cX2_init 41 = .ok (.aload_n 0, 1) := by decide +kernel
theorem dX2_init_42 : decode cX2_init 42 = .ok (.aload_n 1, 1) := by decide +kernel
theorem dX2_init_43 : decode cX2_init 43 = .ok (.putfield 29, 3) := by decide +kernel
theorem dX2_init_46 : decode cX2_init 46 = .ok (.return_, 1) := by decide +kernel
set_option maxHeartbeats 4000000 in
set_option maxRecDepth 100000 in
theorem m_X2_init (l : Launch) (dC : Nat → ClassId) (dI : Nat → Nat → Nat) (h0 hb0 : Nat) (cy : Nat → ClassId) (sz : Nat) : Met l yX2_init (ws_ yX2_init cX2_init 2 none) ({ frames := 1, cells := 3, slots := 26624, locals := 32 } : Room) (va_Pc [.ref h0, .ref hb0] (PcI dC dI cy ([(h0, .inr (2, [.null, .null, .null, .null, .int 0, .int 0, .int 0, .int 0, .int 0, .int 0, .int 0, .int 0]))]) sz)) (va_Qv (fun _ => True) (fun (_ : Unit) t => ∃ (w1 : Nat) (w2 : Nat) (w3 : Nat), va_P (dC, dI) classes ([(h0, .inr (2, [.ref hb0, .ref w1, .ref w2, .ref w3, .int 0, .int (-1), .int 0, .int 0, .int 0, .int 0, .int 0, .int 0])), (w1, .inl (cy 0, 8192, .inl (fun _ => 0))), (w2, .inl (cy 1, 8192, .inr (.inl (fun _ => 0)))), (w3, .inl (cy 0, 10240, .inl (fun _ => 0)))]) t.heap ∧ va_D (va_A ([(h0, .inr (2, [.null, .null, .null, .null, .int 0, .int 0, .int 0, .int 0, .int 0, .int 0, .int 0, .int 0]))]) sz) ([(h0, .inr (2, [.ref hb0, .ref w1, .ref w2, .ref w3, .int 0, .int (-1), .int 0, .int 0, .int 0, .int 0, .int 0, .int 0])), (w1, .inl (cy 0, 8192, .inl (fun _ => 0))), (w2, .inl (cy 1, 8192, .inr (.inl (fun _ => 0)))), (w3, .inl (cy 0, 10240, .inl (fun _ => 0)))])) (va_A ([(h0, .inr (2, [.null, .null, .null, .null, .int 0, .int 0, .int 0, .int 0, .int 0, .int 0, .int 0, .int 0]))]) sz)) 3 26624 (va_A ([(h0, .inr (2, [.null, .null, .null, .null, .int 0, .int 0, .int 0, .int 0, .int 0, .int 0, .int 0, .int 0]))]) sz) := by
  refine Met.ofCxN (own := RX2) (by decide) rfl rfl (Nat.le_of_ble_eq_true rfl) ?_
  intro p e s m below meth c hC hin hv ls hl
  obtain ⟨hx, hb, hr, hml, hown, hts, hlocks⟩ := hC
  have hl : lv_has ls 2 [(0, .ref h0), (1, .ref hb0)] := hl
  obtain ⟨hsz, hP, hK, hD0⟩ := hv
  subst hsz
  have hD := hD0.self (sz := s.heap.size)
  generalize hAe : va_A ([(h0, .inr (2, [.null, .null, .null, .null, .int 0, .int 0, .int 0, .int 0, .int 0, .int 0, .int 0, .int 0]))]) s.heap.size = A at hD ⊢
  have hA : ∀ q : Nat, s.heap.size ≤ q → A q := fun q h => by rw [← hAe]; exact Or.inr h
  have hS : va_S A s.heap s.heap [] := va_S.rf
  clear hAe
  refine lv_aload_n hx hb dX2_init_0 rfl (lv_at hl 0 rfl) ?_
  refine W.objInit hx hb hown (hts _ q95) (hts _ q42) (hts _ q43) rfl (by rw [hml]; exact hl.1) rfl dX2_init_1 (Nat.le_of_ble_eq_true rfl) (Nat.le_of_ble_eq_true rfl) ?_
  refine W.eq (g2 := F0 m 4 ls []) rfl ?_
  refine lv_aload_n hx hb dX2_init_4 rfl (lv_at hl 0 rfl) ?_
  refine lv_sipush (v := 8192) hx hb dX2_init_5 (by decide) ?_
  refine va_newa (atype := .int) (ty := .int) (N' := 8192) (a0 := (8192, .inl (fun _ => 0))) hx hb (hts _ q63) rfl hK.1 hP hD hS hA (fun _ => rfl) (by decide) (by decide) (Nat.le_of_ble_eq_true rfl) (Nat.le_of_ble_eq_true rfl) (Nat.le_of_ble_eq_true rfl) dX2_init_8 (fun a8 cA H hK1 hP hD hS => ?_)
  have ec : cA = cy 0 := arr_same0 hK1
  subst ec
  have hP : va_P (dC, dI) classes ([(h0, .inr (2, [.null, .null, .null, .null, .int 0, .int 0, .int 0, .int 0, .int 0, .int 0, .int 0, .int 0])), (a8, .inl (cy 0, 8192, .inl (fun _ => 0)))]) H := hP
  have hD : va_D A ([(h0, .inr (2, [.null, .null, .null, .null, .int 0, .int 0, .int 0, .int 0, .int 0, .int 0, .int 0, .int 0])), (a8, .inl (cy 0, 8192, .inl (fun _ => 0)))]) := hD
  refine va_putF (D := (dC, dI)) (ci := 2) (v := .ref a8) (ty := .array .int) (C := RX2) (T := TX2) (N := 12) hx hb hts in_X2 tyX2 tyX2_ok nmX2 hown hK.1 hP hD hS 0 rfl rfl 1 (by decide) (hts _ q97) (fun _ h9 => h9) rfl hin rfl (by decide +kernel) rfl rfl (Nat.le_of_ble_eq_true rfl) dX2_init_10 (fun H locs hP hD hS => ?_)
  have hP : va_P (dC, dI) classes ([(h0, .inr (2, [.null, .ref a8, .null, .null, .int 0, .int 0, .int 0, .int 0, .int 0, .int 0, .int 0, .int 0])), (a8, .inl (cy 0, 8192, .inl (fun _ => 0)))]) H := hP
  have hD : va_D A ([(h0, .inr (2, [.null, .ref a8, .null, .null, .int 0, .int 0, .int 0, .int 0, .int 0, .int 0, .int 0, .int 0])), (a8, .inl (cy 0, 8192, .inl (fun _ => 0)))]) := hD
  refine lv_aload_n hx hb dX2_init_13 rfl (lv_at hl 0 rfl) ?_
  refine lv_sipush (v := 8192) hx hb dX2_init_14 (by decide) ?_
  refine va_newa (atype := .long) (ty := .long) (N' := 8192) (a0 := (8192, .inr (.inl (fun _ => 0)))) hx hb (hts _ q138) rfl hK.1 hP hD hS hA (fun _ => rfl) (by decide) (by decide) (Nat.le_of_ble_eq_true rfl) (Nat.le_of_ble_eq_true rfl) (Nat.le_of_ble_eq_true rfl) dX2_init_17 (fun a17 cA H hK1 hP hD hS => ?_)
  have ec : cA = cy 1 := arr_same1 hK1
  subst ec
  have hP : va_P (dC, dI) classes ([(h0, .inr (2, [.null, .ref a8, .null, .null, .int 0, .int 0, .int 0, .int 0, .int 0, .int 0, .int 0, .int 0])), (a8, .inl (cy 0, 8192, .inl (fun _ => 0))), (a17, .inl (cy 1, 8192, .inr (.inl (fun _ => 0))))]) H := hP
  have hD : va_D A ([(h0, .inr (2, [.null, .ref a8, .null, .null, .int 0, .int 0, .int 0, .int 0, .int 0, .int 0, .int 0, .int 0])), (a8, .inl (cy 0, 8192, .inl (fun _ => 0))), (a17, .inl (cy 1, 8192, .inr (.inl (fun _ => 0))))]) := hD
  refine va_putF (D := (dC, dI)) (ci := 2) (v := .ref a17) (ty := .array .long) (C := RX2) (T := TX2) (N := 12) hx hb hts in_X2 tyX2 tyX2_ok nmX2 hown hK.1 hP hD hS 0 rfl rfl 2 (by decide) (hts _ q98) (fun _ h9 => h9) rfl hin rfl (by decide +kernel) rfl rfl (Nat.le_of_ble_eq_true rfl) dX2_init_19 (fun H locs hP hD hS => ?_)
  have hP : va_P (dC, dI) classes ([(h0, .inr (2, [.null, .ref a8, .ref a17, .null, .int 0, .int 0, .int 0, .int 0, .int 0, .int 0, .int 0, .int 0])), (a8, .inl (cy 0, 8192, .inl (fun _ => 0))), (a17, .inl (cy 1, 8192, .inr (.inl (fun _ => 0))))]) H := hP
  have hD : va_D A ([(h0, .inr (2, [.null, .ref a8, .ref a17, .null, .int 0, .int 0, .int 0, .int 0, .int 0, .int 0, .int 0, .int 0])), (a8, .inl (cy 0, 8192, .inl (fun _ => 0))), (a17, .inl (cy 1, 8192, .inr (.inl (fun _ => 0))))]) := hD
  refine lv_aload_n hx hb dX2_init_22 rfl (lv_at hl 0 rfl) ?_
  refine lv_sipush (v := 10240) hx hb dX2_init_23 (by decide) ?_
  refine va_newa (atype := .int) (ty := .int) (N' := 10240) (a0 := (10240, .inl (fun _ => 0))) hx hb (hts _ q63) rfl hK.1 hP hD hS hA (fun _ => rfl) (by decide) (by decide) (Nat.le_of_ble_eq_true rfl) (Nat.le_of_ble_eq_true rfl) (Nat.le_of_ble_eq_true rfl) dX2_init_26 (fun a26 cA H hK1 hP hD hS => ?_)
  have ec : cA = cy 0 := arr_same0 hK1
  subst ec
  have hP : va_P (dC, dI) classes ([(h0, .inr (2, [.null, .ref a8, .ref a17, .null, .int 0, .int 0, .int 0, .int 0, .int 0, .int 0, .int 0, .int 0])), (a8, .inl (cy 0, 8192, .inl (fun _ => 0))), (a17, .inl (cy 1, 8192, .inr (.inl (fun _ => 0)))), (a26, .inl (cy 0, 10240, .inl (fun _ => 0)))]) H := hP
  have hD : va_D A ([(h0, .inr (2, [.null, .ref a8, .ref a17, .null, .int 0, .int 0, .int 0, .int 0, .int 0, .int 0, .int 0, .int 0])), (a8, .inl (cy 0, 8192, .inl (fun _ => 0))), (a17, .inl (cy 1, 8192, .inr (.inl (fun _ => 0)))), (a26, .inl (cy 0, 10240, .inl (fun _ => 0)))]) := hD
  refine va_putF (D := (dC, dI)) (ci := 2) (v := .ref a26) (ty := .array .int) (C := RX2) (T := TX2) (N := 12) hx hb hts in_X2 tyX2 tyX2_ok nmX2 hown hK.1 hP hD hS 0 rfl rfl 3 (by decide) (hts _ q99) (fun _ h9 => h9) rfl hin rfl (by decide +kernel) rfl rfl (Nat.le_of_ble_eq_true rfl) dX2_init_28 (fun H locs hP hD hS => ?_)
  have hP : va_P (dC, dI) classes ([(h0, .inr (2, [.null, .ref a8, .ref a17, .ref a26, .int 0, .int 0, .int 0, .int 0, .int 0, .int 0, .int 0, .int 0])), (a8, .inl (cy 0, 8192, .inl (fun _ => 0))), (a17, .inl (cy 1, 8192, .inr (.inl (fun _ => 0)))), (a26, .inl (cy 0, 10240, .inl (fun _ => 0)))]) H := hP
  have hD : va_D A ([(h0, .inr (2, [.null, .ref a8, .ref a17, .ref a26, .int 0, .int 0, .int 0, .int 0, .int 0, .int 0, .int 0, .int 0])), (a8, .inl (cy 0, 8192, .inl (fun _ => 0))), (a17, .inl (cy 1, 8192, .inr (.inl (fun _ => 0)))), (a26, .inl (cy 0, 10240, .inl (fun _ => 0)))]) := hD
  refine lv_aload_n hx hb dX2_init_31 rfl (lv_at hl 0 rfl) ?_
  refine lv_iconst (v := (-1)) hx hb dX2_init_32 (by decide) ?_
  refine va_put (D := (dC, dI)) (ci := 2) (v := .int (-1)) (ty := .int) (C := RX2) (T := TX2) (N := 12) hx hb hts in_X2 tyX2 tyX2_ok nmX2 hown hK.1 hP hD hS 0 rfl rfl 5 (by decide) (hts _ q102) (fun _ h9 => h9) rfl (by decide +kernel) rfl rfl (Nat.le_of_ble_eq_true rfl) dX2_init_33 (fun H locs hP hD hS => ?_)
  have hP : va_P (dC, dI) classes ([(h0, .inr (2, [.null, .ref a8, .ref a17, .ref a26, .int 0, .int (-1), .int 0, .int 0, .int 0, .int 0, .int 0, .int 0])), (a8, .inl (cy 0, 8192, .inl (fun _ => 0))), (a17, .inl (cy 1, 8192, .inr (.inl (fun _ => 0)))), (a26, .inl (cy 0, 10240, .inl (fun _ => 0)))]) H := hP
  have hD : va_D A ([(h0, .inr (2, [.null, .ref a8, .ref a17, .ref a26, .int 0, .int (-1), .int 0, .int 0, .int 0, .int 0, .int 0, .int 0])), (a8, .inl (cy 0, 8192, .inl (fun _ => 0))), (a17, .inl (cy 1, 8192, .inr (.inl (fun _ => 0)))), (a26, .inl (cy 0, 10240, .inl (fun _ => 0)))]) := hD
  refine lv_aload_n hx hb dX2_init_36 rfl (lv_at hl 0 rfl) ?_
  refine lv_iconst (v := 0) hx hb dX2_init_37 (by decide) ?_
  refine va_put (D := (dC, dI)) (ci := 2) (v := .int 0) (ty := .int) (C := RX2) (T := TX2) (N := 12) hx hb hts in_X2 tyX2 tyX2_ok nmX2 hown hK.1 hP hD hS 0 rfl rfl 10 (by decide) (hts _ q111) (fun _ h9 => h9) rfl (by decide +kernel) rfl rfl (Nat.le_of_ble_eq_true rfl) dX2_init_38 (fun H locs hP hD hS => ?_)
  have hP : va_P (dC, dI) classes ([(h0, .inr (2, [.null, .ref a8, .ref a17, .ref a26, .int 0, .int (-1), .int 0, .int 0, .int 0, .int 0, .int 0, .int 0])), (a8, .inl (cy 0, 8192, .inl (fun _ => 0))), (a17, .inl (cy 1, 8192, .inr (.inl (fun _ => 0)))), (a26, .inl (cy 0, 10240, .inl (fun _ => 0)))]) H := hP
  have hD : va_D A ([(h0, .inr (2, [.null, .ref a8, .ref a17, .ref a26, .int 0, .int (-1), .int 0, .int 0, .int 0, .int 0, .int 0, .int 0])), (a8, .inl (cy 0, 8192, .inl (fun _ => 0))), (a17, .inl (cy 1, 8192, .inr (.inl (fun _ => 0)))), (a26, .inl (cy 0, 10240, .inl (fun _ => 0)))]) := hD
  refine lv_aload_n hx hb dX2_init_41 rfl (lv_at hl 0 rfl) ?_
  refine lv_aload_n hx hb dX2_init_42 rfl (lv_at hl 1 rfl) ?_
  refine va_putF (D := (dC, dI)) (ci := 2) (v := .ref hb0) (ty := .object "PegshoreHouse$Board") (C := RX2) (T := TX2) (N := 12) hx hb hts in_X2 tyX2 tyX2_ok nmX2 hown hK.1 hP hD hS 0 rfl rfl 0 (by decide) (hts _ q96) (fun _ h9 => h9) rfl hin rfl (by decide +kernel) rfl rfl (Nat.le_of_ble_eq_true rfl) dX2_init_43 (fun H locs hP hD hS => ?_)
  have hP : va_P (dC, dI) classes ([(h0, .inr (2, [.ref hb0, .ref a8, .ref a17, .ref a26, .int 0, .int (-1), .int 0, .int 0, .int 0, .int 0, .int 0, .int 0])), (a8, .inl (cy 0, 8192, .inl (fun _ => 0))), (a17, .inl (cy 1, 8192, .inr (.inl (fun _ => 0)))), (a26, .inl (cy 0, 10240, .inl (fun _ => 0)))]) H := hP
  have hD : va_D A ([(h0, .inr (2, [.ref hb0, .ref a8, .ref a17, .ref a26, .int 0, .int (-1), .int 0, .int 0, .int 0, .int 0, .int 0, .int 0])), (a8, .inl (cy 0, 8192, .inl (fun _ => 0))), (a17, .inl (cy 1, 8192, .inr (.inl (fun _ => 0)))), (a26, .inl (cy 0, 10240, .inl (fun _ => 0)))]) := hD
  have hP9 := hP.sub (ws' := [(h0, .inr (2, [.ref hb0, .ref a8, .ref a17, .ref a26, .int 0, .int (-1), .int 0, .int 0, .int 0, .int 0, .int 0, .int 0])), (a8, .inl (cy 0, 8192, .inl (fun _ => 0))), (a17, .inl (cy 1, 8192, .inr (.inl (fun _ => 0)))), (a26, .inl (cy 0, 10240, .inl (fun _ => 0)))]) [0, 1, 2, 3] rfl
  have hD9 := hD.sub (ws' := [(h0, .inr (2, [.ref hb0, .ref a8, .ref a17, .ref a26, .int 0, .int (-1), .int 0, .int 0, .int 0, .int 0, .int 0, .int 0])), (a8, .inl (cy 0, 8192, .inl (fun _ => 0))), (a17, .inl (cy 1, 8192, .inr (.inl (fun _ => 0)))), (a26, .inl (cy 0, 10240, .inl (fun _ => 0)))]) [0, 1, 2, 3] (by decide) rfl
  refine W.widen (k := 3) (n := 26624) (Nat.le_of_ble_eq_true rfl) (Nat.le_of_ble_eq_true rfl) ?_
  exact W.vret hx hb hr (fun t ht hW => ⟨⟨(), rfl, trivial, a8, a17, a26, by rw [ht]; exact hP9, hD9⟩, hS.F ht⟩) hS.2.2 dX2_init_46
theorem dX3_init_0 : decode cX3_init 0 = .ok (.aload_n 0, 1) := by decide +kernel
theorem dX3_init_1 : decode cX3_init 1 = .ok (.invokespecial 1, 3) := by decide +kernel
theorem dX3_init_4 : decode cX3_init 4 = .ok (.new 7, 3) := by decide +kernel
theorem dX3_init_7 : decode cX3_init 7 = .ok (.dup, 1) := by decide +kernel
theorem dX3_init_8 : decode cX3_init 8 = .ok (.invokespecial 9, 3) := by decide +kernel
theorem dX3_init_11 : decode cX3_init 11 = .ok (.astore_n 1, 1) := by decide +kernel
theorem dX3_init_12 : decode cX3_init 12 = .ok (.aload_n 0, 1) := by decide +kernel
theorem dX3_init_13 : decode cX3_init 13 = .ok (.aload_n 1, 1) := by decide +kernel
theorem dX3_init_14 : decode cX3_init 14 = .ok (.putfield 10, 3) := by decide +kernel
theorem dX3_init_17 : decode cX3_init 17 = .ok (.aload_n 0, 1) := by decide +kernel
theorem dX3_init_18 : decode cX3_init 18 = .ok (.new 16, 3) := by decide +kernel
theorem dX3_init_21 : decode cX3_init 21 = .ok (.dup, 1) := by decide +kernel
theorem dX3_init_22 : decode cX3_init 22 = .ok (.aload_n 1, 1) := by decide +kernel
theorem dX3_init_23 : decode cX3_init 23 = .ok (.invokespecial 18, 3) := by decide +kernel
theorem dX3_init_26 : decode cX3_init 26 = .ok (.putfield 21, 3) := by decide +kernel
theorem dX3_init_29 : decode cX3_init 29 = .ok (.aload_n 0, 1) := by decide +kernel
theorem dX3_init_30 : decode cX3_init 30 = .ok (.new 25, 3) := by decide +kernel
theorem dX3_init_33 : decode cX3_init 33 = .ok (.dup, 1) := by decide +kernel
theorem dX3_init_34 : decode cX3_init 34 = .ok (.bipush 12, 2) := by decide +kernel
theorem dX3_init_36 : decode cX3_init 36 = .ok (.invokespecial 27, 3) := by decide +kernel
theorem dX3_init_39 : decode cX3_init 39 = .ok (.putfield 30, 3) := by decide +kernel
theorem dX3_init_42 : decode cX3_init 42 = .ok (.aload_n 0, 1) := by decide +kernel
theorem dX3_init_43 : decode cX3_init 43 = .ok (.new 25, 3) := by decide +kernel
theorem dX3_init_46 : decode cX3_init 46 = .ok (.dup, 1) := by decide +kernel
theorem dX3_init_47 : decode cX3_init 47 = .ok (.bipush 12, 2) := by decide +kernel
theorem dX3_init_49 : decode cX3_init 49 = .ok (.invokespecial 27, 3) := by decide +kernel
theorem dX3_init_52 : decode cX3_init 52 = .ok (.putfield 34, 3) := by decide +kernel
theorem dX3_init_55 : decode cX3_init 55 = .ok (.return_, 1) := by decide +kernel
set_option maxHeartbeats 4000000 in
set_option maxRecDepth 100000 in
theorem m_X3_init (l : Launch) (dC : Nat → ClassId) (dI : Nat → Nat → Nat) (h0 : Nat) (cy : Nat → ClassId) (sz : Nat) : Met l yX3_init (ws_ yX3_init cX3_init 2 none) ({ frames := 3, cells := 20, slots := 27136, locals := 92 } : Room) (va_Pc [.ref h0] (PcI dC dI cy ([(h0, .inr (3, [.null, .null, .null, .null, .int 0, .int 0]))]) sz)) (va_Qv (fun _ => True) (fun (_ : Unit) t => ∃ (h : Nat → Nat), h 16 = h0 ∧ va_P (dC, dI) classes (wH h cy sgm0) t.heap ∧ va_D (va_A ([(h0, .inr (3, [.null, .null, .null, .null, .int 0, .int 0]))]) sz) (wH h cy sgm0)) (va_A ([(h0, .inr (3, [.null, .null, .null, .null, .int 0, .int 0]))]) sz)) 20 27136 (va_A ([(h0, .inr (3, [.null, .null, .null, .null, .int 0, .int 0]))]) sz) := by
  refine Met.ofCxN (own := RX3) (by decide) rfl rfl (Nat.le_of_ble_eq_true rfl) ?_
  intro p e s m below meth c hC hin hv ls hl
  obtain ⟨hx, hb, hr, hml, hown, hts, hlocks⟩ := hC
  have hl : lv_has ls 2 [(0, .ref h0)] := hl
  obtain ⟨hsz, hP, hK, hD0⟩ := hv
  subst hsz
  have hD := hD0.self (sz := s.heap.size)
  generalize hAe : va_A ([(h0, .inr (3, [.null, .null, .null, .null, .int 0, .int 0]))]) s.heap.size = A at hD ⊢
  have hA : ∀ q : Nat, s.heap.size ≤ q → A q := fun q h => by rw [← hAe]; exact Or.inr h
  have hS : va_S A s.heap s.heap [] := va_S.rf
  clear hAe
  refine lv_aload_n hx hb dX3_init_0 rfl (lv_at hl 0 rfl) ?_
  refine W.objInit hx hb hown (hts _ q41) (hts _ q42) (hts _ q43) rfl (by rw [hml]; exact hl.1) rfl dX3_init_1 (Nat.le_of_ble_eq_true rfl) (Nat.le_of_ble_eq_true rfl) ?_
  refine W.eq (g2 := F0 m 4 ls []) rfl ?_
  refine va_new (ci := 0) (fs := [.int 0, .int 0, .null, .null, .null, .null, .null, .null]) (C := RX0) (T := TX0) (N := 8) hx hb hts in_X0 tyX0 tyX0_ok hown (hts _ q44) (hts _ q45) (hts _ q2) hK.1 hP hD hS hA rfl (fun j hj => by rcases (show j = 0 ∨ j = 1 ∨ j = 2 ∨ j = 3 ∨ j = 4 ∨ j = 5 ∨ j = 6 ∨ j = 7 by omega) with rfl | rfl | rfl | rfl | rfl | rfl | rfl | rfl <;> rfl) (Nat.le_of_ble_eq_true rfl) (Nat.le_of_ble_eq_true rfl) dX3_init_4 (fun a4 H hP hD hS => ?_)
  have hP : va_P (dC, dI) classes ([(h0, .inr (3, [.null, .null, .null, .null, .int 0, .int 0])), (a4, .inr (0, [.int 0, .int 0, .null, .null, .null, .null, .null, .null]))]) H := hP
  have hD : va_D A ([(h0, .inr (3, [.null, .null, .null, .null, .int 0, .int 0])), (a4, .inr (0, [.int 0, .int 0, .null, .null, .null, .null, .null, .null]))]) := hD
  refine lv_dup hx hb dX3_init_7 rfl ?_
  have hPc := hP.sub (ws' := [(a4, .inr (0, [.int 0, .int 0, .null, .null, .null, .null, .null, .null]))]) [1] rfl
  have hDc := hD.sub (ws' := [(a4, .inr (0, [.int 0, .int 0, .null, .null, .null, .null, .null, .null]))]) [1] (by decide) rfl
  have hFc := va_free (wc := [(a4, .inr (0, [.int 0, .int 0, .null, .null, .null, .null, .null, .null]))]) hD hS hA [1] rfl
  refine va_callv (va_runIN (As := []) (rest := [.ref a4]) ⟨hx, hb, hml, hown, hts⟩ (m_X0_init l dC dI a4 cy _) ⟨va_cnB 0 hts (ws_good q48) rfl rfl rfl hK.2.1 (hts _ q2) (by decide +kernel) ⟨Nat.le_of_ble_eq_true rfl, Nat.le_of_ble_eq_true rfl⟩, rfl, hts _ q47⟩ (preI hK hPc hDc) rfl rfl hl.1 rfl (lv_room (Nat.le_of_ble_eq_true rfl)) dX3_init_8 ⟨Nat.le_of_ble_eq_true rfl, Nat.le_of_ble_eq_true rfl⟩) hS (fun q _ h => hFc q h) hFc (fun u t H1 locs ht hvm hw hB hz1 hk1 hS => ?_)
  obtain ⟨b1, b2, b3, b4, b5, b6, b7, b8, b9, b10, b11, hP1, hD1⟩ := hB
  rw [ht] at hP1
  obtain ⟨hP, hD⟩ := va_join (wr := [(h0, .inr (3, [.null, .null, .null, .null, .int 0, .int 0]))]) (w1 := [(a4, .inr (0, [.int 115, .int 0, .ref b1, .ref b2, .ref b4, .ref b6, .ref b8, .ref b10])), (b1, .inl (cy 0, 25, .inl (fun _ => 0))), (b2, .inr (1, [.ref b3, .int 0])), (b3, .inl (cy 0, 13, .inl (fun _ => 0))), (b4, .inr (1, [.ref b5, .int 0])), (b5, .inl (cy 0, 104, .inl (fun _ => 0))), (b6, .inr (1, [.ref b7, .int 0])), (b7, .inl (cy 0, 104, .inl (fun _ => 0))), (b8, .inr (1, [.ref b9, .int 0])), (b9, .inl (cy 0, 104, .inl (fun _ => 0))), (b10, .inr (1, [.ref b11, .int 0])), (b11, .inl (cy 0, 104, .inl (fun _ => 0)))]) hP hD [1] [0] rfl rfl (by decide) (by decide) hk1 hFc hP1 hD1
  generalize H1 = H at hP hS ⊢
  have hP : va_P (dC, dI) classes ([(h0, .inr (3, [.null, .null, .null, .null, .int 0, .int 0])), (a4, .inr (0, [.int 115, .int 0, .ref b1, .ref b2, .ref b4, .ref b6, .ref b8, .ref b10])), (b1, .inl (cy 0, 25, .inl (fun _ => 0))), (b2, .inr (1, [.ref b3, .int 0])), (b3, .inl (cy 0, 13, .inl (fun _ => 0))), (b4, .inr (1, [.ref b5, .int 0])), (b5, .inl (cy 0, 104, .inl (fun _ => 0))), (b6, .inr (1, [.ref b7, .int 0])), (b7, .inl (cy 0, 104, .inl (fun _ => 0))), (b8, .inr (1, [.ref b9, .int 0])), (b9, .inl (cy 0, 104, .inl (fun _ => 0))), (b10, .inr (1, [.ref b11, .int 0])), (b11, .inl (cy 0, 104, .inl (fun _ => 0)))]) H := hP
  have hD : va_D A ([(h0, .inr (3, [.null, .null, .null, .null, .int 0, .int 0])), (a4, .inr (0, [.int 115, .int 0, .ref b1, .ref b2, .ref b4, .ref b6, .ref b8, .ref b10])), (b1, .inl (cy 0, 25, .inl (fun _ => 0))), (b2, .inr (1, [.ref b3, .int 0])), (b3, .inl (cy 0, 13, .inl (fun _ => 0))), (b4, .inr (1, [.ref b5, .int 0])), (b5, .inl (cy 0, 104, .inl (fun _ => 0))), (b6, .inr (1, [.ref b7, .int 0])), (b7, .inl (cy 0, 104, .inl (fun _ => 0))), (b8, .inr (1, [.ref b9, .int 0])), (b9, .inl (cy 0, 104, .inl (fun _ => 0))), (b10, .inr (1, [.ref b11, .int 0])), (b11, .inl (cy 0, 104, .inl (fun _ => 0)))]) := hD
  refine lv_astore_n (lv' := [(1, .ref a4), (0, .ref h0)]) hx hb dX3_init_11 rfl hl (by decide) rfl (fun ls hl => ?_)
  refine lv_aload_n hx hb dX3_init_12 rfl (lv_at hl 1 rfl) ?_
  refine lv_aload_n hx hb dX3_init_13 rfl (lv_at hl 0 rfl) ?_
  refine va_putF (D := (dC, dI)) (ci := 3) (v := .ref a4) (ty := .object "PegshoreHouse$Board") (C := RX3) (T := TX3) (N := 6) hx hb hts in_X3 tyX3 tyX3_ok nmX3 hown hK.1 hP hD hS 0 rfl rfl 0 (by decide) (hts _ q141) (fun _ h9 => h9) rfl hin rfl (by decide +kernel) rfl rfl (Nat.le_of_ble_eq_true rfl) dX3_init_14 (fun H locs hP hD hS => ?_)
  have hP : va_P (dC, dI) classes ([(h0, .inr (3, [.ref a4, .null, .null, .null, .int 0, .int 0])), (a4, .inr (0, [.int 115, .int 0, .ref b1, .ref b2, .ref b4, .ref b6, .ref b8, .ref b10])), (b1, .inl (cy 0, 25, .inl (fun _ => 0))), (b2, .inr (1, [.ref b3, .int 0])), (b3, .inl (cy 0, 13, .inl (fun _ => 0))), (b4, .inr (1, [.ref b5, .int 0])), (b5, .inl (cy 0, 104, .inl (fun _ => 0))), (b6, .inr (1, [.ref b7, .int 0])), (b7, .inl (cy 0, 104, .inl (fun _ => 0))), (b8, .inr (1, [.ref b9, .int 0])), (b9, .inl (cy 0, 104, .inl (fun _ => 0))), (b10, .inr (1, [.ref b11, .int 0])), (b11, .inl (cy 0, 104, .inl (fun _ => 0)))]) H := hP
  have hD : va_D A ([(h0, .inr (3, [.ref a4, .null, .null, .null, .int 0, .int 0])), (a4, .inr (0, [.int 115, .int 0, .ref b1, .ref b2, .ref b4, .ref b6, .ref b8, .ref b10])), (b1, .inl (cy 0, 25, .inl (fun _ => 0))), (b2, .inr (1, [.ref b3, .int 0])), (b3, .inl (cy 0, 13, .inl (fun _ => 0))), (b4, .inr (1, [.ref b5, .int 0])), (b5, .inl (cy 0, 104, .inl (fun _ => 0))), (b6, .inr (1, [.ref b7, .int 0])), (b7, .inl (cy 0, 104, .inl (fun _ => 0))), (b8, .inr (1, [.ref b9, .int 0])), (b9, .inl (cy 0, 104, .inl (fun _ => 0))), (b10, .inr (1, [.ref b11, .int 0])), (b11, .inl (cy 0, 104, .inl (fun _ => 0)))]) := hD
  refine lv_aload_n hx hb dX3_init_17 rfl (lv_at hl 1 rfl) ?_
  refine va_new (ci := 2) (fs := [.null, .null, .null, .null, .int 0, .int 0, .int 0, .int 0, .int 0, .int 0, .int 0, .int 0]) (C := RX2) (T := TX2) (N := 12) hx hb hts in_X2 tyX2 tyX2_ok hown (hts _ q90) (hts _ q91) (hts _ q4) hK.1 hP hD hS hA rfl (fun j hj => by rcases (show j = 0 ∨ j = 1 ∨ j = 2 ∨ j = 3 ∨ j = 4 ∨ j = 5 ∨ j = 6 ∨ j = 7 ∨ j = 8 ∨ j = 9 ∨ j = 10 ∨ j = 11 by omega) with rfl | rfl | rfl | rfl | rfl | rfl | rfl | rfl | rfl | rfl | rfl | rfl <;> rfl) (Nat.le_of_ble_eq_true rfl) (Nat.le_of_ble_eq_true rfl) dX3_init_18 (fun a18 H hP hD hS => ?_)
  have hP : va_P (dC, dI) classes ([(h0, .inr (3, [.ref a4, .null, .null, .null, .int 0, .int 0])), (a4, .inr (0, [.int 115, .int 0, .ref b1, .ref b2, .ref b4, .ref b6, .ref b8, .ref b10])), (b1, .inl (cy 0, 25, .inl (fun _ => 0))), (b2, .inr (1, [.ref b3, .int 0])), (b3, .inl (cy 0, 13, .inl (fun _ => 0))), (b4, .inr (1, [.ref b5, .int 0])), (b5, .inl (cy 0, 104, .inl (fun _ => 0))), (b6, .inr (1, [.ref b7, .int 0])), (b7, .inl (cy 0, 104, .inl (fun _ => 0))), (b8, .inr (1, [.ref b9, .int 0])), (b9, .inl (cy 0, 104, .inl (fun _ => 0))), (b10, .inr (1, [.ref b11, .int 0])), (b11, .inl (cy 0, 104, .inl (fun _ => 0))), (a18, .inr (2, [.null, .null, .null, .null, .int 0, .int 0, .int 0, .int 0, .int 0, .int 0, .int 0, .int 0]))]) H := hP
  have hD : va_D A ([(h0, .inr (3, [.ref a4, .null, .null, .null, .int 0, .int 0])), (a4, .inr (0, [.int 115, .int 0, .ref b1, .ref b2, .ref b4, .ref b6, .ref b8, .ref b10])), (b1, .inl (cy 0, 25, .inl (fun _ => 0))), (b2, .inr (1, [.ref b3, .int 0])), (b3, .inl (cy 0, 13, .inl (fun _ => 0))), (b4, .inr (1, [.ref b5, .int 0])), (b5, .inl (cy 0, 104, .inl (fun _ => 0))), (b6, .inr (1, [.ref b7, .int 0])), (b7, .inl (cy 0, 104, .inl (fun _ => 0))), (b8, .inr (1, [.ref b9, .int 0])), (b9, .inl (cy 0, 104, .inl (fun _ => 0))), (b10, .inr (1, [.ref b11, .int 0])), (b11, .inl (cy 0, 104, .inl (fun _ => 0))), (a18, .inr (2, [.null, .null, .null, .null, .int 0, .int 0, .int 0, .int 0, .int 0, .int 0, .int 0, .int 0]))]) := hD
  refine lv_dup hx hb dX3_init_21 rfl ?_
  refine lv_aload_n hx hb dX3_init_22 rfl (lv_at hl 0 rfl) ?_
  have hPc := hP.sub (ws' := [(a18, .inr (2, [.null, .null, .null, .null, .int 0, .int 0, .int 0, .int 0, .int 0, .int 0, .int 0, .int 0]))]) [13] rfl
  have hDc := hD.sub (ws' := [(a18, .inr (2, [.null, .null, .null, .null, .int 0, .int 0, .int 0, .int 0, .int 0, .int 0, .int 0, .int 0]))]) [13] (by decide) rfl
  have hFc := va_free (wc := [(a18, .inr (2, [.null, .null, .null, .null, .int 0, .int 0, .int 0, .int 0, .int 0, .int 0, .int 0, .int 0]))]) hD hS hA [13] rfl
  refine va_callv (va_runI (As := [.ref a4]) (rest := [.ref a18, .ref h0]) ⟨hx, hb, hml, hown, hts⟩ (m_X2_init l dC dI a18 a4 cy _) (cwI 1 hts (ws_good q94) rfl rfl rfl (hts _ q4) (hts _ q92) (hts _ q93) rfl (by decide +kernel) ⟨Nat.le_of_ble_eq_true rfl, Nat.le_of_ble_eq_true rfl⟩) (preI hK hPc hDc) rfl rfl hl.1 rfl (lv_room (Nat.le_of_ble_eq_true rfl)) dX3_init_23 ⟨Nat.le_of_ble_eq_true rfl, Nat.le_of_ble_eq_true rfl⟩) hS (fun q _ h => hFc q h) hFc (fun u t H1 locs ht hvm hw hB hz1 hk1 hS => ?_)
  obtain ⟨w1, w2, w3, hP1, hD1⟩ := hB
  rw [ht] at hP1
  obtain ⟨hP, hD⟩ := va_join (wr := [(h0, .inr (3, [.ref a4, .null, .null, .null, .int 0, .int 0])), (a4, .inr (0, [.int 115, .int 0, .ref b1, .ref b2, .ref b4, .ref b6, .ref b8, .ref b10])), (b1, .inl (cy 0, 25, .inl (fun _ => 0))), (b2, .inr (1, [.ref b3, .int 0])), (b3, .inl (cy 0, 13, .inl (fun _ => 0))), (b4, .inr (1, [.ref b5, .int 0])), (b5, .inl (cy 0, 104, .inl (fun _ => 0))), (b6, .inr (1, [.ref b7, .int 0])), (b7, .inl (cy 0, 104, .inl (fun _ => 0))), (b8, .inr (1, [.ref b9, .int 0])), (b9, .inl (cy 0, 104, .inl (fun _ => 0))), (b10, .inr (1, [.ref b11, .int 0])), (b11, .inl (cy 0, 104, .inl (fun _ => 0)))]) (w1 := [(a18, .inr (2, [.ref a4, .ref w1, .ref w2, .ref w3, .int 0, .int (-1), .int 0, .int 0, .int 0, .int 0, .int 0, .int 0])), (w1, .inl (cy 0, 8192, .inl (fun _ => 0))), (w2, .inl (cy 1, 8192, .inr (.inl (fun _ => 0)))), (w3, .inl (cy 0, 10240, .inl (fun _ => 0)))]) hP hD [13] [0, 1, 2, 3, 4, 5, 6, 7, 8, 9, 10, 11, 12] rfl rfl (by decide) (by decide) hk1 hFc hP1 hD1
  generalize H1 = H at hP hS ⊢
  have hP : va_P (dC, dI) classes ([(h0, .inr (3, [.ref a4, .null, .null, .null, .int 0, .int 0])), (a4, .inr (0, [.int 115, .int 0, .ref b1, .ref b2, .ref b4, .ref b6, .ref b8, .ref b10])), (b1, .inl (cy 0, 25, .inl (fun _ => 0))), (b2, .inr (1, [.ref b3, .int 0])), (b3, .inl (cy 0, 13, .inl (fun _ => 0))), (b4, .inr (1, [.ref b5, .int 0])), (b5, .inl (cy 0, 104, .inl (fun _ => 0))), (b6, .inr (1, [.ref b7, .int 0])), (b7, .inl (cy 0, 104, .inl (fun _ => 0))), (b8, .inr (1, [.ref b9, .int 0])), (b9, .inl (cy 0, 104, .inl (fun _ => 0))), (b10, .inr (1, [.ref b11, .int 0])), (b11, .inl (cy 0, 104, .inl (fun _ => 0))), (a18, .inr (2, [.ref a4, .ref w1, .ref w2, .ref w3, .int 0, .int (-1), .int 0, .int 0, .int 0, .int 0, .int 0, .int 0])), (w1, .inl (cy 0, 8192, .inl (fun _ => 0))), (w2, .inl (cy 1, 8192, .inr (.inl (fun _ => 0)))), (w3, .inl (cy 0, 10240, .inl (fun _ => 0)))]) H := hP
  have hD : va_D A ([(h0, .inr (3, [.ref a4, .null, .null, .null, .int 0, .int 0])), (a4, .inr (0, [.int 115, .int 0, .ref b1, .ref b2, .ref b4, .ref b6, .ref b8, .ref b10])), (b1, .inl (cy 0, 25, .inl (fun _ => 0))), (b2, .inr (1, [.ref b3, .int 0])), (b3, .inl (cy 0, 13, .inl (fun _ => 0))), (b4, .inr (1, [.ref b5, .int 0])), (b5, .inl (cy 0, 104, .inl (fun _ => 0))), (b6, .inr (1, [.ref b7, .int 0])), (b7, .inl (cy 0, 104, .inl (fun _ => 0))), (b8, .inr (1, [.ref b9, .int 0])), (b9, .inl (cy 0, 104, .inl (fun _ => 0))), (b10, .inr (1, [.ref b11, .int 0])), (b11, .inl (cy 0, 104, .inl (fun _ => 0))), (a18, .inr (2, [.ref a4, .ref w1, .ref w2, .ref w3, .int 0, .int (-1), .int 0, .int 0, .int 0, .int 0, .int 0, .int 0])), (w1, .inl (cy 0, 8192, .inl (fun _ => 0))), (w2, .inl (cy 1, 8192, .inr (.inl (fun _ => 0)))), (w3, .inl (cy 0, 10240, .inl (fun _ => 0)))]) := hD
  refine va_putF (D := (dC, dI)) (ci := 3) (v := .ref a18) (ty := .object "PegshoreHouse$Walk") (C := RX3) (T := TX3) (N := 6) hx hb hts in_X3 tyX3 tyX3_ok nmX3 hown hK.1 hP hD hS 0 rfl rfl 1 (by decide) (hts _ q142) (fun _ h9 => h9) rfl hin rfl (by decide +kernel) rfl rfl (Nat.le_of_ble_eq_true rfl) dX3_init_26 (fun H locs hP hD hS => ?_)
  have hP : va_P (dC, dI) classes ([(h0, .inr (3, [.ref a4, .ref a18, .null, .null, .int 0, .int 0])), (a4, .inr (0, [.int 115, .int 0, .ref b1, .ref b2, .ref b4, .ref b6, .ref b8, .ref b10])), (b1, .inl (cy 0, 25, .inl (fun _ => 0))), (b2, .inr (1, [.ref b3, .int 0])), (b3, .inl (cy 0, 13, .inl (fun _ => 0))), (b4, .inr (1, [.ref b5, .int 0])), (b5, .inl (cy 0, 104, .inl (fun _ => 0))), (b6, .inr (1, [.ref b7, .int 0])), (b7, .inl (cy 0, 104, .inl (fun _ => 0))), (b8, .inr (1, [.ref b9, .int 0])), (b9, .inl (cy 0, 104, .inl (fun _ => 0))), (b10, .inr (1, [.ref b11, .int 0])), (b11, .inl (cy 0, 104, .inl (fun _ => 0))), (a18, .inr (2, [.ref a4, .ref w1, .ref w2, .ref w3, .int 0, .int (-1), .int 0, .int 0, .int 0, .int 0, .int 0, .int 0])), (w1, .inl (cy 0, 8192, .inl (fun _ => 0))), (w2, .inl (cy 1, 8192, .inr (.inl (fun _ => 0)))), (w3, .inl (cy 0, 10240, .inl (fun _ => 0)))]) H := hP
  have hD : va_D A ([(h0, .inr (3, [.ref a4, .ref a18, .null, .null, .int 0, .int 0])), (a4, .inr (0, [.int 115, .int 0, .ref b1, .ref b2, .ref b4, .ref b6, .ref b8, .ref b10])), (b1, .inl (cy 0, 25, .inl (fun _ => 0))), (b2, .inr (1, [.ref b3, .int 0])), (b3, .inl (cy 0, 13, .inl (fun _ => 0))), (b4, .inr (1, [.ref b5, .int 0])), (b5, .inl (cy 0, 104, .inl (fun _ => 0))), (b6, .inr (1, [.ref b7, .int 0])), (b7, .inl (cy 0, 104, .inl (fun _ => 0))), (b8, .inr (1, [.ref b9, .int 0])), (b9, .inl (cy 0, 104, .inl (fun _ => 0))), (b10, .inr (1, [.ref b11, .int 0])), (b11, .inl (cy 0, 104, .inl (fun _ => 0))), (a18, .inr (2, [.ref a4, .ref w1, .ref w2, .ref w3, .int 0, .int (-1), .int 0, .int 0, .int 0, .int 0, .int 0, .int 0])), (w1, .inl (cy 0, 8192, .inl (fun _ => 0))), (w2, .inl (cy 1, 8192, .inr (.inl (fun _ => 0)))), (w3, .inl (cy 0, 10240, .inl (fun _ => 0)))]) := hD
  refine lv_aload_n hx hb dX3_init_29 rfl (lv_at hl 1 rfl) ?_
  refine va_new (ci := 1) (fs := [.null, .int 0]) (C := RX1) (T := TX1) (N := 2) hx hb hts in_X1 tyX1 tyX1_ok hown (hts _ q139) (hts _ q51) (hts _ q3) hK.1 hP hD hS hA rfl (fun j hj => by rcases (show j = 0 ∨ j = 1 by omega) with rfl | rfl <;> rfl) (Nat.le_of_ble_eq_true rfl) (Nat.le_of_ble_eq_true rfl) dX3_init_30 (fun a30 H hP hD hS => ?_)
  have hP : va_P (dC, dI) classes ([(h0, .inr (3, [.ref a4, .ref a18, .null, .null, .int 0, .int 0])), (a4, .inr (0, [.int 115, .int 0, .ref b1, .ref b2, .ref b4, .ref b6, .ref b8, .ref b10])), (b1, .inl (cy 0, 25, .inl (fun _ => 0))), (b2, .inr (1, [.ref b3, .int 0])), (b3, .inl (cy 0, 13, .inl (fun _ => 0))), (b4, .inr (1, [.ref b5, .int 0])), (b5, .inl (cy 0, 104, .inl (fun _ => 0))), (b6, .inr (1, [.ref b7, .int 0])), (b7, .inl (cy 0, 104, .inl (fun _ => 0))), (b8, .inr (1, [.ref b9, .int 0])), (b9, .inl (cy 0, 104, .inl (fun _ => 0))), (b10, .inr (1, [.ref b11, .int 0])), (b11, .inl (cy 0, 104, .inl (fun _ => 0))), (a18, .inr (2, [.ref a4, .ref w1, .ref w2, .ref w3, .int 0, .int (-1), .int 0, .int 0, .int 0, .int 0, .int 0, .int 0])), (w1, .inl (cy 0, 8192, .inl (fun _ => 0))), (w2, .inl (cy 1, 8192, .inr (.inl (fun _ => 0)))), (w3, .inl (cy 0, 10240, .inl (fun _ => 0))), (a30, .inr (1, [.null, .int 0]))]) H := hP
  have hD : va_D A ([(h0, .inr (3, [.ref a4, .ref a18, .null, .null, .int 0, .int 0])), (a4, .inr (0, [.int 115, .int 0, .ref b1, .ref b2, .ref b4, .ref b6, .ref b8, .ref b10])), (b1, .inl (cy 0, 25, .inl (fun _ => 0))), (b2, .inr (1, [.ref b3, .int 0])), (b3, .inl (cy 0, 13, .inl (fun _ => 0))), (b4, .inr (1, [.ref b5, .int 0])), (b5, .inl (cy 0, 104, .inl (fun _ => 0))), (b6, .inr (1, [.ref b7, .int 0])), (b7, .inl (cy 0, 104, .inl (fun _ => 0))), (b8, .inr (1, [.ref b9, .int 0])), (b9, .inl (cy 0, 104, .inl (fun _ => 0))), (b10, .inr (1, [.ref b11, .int 0])), (b11, .inl (cy 0, 104, .inl (fun _ => 0))), (a18, .inr (2, [.ref a4, .ref w1, .ref w2, .ref w3, .int 0, .int (-1), .int 0, .int 0, .int 0, .int 0, .int 0, .int 0])), (w1, .inl (cy 0, 8192, .inl (fun _ => 0))), (w2, .inl (cy 1, 8192, .inr (.inl (fun _ => 0)))), (w3, .inl (cy 0, 10240, .inl (fun _ => 0))), (a30, .inr (1, [.null, .int 0]))]) := hD
  refine lv_dup hx hb dX3_init_33 rfl ?_
  refine lv_bipush (v := 12) hx hb dX3_init_34 (by decide) ?_
  have hPc := hP.sub (ws' := [(a30, .inr (1, [.null, .int 0]))]) [17] rfl
  have hDc := hD.sub (ws' := [(a30, .inr (1, [.null, .int 0]))]) [17] (by decide) rfl
  have hFc := va_free (wc := [(a30, .inr (1, [.null, .int 0]))]) hD hS hA [17] rfl
  refine va_callv (va_runI (As := [.int 12]) (rest := [.ref a30, .ref h0]) ⟨hx, hb, hml, hown, hts⟩ (m_X1_init l dC dI a30 cy _ 12 12 (by decide) (by decide) (by decide) (Nat.le_of_ble_eq_true rfl)) (cwI 1 hts (ws_good q54) rfl rfl rfl (hts _ q3) (hts _ q140) (hts _ q53) rfl (by decide +kernel) ⟨Nat.le_of_ble_eq_true rfl, Nat.le_of_ble_eq_true rfl⟩) (preI hK hPc hDc) rfl rfl hl.1 rfl (lv_room (Nat.le_of_ble_eq_true rfl)) dX3_init_36 ⟨Nat.le_of_ble_eq_true rfl, Nat.le_of_ble_eq_true rfl⟩) hS (fun q _ h => hFc q h) hFc (fun u t H1 locs ht hvm hw hB hz1 hk1 hS => ?_)
  obtain ⟨ba30, hP1, hD1⟩ := hB
  rw [ht] at hP1
  obtain ⟨hP, hD⟩ := va_join (wr := [(h0, .inr (3, [.ref a4, .ref a18, .null, .null, .int 0, .int 0])), (a4, .inr (0, [.int 115, .int 0, .ref b1, .ref b2, .ref b4, .ref b6, .ref b8, .ref b10])), (b1, .inl (cy 0, 25, .inl (fun _ => 0))), (b2, .inr (1, [.ref b3, .int 0])), (b3, .inl (cy 0, 13, .inl (fun _ => 0))), (b4, .inr (1, [.ref b5, .int 0])), (b5, .inl (cy 0, 104, .inl (fun _ => 0))), (b6, .inr (1, [.ref b7, .int 0])), (b7, .inl (cy 0, 104, .inl (fun _ => 0))), (b8, .inr (1, [.ref b9, .int 0])), (b9, .inl (cy 0, 104, .inl (fun _ => 0))), (b10, .inr (1, [.ref b11, .int 0])), (b11, .inl (cy 0, 104, .inl (fun _ => 0))), (a18, .inr (2, [.ref a4, .ref w1, .ref w2, .ref w3, .int 0, .int (-1), .int 0, .int 0, .int 0, .int 0, .int 0, .int 0])), (w1, .inl (cy 0, 8192, .inl (fun _ => 0))), (w2, .inl (cy 1, 8192, .inr (.inl (fun _ => 0)))), (w3, .inl (cy 0, 10240, .inl (fun _ => 0)))]) (w1 := [(a30, .inr (1, [.ref ba30, .int 0])), (ba30, .inl (cy 0, 12, .inl (fun _ => 0)))]) hP hD [17] [0, 1, 2, 3, 4, 5, 6, 7, 8, 9, 10, 11, 12, 13, 14, 15, 16] rfl rfl (by decide) (by decide) hk1 hFc hP1 hD1
  generalize H1 = H at hP hS ⊢
  have hP : va_P (dC, dI) classes ([(h0, .inr (3, [.ref a4, .ref a18, .null, .null, .int 0, .int 0])), (a4, .inr (0, [.int 115, .int 0, .ref b1, .ref b2, .ref b4, .ref b6, .ref b8, .ref b10])), (b1, .inl (cy 0, 25, .inl (fun _ => 0))), (b2, .inr (1, [.ref b3, .int 0])), (b3, .inl (cy 0, 13, .inl (fun _ => 0))), (b4, .inr (1, [.ref b5, .int 0])), (b5, .inl (cy 0, 104, .inl (fun _ => 0))), (b6, .inr (1, [.ref b7, .int 0])), (b7, .inl (cy 0, 104, .inl (fun _ => 0))), (b8, .inr (1, [.ref b9, .int 0])), (b9, .inl (cy 0, 104, .inl (fun _ => 0))), (b10, .inr (1, [.ref b11, .int 0])), (b11, .inl (cy 0, 104, .inl (fun _ => 0))), (a18, .inr (2, [.ref a4, .ref w1, .ref w2, .ref w3, .int 0, .int (-1), .int 0, .int 0, .int 0, .int 0, .int 0, .int 0])), (w1, .inl (cy 0, 8192, .inl (fun _ => 0))), (w2, .inl (cy 1, 8192, .inr (.inl (fun _ => 0)))), (w3, .inl (cy 0, 10240, .inl (fun _ => 0))), (a30, .inr (1, [.ref ba30, .int 0])), (ba30, .inl (cy 0, 12, .inl (fun _ => 0)))]) H := hP
  have hD : va_D A ([(h0, .inr (3, [.ref a4, .ref a18, .null, .null, .int 0, .int 0])), (a4, .inr (0, [.int 115, .int 0, .ref b1, .ref b2, .ref b4, .ref b6, .ref b8, .ref b10])), (b1, .inl (cy 0, 25, .inl (fun _ => 0))), (b2, .inr (1, [.ref b3, .int 0])), (b3, .inl (cy 0, 13, .inl (fun _ => 0))), (b4, .inr (1, [.ref b5, .int 0])), (b5, .inl (cy 0, 104, .inl (fun _ => 0))), (b6, .inr (1, [.ref b7, .int 0])), (b7, .inl (cy 0, 104, .inl (fun _ => 0))), (b8, .inr (1, [.ref b9, .int 0])), (b9, .inl (cy 0, 104, .inl (fun _ => 0))), (b10, .inr (1, [.ref b11, .int 0])), (b11, .inl (cy 0, 104, .inl (fun _ => 0))), (a18, .inr (2, [.ref a4, .ref w1, .ref w2, .ref w3, .int 0, .int (-1), .int 0, .int 0, .int 0, .int 0, .int 0, .int 0])), (w1, .inl (cy 0, 8192, .inl (fun _ => 0))), (w2, .inl (cy 1, 8192, .inr (.inl (fun _ => 0)))), (w3, .inl (cy 0, 10240, .inl (fun _ => 0))), (a30, .inr (1, [.ref ba30, .int 0])), (ba30, .inl (cy 0, 12, .inl (fun _ => 0)))]) := hD
  refine va_putF (D := (dC, dI)) (ci := 3) (v := .ref a30) (ty := .object "PegshoreHouse$Row") (C := RX3) (T := TX3) (N := 6) hx hb hts in_X3 tyX3 tyX3_ok nmX3 hown hK.1 hP hD hS 0 rfl rfl 2 (by decide) (hts _ q143) (fun _ h9 => h9) rfl hin rfl (by decide +kernel) rfl rfl (Nat.le_of_ble_eq_true rfl) dX3_init_39 (fun H locs hP hD hS => ?_)
  have hP : va_P (dC, dI) classes ([(h0, .inr (3, [.ref a4, .ref a18, .ref a30, .null, .int 0, .int 0])), (a4, .inr (0, [.int 115, .int 0, .ref b1, .ref b2, .ref b4, .ref b6, .ref b8, .ref b10])), (b1, .inl (cy 0, 25, .inl (fun _ => 0))), (b2, .inr (1, [.ref b3, .int 0])), (b3, .inl (cy 0, 13, .inl (fun _ => 0))), (b4, .inr (1, [.ref b5, .int 0])), (b5, .inl (cy 0, 104, .inl (fun _ => 0))), (b6, .inr (1, [.ref b7, .int 0])), (b7, .inl (cy 0, 104, .inl (fun _ => 0))), (b8, .inr (1, [.ref b9, .int 0])), (b9, .inl (cy 0, 104, .inl (fun _ => 0))), (b10, .inr (1, [.ref b11, .int 0])), (b11, .inl (cy 0, 104, .inl (fun _ => 0))), (a18, .inr (2, [.ref a4, .ref w1, .ref w2, .ref w3, .int 0, .int (-1), .int 0, .int 0, .int 0, .int 0, .int 0, .int 0])), (w1, .inl (cy 0, 8192, .inl (fun _ => 0))), (w2, .inl (cy 1, 8192, .inr (.inl (fun _ => 0)))), (w3, .inl (cy 0, 10240, .inl (fun _ => 0))), (a30, .inr (1, [.ref ba30, .int 0])), (ba30, .inl (cy 0, 12, .inl (fun _ => 0)))]) H := hP
  have hD : va_D A ([(h0, .inr (3, [.ref a4, .ref a18, .ref a30, .null, .int 0, .int 0])), (a4, .inr (0, [.int 115, .int 0, .ref b1, .ref b2, .ref b4, .ref b6, .ref b8, .ref b10])), (b1, .inl (cy 0, 25, .inl (fun _ => 0))), (b2, .inr (1, [.ref b3, .int 0])), (b3, .inl (cy 0, 13, .inl (fun _ => 0))), (b4, .inr (1, [.ref b5, .int 0])), (b5, .inl (cy 0, 104, .inl (fun _ => 0))), (b6, .inr (1, [.ref b7, .int 0])), (b7, .inl (cy 0, 104, .inl (fun _ => 0))), (b8, .inr (1, [.ref b9, .int 0])), (b9, .inl (cy 0, 104, .inl (fun _ => 0))), (b10, .inr (1, [.ref b11, .int 0])), (b11, .inl (cy 0, 104, .inl (fun _ => 0))), (a18, .inr (2, [.ref a4, .ref w1, .ref w2, .ref w3, .int 0, .int (-1), .int 0, .int 0, .int 0, .int 0, .int 0, .int 0])), (w1, .inl (cy 0, 8192, .inl (fun _ => 0))), (w2, .inl (cy 1, 8192, .inr (.inl (fun _ => 0)))), (w3, .inl (cy 0, 10240, .inl (fun _ => 0))), (a30, .inr (1, [.ref ba30, .int 0])), (ba30, .inl (cy 0, 12, .inl (fun _ => 0)))]) := hD
  refine lv_aload_n hx hb dX3_init_42 rfl (lv_at hl 1 rfl) ?_
  refine va_new (ci := 1) (fs := [.null, .int 0]) (C := RX1) (T := TX1) (N := 2) hx hb hts in_X1 tyX1 tyX1_ok hown (hts _ q139) (hts _ q51) (hts _ q3) hK.1 hP hD hS hA rfl (fun j hj => by rcases (show j = 0 ∨ j = 1 by omega) with rfl | rfl <;> rfl) (Nat.le_of_ble_eq_true rfl) (Nat.le_of_ble_eq_true rfl) dX3_init_43 (fun a43 H hP hD hS => ?_)
  have hP : va_P (dC, dI) classes ([(h0, .inr (3, [.ref a4, .ref a18, .ref a30, .null, .int 0, .int 0])), (a4, .inr (0, [.int 115, .int 0, .ref b1, .ref b2, .ref b4, .ref b6, .ref b8, .ref b10])), (b1, .inl (cy 0, 25, .inl (fun _ => 0))), (b2, .inr (1, [.ref b3, .int 0])), (b3, .inl (cy 0, 13, .inl (fun _ => 0))), (b4, .inr (1, [.ref b5, .int 0])), (b5, .inl (cy 0, 104, .inl (fun _ => 0))), (b6, .inr (1, [.ref b7, .int 0])), (b7, .inl (cy 0, 104, .inl (fun _ => 0))), (b8, .inr (1, [.ref b9, .int 0])), (b9, .inl (cy 0, 104, .inl (fun _ => 0))), (b10, .inr (1, [.ref b11, .int 0])), (b11, .inl (cy 0, 104, .inl (fun _ => 0))), (a18, .inr (2, [.ref a4, .ref w1, .ref w2, .ref w3, .int 0, .int (-1), .int 0, .int 0, .int 0, .int 0, .int 0, .int 0])), (w1, .inl (cy 0, 8192, .inl (fun _ => 0))), (w2, .inl (cy 1, 8192, .inr (.inl (fun _ => 0)))), (w3, .inl (cy 0, 10240, .inl (fun _ => 0))), (a30, .inr (1, [.ref ba30, .int 0])), (ba30, .inl (cy 0, 12, .inl (fun _ => 0))), (a43, .inr (1, [.null, .int 0]))]) H := hP
  have hD : va_D A ([(h0, .inr (3, [.ref a4, .ref a18, .ref a30, .null, .int 0, .int 0])), (a4, .inr (0, [.int 115, .int 0, .ref b1, .ref b2, .ref b4, .ref b6, .ref b8, .ref b10])), (b1, .inl (cy 0, 25, .inl (fun _ => 0))), (b2, .inr (1, [.ref b3, .int 0])), (b3, .inl (cy 0, 13, .inl (fun _ => 0))), (b4, .inr (1, [.ref b5, .int 0])), (b5, .inl (cy 0, 104, .inl (fun _ => 0))), (b6, .inr (1, [.ref b7, .int 0])), (b7, .inl (cy 0, 104, .inl (fun _ => 0))), (b8, .inr (1, [.ref b9, .int 0])), (b9, .inl (cy 0, 104, .inl (fun _ => 0))), (b10, .inr (1, [.ref b11, .int 0])), (b11, .inl (cy 0, 104, .inl (fun _ => 0))), (a18, .inr (2, [.ref a4, .ref w1, .ref w2, .ref w3, .int 0, .int (-1), .int 0, .int 0, .int 0, .int 0, .int 0, .int 0])), (w1, .inl (cy 0, 8192, .inl (fun _ => 0))), (w2, .inl (cy 1, 8192, .inr (.inl (fun _ => 0)))), (w3, .inl (cy 0, 10240, .inl (fun _ => 0))), (a30, .inr (1, [.ref ba30, .int 0])), (ba30, .inl (cy 0, 12, .inl (fun _ => 0))), (a43, .inr (1, [.null, .int 0]))]) := hD
  refine lv_dup hx hb dX3_init_46 rfl ?_
  refine lv_bipush (v := 12) hx hb dX3_init_47 (by decide) ?_
  have hPc := hP.sub (ws' := [(a43, .inr (1, [.null, .int 0]))]) [19] rfl
  have hDc := hD.sub (ws' := [(a43, .inr (1, [.null, .int 0]))]) [19] (by decide) rfl
  have hFc := va_free (wc := [(a43, .inr (1, [.null, .int 0]))]) hD hS hA [19] rfl
  refine va_callv (va_runI (As := [.int 12]) (rest := [.ref a43, .ref h0]) ⟨hx, hb, hml, hown, hts⟩ (m_X1_init l dC dI a43 cy _ 12 12 (by decide) (by decide) (by decide) (Nat.le_of_ble_eq_true rfl)) (cwI 1 hts (ws_good q54) rfl rfl rfl (hts _ q3) (hts _ q140) (hts _ q53) rfl (by decide +kernel) ⟨Nat.le_of_ble_eq_true rfl, Nat.le_of_ble_eq_true rfl⟩) (preI hK hPc hDc) rfl rfl hl.1 rfl (lv_room (Nat.le_of_ble_eq_true rfl)) dX3_init_49 ⟨Nat.le_of_ble_eq_true rfl, Nat.le_of_ble_eq_true rfl⟩) hS (fun q _ h => hFc q h) hFc (fun u t H1 locs ht hvm hw hB hz1 hk1 hS => ?_)
  obtain ⟨ba43, hP1, hD1⟩ := hB
  rw [ht] at hP1
  obtain ⟨hP, hD⟩ := va_join (wr := [(h0, .inr (3, [.ref a4, .ref a18, .ref a30, .null, .int 0, .int 0])), (a4, .inr (0, [.int 115, .int 0, .ref b1, .ref b2, .ref b4, .ref b6, .ref b8, .ref b10])), (b1, .inl (cy 0, 25, .inl (fun _ => 0))), (b2, .inr (1, [.ref b3, .int 0])), (b3, .inl (cy 0, 13, .inl (fun _ => 0))), (b4, .inr (1, [.ref b5, .int 0])), (b5, .inl (cy 0, 104, .inl (fun _ => 0))), (b6, .inr (1, [.ref b7, .int 0])), (b7, .inl (cy 0, 104, .inl (fun _ => 0))), (b8, .inr (1, [.ref b9, .int 0])), (b9, .inl (cy 0, 104, .inl (fun _ => 0))), (b10, .inr (1, [.ref b11, .int 0])), (b11, .inl (cy 0, 104, .inl (fun _ => 0))), (a18, .inr (2, [.ref a4, .ref w1, .ref w2, .ref w3, .int 0, .int (-1), .int 0, .int 0, .int 0, .int 0, .int 0, .int 0])), (w1, .inl (cy 0, 8192, .inl (fun _ => 0))), (w2, .inl (cy 1, 8192, .inr (.inl (fun _ => 0)))), (w3, .inl (cy 0, 10240, .inl (fun _ => 0))), (a30, .inr (1, [.ref ba30, .int 0])), (ba30, .inl (cy 0, 12, .inl (fun _ => 0)))]) (w1 := [(a43, .inr (1, [.ref ba43, .int 0])), (ba43, .inl (cy 0, 12, .inl (fun _ => 0)))]) hP hD [19] [0, 1, 2, 3, 4, 5, 6, 7, 8, 9, 10, 11, 12, 13, 14, 15, 16, 17, 18] rfl rfl (by decide) (by decide) hk1 hFc hP1 hD1
  generalize H1 = H at hP hS ⊢
  have hP : va_P (dC, dI) classes ([(h0, .inr (3, [.ref a4, .ref a18, .ref a30, .null, .int 0, .int 0])), (a4, .inr (0, [.int 115, .int 0, .ref b1, .ref b2, .ref b4, .ref b6, .ref b8, .ref b10])), (b1, .inl (cy 0, 25, .inl (fun _ => 0))), (b2, .inr (1, [.ref b3, .int 0])), (b3, .inl (cy 0, 13, .inl (fun _ => 0))), (b4, .inr (1, [.ref b5, .int 0])), (b5, .inl (cy 0, 104, .inl (fun _ => 0))), (b6, .inr (1, [.ref b7, .int 0])), (b7, .inl (cy 0, 104, .inl (fun _ => 0))), (b8, .inr (1, [.ref b9, .int 0])), (b9, .inl (cy 0, 104, .inl (fun _ => 0))), (b10, .inr (1, [.ref b11, .int 0])), (b11, .inl (cy 0, 104, .inl (fun _ => 0))), (a18, .inr (2, [.ref a4, .ref w1, .ref w2, .ref w3, .int 0, .int (-1), .int 0, .int 0, .int 0, .int 0, .int 0, .int 0])), (w1, .inl (cy 0, 8192, .inl (fun _ => 0))), (w2, .inl (cy 1, 8192, .inr (.inl (fun _ => 0)))), (w3, .inl (cy 0, 10240, .inl (fun _ => 0))), (a30, .inr (1, [.ref ba30, .int 0])), (ba30, .inl (cy 0, 12, .inl (fun _ => 0))), (a43, .inr (1, [.ref ba43, .int 0])), (ba43, .inl (cy 0, 12, .inl (fun _ => 0)))]) H := hP
  have hD : va_D A ([(h0, .inr (3, [.ref a4, .ref a18, .ref a30, .null, .int 0, .int 0])), (a4, .inr (0, [.int 115, .int 0, .ref b1, .ref b2, .ref b4, .ref b6, .ref b8, .ref b10])), (b1, .inl (cy 0, 25, .inl (fun _ => 0))), (b2, .inr (1, [.ref b3, .int 0])), (b3, .inl (cy 0, 13, .inl (fun _ => 0))), (b4, .inr (1, [.ref b5, .int 0])), (b5, .inl (cy 0, 104, .inl (fun _ => 0))), (b6, .inr (1, [.ref b7, .int 0])), (b7, .inl (cy 0, 104, .inl (fun _ => 0))), (b8, .inr (1, [.ref b9, .int 0])), (b9, .inl (cy 0, 104, .inl (fun _ => 0))), (b10, .inr (1, [.ref b11, .int 0])), (b11, .inl (cy 0, 104, .inl (fun _ => 0))), (a18, .inr (2, [.ref a4, .ref w1, .ref w2, .ref w3, .int 0, .int (-1), .int 0, .int 0, .int 0, .int 0, .int 0, .int 0])), (w1, .inl (cy 0, 8192, .inl (fun _ => 0))), (w2, .inl (cy 1, 8192, .inr (.inl (fun _ => 0)))), (w3, .inl (cy 0, 10240, .inl (fun _ => 0))), (a30, .inr (1, [.ref ba30, .int 0])), (ba30, .inl (cy 0, 12, .inl (fun _ => 0))), (a43, .inr (1, [.ref ba43, .int 0])), (ba43, .inl (cy 0, 12, .inl (fun _ => 0)))]) := hD
  refine va_putF (D := (dC, dI)) (ci := 3) (v := .ref a43) (ty := .object "PegshoreHouse$Row") (C := RX3) (T := TX3) (N := 6) hx hb hts in_X3 tyX3 tyX3_ok nmX3 hown hK.1 hP hD hS 0 rfl rfl 3 (by decide) (hts _ q144) (fun _ h9 => h9) rfl hin rfl (by decide +kernel) rfl rfl (Nat.le_of_ble_eq_true rfl) dX3_init_52 (fun H locs hP hD hS => ?_)
  have hP : va_P (dC, dI) classes ([(h0, .inr (3, [.ref a4, .ref a18, .ref a30, .ref a43, .int 0, .int 0])), (a4, .inr (0, [.int 115, .int 0, .ref b1, .ref b2, .ref b4, .ref b6, .ref b8, .ref b10])), (b1, .inl (cy 0, 25, .inl (fun _ => 0))), (b2, .inr (1, [.ref b3, .int 0])), (b3, .inl (cy 0, 13, .inl (fun _ => 0))), (b4, .inr (1, [.ref b5, .int 0])), (b5, .inl (cy 0, 104, .inl (fun _ => 0))), (b6, .inr (1, [.ref b7, .int 0])), (b7, .inl (cy 0, 104, .inl (fun _ => 0))), (b8, .inr (1, [.ref b9, .int 0])), (b9, .inl (cy 0, 104, .inl (fun _ => 0))), (b10, .inr (1, [.ref b11, .int 0])), (b11, .inl (cy 0, 104, .inl (fun _ => 0))), (a18, .inr (2, [.ref a4, .ref w1, .ref w2, .ref w3, .int 0, .int (-1), .int 0, .int 0, .int 0, .int 0, .int 0, .int 0])), (w1, .inl (cy 0, 8192, .inl (fun _ => 0))), (w2, .inl (cy 1, 8192, .inr (.inl (fun _ => 0)))), (w3, .inl (cy 0, 10240, .inl (fun _ => 0))), (a30, .inr (1, [.ref ba30, .int 0])), (ba30, .inl (cy 0, 12, .inl (fun _ => 0))), (a43, .inr (1, [.ref ba43, .int 0])), (ba43, .inl (cy 0, 12, .inl (fun _ => 0)))]) H := hP
  have hD : va_D A ([(h0, .inr (3, [.ref a4, .ref a18, .ref a30, .ref a43, .int 0, .int 0])), (a4, .inr (0, [.int 115, .int 0, .ref b1, .ref b2, .ref b4, .ref b6, .ref b8, .ref b10])), (b1, .inl (cy 0, 25, .inl (fun _ => 0))), (b2, .inr (1, [.ref b3, .int 0])), (b3, .inl (cy 0, 13, .inl (fun _ => 0))), (b4, .inr (1, [.ref b5, .int 0])), (b5, .inl (cy 0, 104, .inl (fun _ => 0))), (b6, .inr (1, [.ref b7, .int 0])), (b7, .inl (cy 0, 104, .inl (fun _ => 0))), (b8, .inr (1, [.ref b9, .int 0])), (b9, .inl (cy 0, 104, .inl (fun _ => 0))), (b10, .inr (1, [.ref b11, .int 0])), (b11, .inl (cy 0, 104, .inl (fun _ => 0))), (a18, .inr (2, [.ref a4, .ref w1, .ref w2, .ref w3, .int 0, .int (-1), .int 0, .int 0, .int 0, .int 0, .int 0, .int 0])), (w1, .inl (cy 0, 8192, .inl (fun _ => 0))), (w2, .inl (cy 1, 8192, .inr (.inl (fun _ => 0)))), (w3, .inl (cy 0, 10240, .inl (fun _ => 0))), (a30, .inr (1, [.ref ba30, .int 0])), (ba30, .inl (cy 0, 12, .inl (fun _ => 0))), (a43, .inr (1, [.ref ba43, .int 0])), (ba43, .inl (cy 0, 12, .inl (fun _ => 0)))]) := hD
  have hP9 := hP.sub (ws' := wH (fun k => [a4, b1, b2, b3, b4, b5, b6, b7, b8, b9, b10, b11, a18, w1, w2, w3, h0, a30, ba30, a43, ba43].getD k 0) cy sgm0) [1, 2, 3, 4, 5, 6, 7, 8, 9, 10, 11, 12, 13, 14, 15, 16, 0, 17, 18, 19, 20] rfl
  have hD9 := hD.sub (ws' := wH (fun k => [a4, b1, b2, b3, b4, b5, b6, b7, b8, b9, b10, b11, a18, w1, w2, w3, h0, a30, ba30, a43, ba43].getD k 0) cy sgm0) [1, 2, 3, 4, 5, 6, 7, 8, 9, 10, 11, 12, 13, 14, 15, 16, 0, 17, 18, 19, 20] (by decide) rfl
  refine W.widen (k := 20) (n := 27136) (Nat.le_of_ble_eq_true rfl) (Nat.le_of_ble_eq_true rfl) ?_
  exact W.vret hx hb hr (fun t ht hW => ⟨⟨(), rfl, trivial, (fun k => [a4, b1, b2, b3, b4, b5, b6, b7, b8, b9, b10, b11, a18, w1, w2, w3, h0, a30, ba30, a43, ba43].getD k 0), rfl, by rw [ht]; exact hP9, hD9⟩, hS.F ht⟩) hS.2.2 dX3_init_55
