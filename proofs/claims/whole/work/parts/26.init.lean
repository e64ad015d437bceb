theorem arrayOver_specB {args : Array Value} {first s : State} {o : Option Outcome} {idx : List Nat} {t : FieldType} (h : (Cond.arrayOver (.array t)).holds args first o s idx = true) :
    ∃ comp c k, s.vm.findClass (FieldType.array t).toString = some comp ∧ (s.vm.classes.findIdx? fun (x : Class) => match x.kind with | .array component _ => component == comp | _ => false) = some c ∧ s.vm.classes[c]? = some k ∧ k.kind = .array comp (.array t) ∧ s.vm.findClass ("[" ++ (FieldType.array t).toString) = some c := by
  simp only [Cond.holds, Cond.value, beq_iff_eq] at h
  cases hc : s.vm.findClass (FieldType.array t).toString with
  | none => simp [hc] at h
  | some comp =>
    simp only [hc, Option.bind_some, Option.bind_eq_some_iff, Option.map_eq_some_iff] at h
    obtain ⟨c, hi, k, hk, hb⟩ := h
    obtain ⟨hlt, hp, -⟩ := Array.findIdx?_eq_some_iff_getElem.mp hi
    have hkk : s.vm.classes[c] = k := (Array.getElem?_eq_some_iff.mp hk).2
    rw [hkk] at hp
    cases hkind : k.kind with
    | array component ty =>
      rw [hkind] at hb hp
      simp at hb hp
      exact ⟨comp, c, k, rfl, hi, hk, by rw [hkind, hp, hb.1], hb.2⟩
    | _ => rw [hkind] at hb; simp at hb
theorem va_AOA.moved {C : FieldType} {u U : State} (hvm : u.vm.Alike U.vm) (h : va_AOA C u) : va_AOA C U := by
  obtain ⟨comp, c, k, h1, h2, h3, h4, h5⟩ := arrayOver_specB h
  obtain ⟨k', hk', he⟩ := hvm.2.2 _ _ h3
  have eb : U.vm.bare = u.vm.bare := by first | exact hvm.bare_eq | exact hvm.bare_eq.symm
  have a1 := va_idx_bare U.vm comp
  have a2 := va_idx_bare u.vm comp
  rw [eb] at a1
  have hi : (U.vm.classes.findIdx? fun (x : Class) => match x.kind with | .array component _ => component == comp | _ => false) = some c := a1.symm.trans (a2.trans h2)
  have hkind : k'.kind = .array comp (.array C) := by rw [he]; exact h4
  have f1 : U.vm.findClass (FieldType.array C).toString = some comp := by rw [hvm.findClass]; exact h1
  have f2 : U.vm.findClass ("[" ++ (FieldType.array C).toString) = some c := by rw [hvm.findClass]; exact h5
  unfold va_AOA Cond.before Cond.holds
  simp only [Cond.value]
  rw [f1, Option.bind_some]
  refine (congrArg (fun o : Option Nat => (o.bind (fun c => (U.vm.classes[c]?).map fun (k : Class) => match k.kind with | .array _ ty => decide (ty = FieldType.array C) && decide (U.vm.findClass ("[" ++ (FieldType.array C).toString) = some c) | _ => false) == some true)) hi).trans ?_
  simp [hk', hkind, f2]
/-- a new reference: no holes, lists without arrays -/
def lst0 : LST := (false, 0, 0, 0, fun _ => 0, 0)
def fx0 : FX := ((fun _ => 0, fun _ _ => 0, fun _ => 0), lst0, lst0, lst0, fun _ _ => 0)
def PcX (dC : Nat → ClassId) (dI : Nat → Nat → Nat) (cy : Nat → ClassId) (z ad : Nat → Nat) (wc : va_W) (sz : Nat) (U : State) : Prop := PcF dC dI cy z ad wc sz U ∧ va_AOA .int U
theorem arr_same5 {dC : Nat → ClassId} {dI : Nat → Nat → Nat} {cy : Nat → ClassId} {s : State} {cA : ClassId} (h : va_K (dC, dI) classes (tysX cy ++ [(cA, .boolean)]) s) : cA = cy 2 := by
  have h1 := (h.2 5 (cA, .boolean) rfl).2
  have h2 := (h.2 2 (cy 2, .boolean) rfl).2
  exact Option.some.inj (h1.symm.trans h2)
theorem arr_same3 {dC : Nat → ClassId} {dI : Nat → Nat → Nat} {cy : Nat → ClassId} {s : State} {cA : ClassId} (h : va_K (dC, dI) classes (tysX cy ++ [(cA, .array .int)]) s) : cA = cy 3 := by
  have h1 := (h.2 5 (cA, .array .int) rfl).2
  have h2 := (h.2 3 (cy 3, .array .int) rfl).2
  exact Option.some.inj (h1.symm.trans h2)
theorem rows_new (r : Nat → Nat) (f : Nat → va_E) (e : va_E) (N : Nat) : va_pl ([] ++ (List.range N).map r) (vr_up f ((List.range N).map r) e) = (List.range N).map (fun i => (r i, e)) := by
  unfold va_pl
  rw [List.nil_append, List.map_map]
  apply List.map_congr_left
  intro i hi
  show (r i, vr_up f _ e (r i)) = (r i, e)
  rw [vr_up_in (List.mem_map.mpr ⟨i, hi, rfl⟩)]

theorem dJxa1e45_init_da8c8_0 : decode cJxa1e45_init_da8c8 0 = .ok (.aload_n 0, 1) := by decide +kernel
theorem dJxa1e45_init_da8c8_1 : decode cJxa1e45_init_da8c8 1 = .ok (.invokespecial 1, 3) := by decide +kernel
theorem dJxa1e45_init_da8c8_4 : decode cJxa1e45_init_da8c8 4 = .ok (.return_, 1) := by decide +kernel
set_option maxHeartbeats 4000000 in
set_option maxRecDepth 100000 in
theorem m_Jxa1e45_init_da8c8 (l : Launch) (dC : Nat → ClassId) (dI : Nat → Nat → Nat) (cy : Nat → ClassId) (a sz : Nat) : Met l yJxa1e45_init_da8c8 (ws_ yJxa1e45_init_da8c8 cJxa1e45_init_da8c8 1 none) ({ frames := 1, cells := 0, slots := 0, locals := 32 } : Room) (va_Pc [.ref a] (PcI dC dI cy ([(a, .inr (5, [.int 0, .null, .int 0]))]) sz)) (va_Qv (fun (_ : Unit) => True) (fun _ t => va_P (dC, dI) classes ([(a, .inr (5, [.int 0, .null, .int 0]))]) t.heap ∧ va_D (va_A ([(a, .inr (5, [.int 0, .null, .int 0]))]) sz) ([(a, .inr (5, [.int 0, .null, .int 0]))])) (va_A ([(a, .inr (5, [.int 0, .null, .int 0]))]) sz)) 0 0 (va_A ([(a, .inr (5, [.int 0, .null, .int 0]))]) sz) := by
  refine Met.ofCxN (own := RJxa1e45) (by decide) rfl rfl (Nat.le_of_ble_eq_true rfl) ?_
  intro p e9 s m below meth c hC hin hv ls hl
  obtain ⟨hx, hb, hr, hml, hown, hts, hlocks⟩ := hC
  have hl : lv_has ls 1 [(0, .ref a)] := hl
  obtain ⟨hsz, hP, hK, hD0⟩ := hv
  subst hsz
  have hD := hD0.self (sz := s.heap.size)
  generalize hAe : va_A ([(a, .inr (5, [.int 0, .null, .int 0]))]) s.heap.size = A at hD ⊢
  have hA : ∀ q : Nat, s.heap.size ≤ q → A q := fun q h => by rw [← hAe]; exact Or.inr h
  have hS : va_S A s.heap s.heap [] := va_S.rf
  clear hAe
  refine lv_aload_n hx hb dJxa1e45_init_da8c8_0 rfl (lv_at hl 0 rfl) ?_
  refine W.objInit hx hb hown (hts _ q906) (hts _ q42) (hts _ q43) rfl (by rw [hml]; exact hl.1) rfl dJxa1e45_init_da8c8_1 (Nat.le_of_ble_eq_true rfl) (Nat.le_of_ble_eq_true rfl) ?_
  refine W.eq (g2 := F0 m 4 ls []) rfl ?_
  exact W.vret hx hb hr (fun t ht hW => ⟨⟨(), rfl, trivial, by rw [ht]; exact hP, hD⟩, hS.F ht⟩) hS.2.2 dJxa1e45_init_da8c8_4
theorem dJxc12de_init_da8c8_0 : decode cJxc12de_init_da8c8 0 = .ok (.aload_n 0, 1) := by decide +kernel
theorem dJxc12de_init_da8c8_1 : decode cJxc12de_init_da8c8 1 = .ok (.invokespecial 1, 3) := by decide +kernel
theorem dJxc12de_init_da8c8_4 : decode cJxc12de_init_da8c8 4 = .ok (.aload_n 0, 1) := by decide +kernel
theorem dJxc12de_init_da8c8_5 : decode cJxc12de_init_da8c8 5 = .ok (.iconst 0, 1) := by decide +kernel
theorem dJxc12de_init_da8c8_6 : decode cJxc12de_init_da8c8 6 = .ok (.putfield 7, 3) := by decide +kernel
theorem dJxc12de_init_da8c8_9 : decode cJxc12de_init_da8c8 9 = .ok (.return_, 1) := by decide +kernel
set_option maxHeartbeats 4000000 in
set_option maxRecDepth 100000 in
theorem m_Jxc12de_init_da8c8 (l : Launch) (dC : Nat → ClassId) (dI : Nat → Nat → Nat) (cy : Nat → ClassId) (a sz : Nat) : Met l yJxc12de_init_da8c8 (ws_ yJxc12de_init_da8c8 cJxc12de_init_da8c8 1 none) ({ frames := 2, cells := 0, slots := 0, locals := 60 } : Room) (va_Pc [.ref a] (PcI dC dI cy ([(a, .inr (5, [.int 0, .null, .int 0]))]) sz)) (va_Qv (fun (_ : Unit) => True) (fun _ t => va_P (dC, dI) classes ([(a, .inr (5, [.int 0, .null, .int 0]))]) t.heap ∧ va_D (va_A ([(a, .inr (5, [.int 0, .null, .int 0]))]) sz) ([(a, .inr (5, [.int 0, .null, .int 0]))])) (va_A ([(a, .inr (5, [.int 0, .null, .int 0]))]) sz)) 0 0 (va_A ([(a, .inr (5, [.int 0, .null, .int 0]))]) sz) := by
  refine Met.ofCxN (own := RJxc12de) (by decide) rfl rfl (Nat.le_of_ble_eq_true rfl) ?_
  intro p e9 s m below meth c hC hin hv ls hl
  obtain ⟨hx, hb, hr, hml, hown, hts, hlocks⟩ := hC
  have hl : lv_has ls 1 [(0, .ref a)] := hl
  obtain ⟨hsz, hP, hK, hD0⟩ := hv
  subst hsz
  have hD := hD0.self (sz := s.heap.size)
  generalize hAe : va_A ([(a, .inr (5, [.int 0, .null, .int 0]))]) s.heap.size = A at hD ⊢
  have hA : ∀ q : Nat, s.heap.size ≤ q → A q := fun q h => by rw [← hAe]; exact Or.inr h
  have hS : va_S A s.heap s.heap [] := va_S.rf
  clear hAe
  refine lv_aload_n hx hb dJxc12de_init_da8c8_0 rfl (lv_at hl 0 rfl) ?_
  have hPc := hP.sub (ws' := [(a, .inr (5, [.int 0, .null, .int 0]))]) [0] rfl
  have hDc := hD.sub (ws' := [(a, .inr (5, [.int 0, .null, .int 0]))]) [0] (by decide) rfl
  have hFc := va_free (wc := [(a, .inr (5, [.int 0, .null, .int 0]))]) hD hS hA [0] rfl
  refine va_callv (va_runI (As := []) (rest := []) ⟨hx, hb, hml, hown, hts⟩ (m_Jxa1e45_init_da8c8 l dC dI cy a _) (cwI 0 hts (ws_good q905) rfl rfl rfl (hts _ q6) (hts _ q903) (hts _ q904) rfl (by decide +kernel) ⟨Nat.le_of_ble_eq_true rfl, Nat.le_of_ble_eq_true rfl⟩) (preI hK hPc hDc) rfl rfl hl.1 rfl (lv_room (Nat.le_of_ble_eq_true rfl)) dJxc12de_init_da8c8_1 ⟨Nat.le_of_ble_eq_true rfl, Nat.le_of_ble_eq_true rfl⟩) hS (fun q _ h => hFc q h) hFc (fun u t H1 locs ht hvm hw hB hz1 hk1 hS => ?_)
  obtain ⟨hP1, hD1⟩ := hB
  rw [ht] at hP1
  have hP := hP1
  have hD := hD1.weaken (fun _ q _ h => hFc q.1 h)
  generalize H1 = H at hP hS ⊢
  refine lv_aload_n hx hb dJxc12de_init_da8c8_4 rfl (lv_at hl 0 rfl) ?_
  refine lv_iconst (v := 0) hx hb dJxc12de_init_da8c8_5 (by decide) ?_
  refine va_put (D := (dC, dI)) (ci := 5) (v := .int 0) (ty := .int) (C := RJx4a65c) (T := TJx4a65c) (N := 3) hx hb hts in_Jx4a65c tyJx4a65c tyJx4a65c_ok nmJx4a65c hown hK.1 hP hD hS 0 rfl rfl 0 (by decide) (hts _ q913) (fun _ h9 => h9) rfl (by decide +kernel) rfl rfl (Nat.le_of_ble_eq_true rfl) dJxc12de_init_da8c8_6 (fun H locs hP hD hS => ?_)
  have hP : va_P (dC, dI) classes ([(a, .inr (5, [.int 0, .null, .int 0]))]) H := hP
  have hD : va_D A ([(a, .inr (5, [.int 0, .null, .int 0]))]) := hD
  exact W.vret hx hb hr (fun t ht hW => ⟨⟨(), rfl, trivial, by rw [ht]; exact hP, hD⟩, hS.F ht⟩) hS.2.2 dJxc12de_init_da8c8_9
theorem dJx4a65c_init_da8c8_0 : decode cJx4a65c_init_da8c8 0 = .ok (.aload_n 0, 1) := by decide +kernel
theorem dJx4a65c_init_da8c8_1 : decode cJx4a65c_init_da8c8 1 = .ok (.invokespecial 1, 3) := by decide +kernel
theorem dJx4a65c_init_da8c8_4 : decode cJx4a65c_init_da8c8 4 = .ok (.aload_n 0, 1) := by decide +kernel
theorem dJx4a65c_init_da8c8_5 : decode cJx4a65c_init_da8c8 5 = .ok (.getstatic 39, 3) := by decide +kernel
theorem dJx4a65c_init_da8c8_8 : decode cJx4a65c_init_da8c8 8 = .ok (.putfield 9, 3) := by decide +kernel
theorem dJx4a65c_init_da8c8_11 : decode cJx4a65c_init_da8c8 11 = .ok (.return_, 1) := by decide +kernel
set_option maxHeartbeats 4000000 in
set_option maxRecDepth 100000 in
theorem m_Jx4a65c_init_da8c8 (l : Launch) (dC : Nat → ClassId) (dI : Nat → Nat → Nat) (cy : Nat → ClassId) (ad : Nat → Nat) (t2 tc a sz : Nat) : Met l yJx4a65c_init_da8c8 (ws_ yJx4a65c_init_da8c8 cJx4a65c_init_da8c8 1 none) ({ frames := 3, cells := 0, slots := 0, locals := 90 } : Room) (va_Pc [.ref a] (PcL dC dI cy t2 tc ad ([(a, .inr (5, [.int 0, .null, .int 0]))]) sz)) (va_Qv (fun (_ : Unit) => True) (fun _ t => va_P (dC, dI) classes ([(a, .inr (5, [.int 0, .ref t2, .int 0]))]) t.heap ∧ va_D (va_A ([(a, .inr (5, [.int 0, .null, .int 0]))]) sz) ([(a, .inr (5, [.int 0, .ref t2, .int 0]))])) (va_A ([(a, .inr (5, [.int 0, .null, .int 0]))]) sz)) 0 0 (va_A ([(a, .inr (5, [.int 0, .null, .int 0]))]) sz) := by
  refine Met.ofCxN (own := RJx4a65c) (by decide) rfl rfl (Nat.le_of_ble_eq_true rfl) ?_
  intro p e9 s m below meth c hC hin hv ls hl
  obtain ⟨hx, hb, hr, hml, hown, hts, hlocks⟩ := hC
  have hl : lv_has ls 1 [(0, .ref a)] := hl
  obtain ⟨hsz, hP, hK, hD0, hZ⟩ := hv
  subst hsz
  have hD := hD0.self (sz := s.heap.size)
  generalize hAe : va_A ([(a, .inr (5, [.int 0, .null, .int 0]))]) s.heap.size = A at hD hZ ⊢
  have hA : ∀ q : Nat, s.heap.size ≤ q → A q := fun q h => by rw [← hAe]; exact Or.inr h
  have hS : va_S A s.heap s.heap [] := va_S.rf
  clear hAe
  refine lv_aload_n hx hb dJx4a65c_init_da8c8_0 rfl (lv_at hl 0 rfl) ?_
  have hPc := hP.sub (ws' := [(a, .inr (5, [.int 0, .null, .int 0]))]) [0] rfl
  have hDc := hD.sub (ws' := [(a, .inr (5, [.int 0, .null, .int 0]))]) [0] (by decide) rfl
  have hFc := va_free (wc := [(a, .inr (5, [.int 0, .null, .int 0]))]) hD hS hA [0] rfl
  refine va_callv (va_runI (As := []) (rest := []) ⟨hx, hb, hml, hown, hts⟩ (m_Jxc12de_init_da8c8 l dC dI cy a _) (cwI 0 hts (ws_good q902) rfl rfl rfl (hts _ q7) (hts _ q900) (hts _ q901) rfl (by decide +kernel) ⟨Nat.le_of_ble_eq_true rfl, Nat.le_of_ble_eq_true rfl⟩) (preI hK hPc hDc) rfl rfl hl.1 rfl (lv_room (Nat.le_of_ble_eq_true rfl)) dJx4a65c_init_da8c8_1 ⟨Nat.le_of_ble_eq_true rfl, Nat.le_of_ble_eq_true rfl⟩) hS (fun q _ h => hFc q h) hFc (fun u t H1 locs ht hvm hw hB hz1 hk1 hS => ?_)
  obtain ⟨hP1, hD1⟩ := hB
  rw [ht] at hP1
  have hP := hP1
  have hD := hD1.weaken (fun _ q _ h => hFc q.1 h)
  generalize H1 = H at hP hS ⊢
  refine lv_aload_n hx hb dJx4a65c_init_da8c8_4 rfl (lv_at hl 0 rfl) ?_
  refine va_gets hx hb hZ.1 hS hown (hts _ q907) (fun _ h9 => h9) dJx4a65c_init_da8c8_5 ?_
  refine va_put (D := (dC, dI)) (ci := 5) (v := .ref t2) (ty := .array (.object "java/lang/Object")) (C := RJx4a65c) (T := TJx4a65c) (N := 3) hx hb hts in_Jx4a65c tyJx4a65c tyJx4a65c_ok nmJx4a65c hown hK.1 hP hD hS 0 rfl rfl 1 (by decide) (hts _ q909) (fun _ h9 => h9) rfl (by decide +kernel) rfl rfl (Nat.le_of_ble_eq_true rfl) dJx4a65c_init_da8c8_8 (fun H locs hP hD hS => ?_)
  have hP : va_P (dC, dI) classes ([(a, .inr (5, [.int 0, .ref t2, .int 0]))]) H := hP
  have hD : va_D A ([(a, .inr (5, [.int 0, .ref t2, .int 0]))]) := hD
  exact W.vret hx hb hr (fun t ht hW => ⟨⟨(), rfl, trivial, by rw [ht]; exact hP, hD⟩, hS.F ht⟩) hS.2.2 dJx4a65c_init_da8c8_11
theorem dX4_init_0 : decode cX4_init 0 = .ok (.aload_n 0, 1) := by decide +kernel
theorem dX4_init_1 : decode cX4_init 1 = .ok (.invokespecial 1, 3) := by decide +kernel
theorem dX4_init_4 : decode cX4_init 4 = .ok (.aload_n 0, 1) := by decide +kernel
theorem dX4_init_5 : decode cX4_init 5 = .ok (.bipush 25, 2) := by decide +kernel
theorem dX4_init_7 : decode cX4_init 7 = .ok (.newarray .int, 2) := by decide +kernel
theorem dX4_init_9 : decode cX4_init 9 = .ok (.putfield 9, 3) := by decide +kernel
theorem dX4_init_12 : decode cX4_init 12 = .ok (.aload_n 0, 1) := by decide +kernel
theorem dX4_init_13 : decode cX4_init 13 = .ok (.bipush 13, 2) := by decide +kernel
theorem dX4_init_15 : decode cX4_init 15 = .ok (.newarray .int, 2) := by decide +kernel
theorem dX4_init_17 : decode cX4_init 17 = .ok (.putfield 13, 3) := by decide +kernel
theorem dX4_init_20 : decode cX4_init 20 = .ok (.aload_n 0, 1) := by decide +kernel
theorem dX4_init_21 : decode cX4_init 21 = .ok (.bipush 13, 2) := by decide +kernel
theorem dX4_init_23 : decode cX4_init 23 = .ok (.newarray .int, 2) := by decide +kernel
theorem dX4_init_25 : decode cX4_init 25 = .ok (.putfield 16, 3) := by decide +kernel
theorem dX4_init_28 : decode cX4_init 28 = .ok (.aload_n 0, 1) := by decide +kernel
theorem dX4_init_29 : decode cX4_init 29 = .ok (.bipush 104, 2) := by decide +kernel
theorem dX4_init_31 : decode cX4_init 31 = .ok (.newarray .int, 2) := by decide +kernel
theorem dX4_init_33 : decode cX4_init 33 = .ok (.putfield 19, 3) := by decide +kernel
theorem dX4_init_36 : decode cX4_init 36 = .ok (.aload_n 0, 1) := by decide +kernel
theorem dX4_init_37 : decode cX4_init 37 = .ok (.bipush 104, 2) := by decide +kernel
theorem dX4_init_39 : decode cX4_init 39 = .ok (.newarray .int, 2) := by decide +kernel
theorem dX4_init_41 : decode cX4_init 41 = .ok (.putfield 22, 3) := by decide +kernel
theorem dX4_init_44 : decode cX4_init 44 = .ok (.aload_n 0, 1) := by decide +kernel
theorem dX4_init_45 : decode cX4_init 45 = .ok (.bipush 104, 2) := by decide +kernel
theorem dX4_init_47 : decode cX4_init 47 = .ok (.newarray .int, 2) := by decide +kernel
theorem dX4_init_49 : decode cX4_init 49 = .ok (.putfield 25, 3) := by decide +kernel
theorem dX4_init_52 : decode cX4_init 52 = .ok (.aload_n 0, 1) := by decide +kernel
theorem dX4_init_53 : decode cX4_init 53 = .ok (.new 28, 3) := by decide +kernel
theorem dX4_init_56 : decode cX4_init 56 = .ok (.dup, 1) := by decide +kernel
theorem dX4_init_57 : decode cX4_init 57 = .ok (.invokespecial 30, 3) := by decide +kernel
theorem dX4_init_60 : decode cX4_init 60 = .ok (.putfield 31, 3) := by decide +kernel
theorem dX4_init_63 : decode cX4_init 63 = .ok (.aload_n 0, 1) := by decide +kernel
theorem dX4_init_64 : decode cX4_init 64 = .ok (.new 28, 3) := by decide +kernel
theorem dX4_init_67 : decode cX4_init 67 = .ok (.dup, 1) := by decide +kernel
theorem dX4_init_68 : decode cX4_init 68 = .ok (.invokespecial 30, 3) := by decide +kernel
theorem dX4_init_71 : decode cX4_init 71 = .ok (.putfield 35, 3) := by decide +kernel
theorem dX4_init_74 : decode cX4_init 74 = .ok (.aload_n 0, 1) := by decide +kernel
theorem dX4_init_75 : decode cX4_init 75 = .ok (.new 28, 3) := by decide +kernel
theorem dX4_init_78 : decode cX4_init 78 = .ok (.dup, 1) := by decide +kernel
theorem dX4_init_79 : decode cX4_init 79 = .ok (.invokespecial 30, 3) := by decide +kernel
theorem dX4_init_82 : decode cX4_init 82 = .ok (.putfield 38, 3) := by decide +kernel
theorem dX4_init_85 : decode cX4_init 85 = .ok (.aload_n 0, 1) := by decide +kernel
theorem dX4_init_86 : decode cX4_init 86 = .ok (.sipush 8192, 3) := by decide +kernel
theorem dX4_init_89 : decode cX4_init 89 = .ok (.newarray .long, 2) := by decide +kernel
theorem dX4_init_91 : decode cX4_init 91 = .ok (.putfield 41, 3) := by decide +kernel
theorem dX4_init_94 : decode cX4_init 94 = .ok (.aload_n 0, 1) := by decide +kernel
theorem dX4_init_95 : decode cX4_init 95 = .ok (.sipush 8192, 3) := by decide +kernel
theorem dX4_init_98 : decode cX4_init 98 = .ok (.newarray .boolean, 2) := by decide +kernel
theorem dX4_init_100 : decode cX4_init 100 = .ok (.putfield 45, 3) := by decide +kernel
theorem dX4_init_103 : decode cX4_init 103 = .ok (.aload_n 0, 1) := by decide +kernel
theorem dX4_init_104 : decode cX4_init 104 = .ok (.sipush 8192, 3) := by decide +kernel
theorem dX4_init_107 : decode cX4_init 107 = .ok (.newarray .int, 2) := by decide +kernel
theorem dX4_init_109 : decode cX4_init 109 = .ok (.putfield 49, 3) := by decide +kernel
theorem dX4_init_112 : decode cX4_init 112 = .ok (.aload_n 0, 1) := by decide +kernel
theorem dX4_init_113 : decode cX4_init 113 = .ok (.sipush 1024, 3) := by decide +kernel
theorem dX4_init_116 : decode cX4_init 116 = .ok (.bipush 11, 2) := by decide +kernel
theorem dX4_init_118 : decode cX4_init 118 = .ok (.multianewarray 52 2, 4) := by decide +kernel
theorem dX4_init_122 : decode cX4_init 122 = .ok (.putfield 54, 3) := by decide +kernel
theorem dX4_init_125 : decode cX4_init 125 = .ok (.aload_n 0, 1) := by decide +kernel
theorem dX4_init_126 : decode cX4_init 126 = .ok (.invokevirtual 57, 3) := by decide +kernel
theorem dX4_init_129 : decode cX4_init 129 = .ok (.return_, 1) := by decide +kernel
set_option maxHeartbeats 4000000 in
set_option maxRecDepth 100000 in
theorem m_X4_init (l : Launch) (dC : Nat → ClassId) (dI : Nat → Nat → Nat) (cy : Nat → ClassId) (z ad : Nat → Nat) (h0 sz fu : Nat) (P : FX → Prop) (hF : wp_X4_lists fu fx0 P) : Met l yX4_init (ws_ yX4_init cX4_init 1 none) ({ frames := 4, cells := 1037, slots := 37236, locals := 110 } : Room) (va_Pc [.ref h0] (PcX dC dI cy z ad ([(h0, .inr (4, [.null, .null, .null, .null, .null, .null, .null, .null, .null, .null, .null, .null, .null, .int 0, .int 0, .int 0, .int 0, .int 0, .int 0]))]) sz)) (va_Qv (fun (_ : Unit) => True) (fun _ t => ∃ (h : Nat → Nat) (u : FX), h 0 = h0 ∧ P u ∧ va_P (dC, dI) classes (wC h cy u.1 ++ (wl ad cy (z 0) (h 20) u.2.1 ++ (wl ad cy (z 0) (h 21) u.2.2.1 ++ (wl ad cy (z 0) (h 22) u.2.2.2.1 ++ wS h cy u.2.2.2.2)))) t.heap ∧ va_D (va_A ([(h0, .inr (4, [.null, .null, .null, .null, .null, .null, .null, .null, .null, .null, .null, .null, .null, .int 0, .int 0, .int 0, .int 0, .int 0, .int 0]))]) sz) (wC h cy u.1 ++ (wl ad cy (z 0) (h 20) u.2.1 ++ (wl ad cy (z 0) (h 21) u.2.2.1 ++ (wl ad cy (z 0) (h 22) u.2.2.2.1 ++ wS h cy u.2.2.2.2))))) (va_A ([(h0, .inr (4, [.null, .null, .null, .null, .null, .null, .null, .null, .null, .null, .null, .null, .null, .int 0, .int 0, .int 0, .int 0, .int 0, .int 0]))]) sz)) 1037 37236 (va_A ([(h0, .inr (4, [.null, .null, .null, .null, .null, .null, .null, .null, .null, .null, .null, .null, .null, .int 0, .int 0, .int 0, .int 0, .int 0, .int 0]))]) sz) := by
  refine Met.ofCxN (own := RX4) (by decide) rfl rfl (Nat.le_of_ble_eq_true rfl) ?_
  intro p e9 s m below meth c hC hin hv ls hl
  obtain ⟨hx, hb, hr, hml, hown, hts, hlocks⟩ := hC
  have hl : lv_has ls 1 [(0, .ref h0)] := hl
  obtain ⟨⟨hsz, hP, hK, hD0, hZ, hvk⟩, hO⟩ := hv
  subst hsz
  have hD := hD0.self (sz := s.heap.size)
  generalize hAe : va_A ([(h0, .inr (4, [.null, .null, .null, .null, .null, .null, .null, .null, .null, .null, .null, .null, .null, .int 0, .int 0, .int 0, .int 0, .int 0, .int 0]))]) s.heap.size = A at hD hZ ⊢
  have hA : ∀ q : Nat, s.heap.size ≤ q → A q := fun q h => by rw [← hAe]; exact Or.inr h
  have hS : va_S A s.heap s.heap [] := va_S.rf
  clear hAe
  refine lv_aload_n hx hb dX4_init_0 rfl (lv_at hl 0 rfl) ?_
  refine W.objInit hx hb hown (hts _ q894) (hts _ q42) (hts _ q43) rfl (by rw [hml]; exact hl.1) rfl dX4_init_1 (Nat.le_of_ble_eq_true rfl) (Nat.le_of_ble_eq_true rfl) ?_
  refine W.eq (g2 := F0 m 4 ls []) rfl ?_
  refine lv_aload_n hx hb dX4_init_4 rfl (lv_at hl 0 rfl) ?_
  refine lv_bipush (v := 25) hx hb dX4_init_5 (by decide) ?_
  refine va_newa (atype := .int) (ty := .int) (N' := 25) (a0 := (25, .inl (fun _ => 0))) hx hb (hts _ q63) rfl hK.1 hP hD hS hA (fun _ => rfl) (by decide) (by decide) (Nat.le_of_ble_eq_true rfl) (Nat.le_of_ble_eq_true rfl) (Nat.le_of_ble_eq_true rfl) dX4_init_7 (fun a7 cA H hK1 hP hD hS => ?_)
  have ec : cA = cy 0 := arr_same0 hK1
  subst ec
  have hP : va_P (dC, dI) classes ([(h0, .inr (4, [.null, .null, .null, .null, .null, .null, .null, .null, .null, .null, .null, .null, .null, .int 0, .int 0, .int 0, .int 0, .int 0, .int 0])), (a7, .inl (cy 0, 25, .inl (fun _ => 0)))]) H := hP
  have hD : va_D A ([(h0, .inr (4, [.null, .null, .null, .null, .null, .null, .null, .null, .null, .null, .null, .null, .null, .int 0, .int 0, .int 0, .int 0, .int 0, .int 0])), (a7, .inl (cy 0, 25, .inl (fun _ => 0)))]) := hD
  refine va_putF (D := (dC, dI)) (ci := 4) (v := .ref a7) (ty := .array .int) (C := RX4) (T := TX4) (N := 19) hx hb hts in_X4 tyX4 tyX4_ok nmX4 hown hK.1 hP hD hS 0 rfl rfl 0 (by decide) (hts _ q950) (fun _ h9 => h9) rfl hin rfl (by decide +kernel) rfl rfl (Nat.le_of_ble_eq_true rfl) dX4_init_9 (fun H locs hP hD hS => ?_)
  have hP : va_P (dC, dI) classes ([(h0, .inr (4, [.ref a7, .null, .null, .null, .null, .null, .null, .null, .null, .null, .null, .null, .null, .int 0, .int 0, .int 0, .int 0, .int 0, .int 0])), (a7, .inl (cy 0, 25, .inl (fun _ => 0)))]) H := hP
  have hD : va_D A ([(h0, .inr (4, [.ref a7, .null, .null, .null, .null, .null, .null, .null, .null, .null, .null, .null, .null, .int 0, .int 0, .int 0, .int 0, .int 0, .int 0])), (a7, .inl (cy 0, 25, .inl (fun _ => 0)))]) := hD
  refine lv_aload_n hx hb dX4_init_12 rfl (lv_at hl 0 rfl) ?_
  refine lv_bipush (v := 13) hx hb dX4_init_13 (by decide) ?_
  refine va_newa (atype := .int) (ty := .int) (N' := 13) (a0 := (13, .inl (fun _ => 0))) hx hb (hts _ q63) rfl hK.1 hP hD hS hA (fun _ => rfl) (by decide) (by decide) (Nat.le_of_ble_eq_true rfl) (Nat.le_of_ble_eq_true rfl) (Nat.le_of_ble_eq_true rfl) dX4_init_15 (fun a15 cA H hK1 hP hD hS => ?_)
  have ec : cA = cy 0 := arr_same0 hK1
  subst ec
  have hP : va_P (dC, dI) classes ([(h0, .inr (4, [.ref a7, .null, .null, .null, .null, .null, .null, .null, .null, .null, .null, .null, .null, .int 0, .int 0, .int 0, .int 0, .int 0, .int 0])), (a7, .inl (cy 0, 25, .inl (fun _ => 0))), (a15, .inl (cy 0, 13, .inl (fun _ => 0)))]) H := hP
  have hD : va_D A ([(h0, .inr (4, [.ref a7, .null, .null, .null, .null, .null, .null, .null, .null, .null, .null, .null, .null, .int 0, .int 0, .int 0, .int 0, .int 0, .int 0])), (a7, .inl (cy 0, 25, .inl (fun _ => 0))), (a15, .inl (cy 0, 13, .inl (fun _ => 0)))]) := hD
  refine va_putF (D := (dC, dI)) (ci := 4) (v := .ref a15) (ty := .array .int) (C := RX4) (T := TX4) (N := 19) hx hb hts in_X4 tyX4 tyX4_ok nmX4 hown hK.1 hP hD hS 0 rfl rfl 1 (by decide) (hts _ q951) (fun _ h9 => h9) rfl hin rfl (by decide +kernel) rfl rfl (Nat.le_of_ble_eq_true rfl) dX4_init_17 (fun H locs hP hD hS => ?_)
  have hP : va_P (dC, dI) classes ([(h0, .inr (4, [.ref a7, .ref a15, .null, .null, .null, .null, .null, .null, .null, .null, .null, .null, .null, .int 0, .int 0, .int 0, .int 0, .int 0, .int 0])), (a7, .inl (cy 0, 25, .inl (fun _ => 0))), (a15, .inl (cy 0, 13, .inl (fun _ => 0)))]) H := hP
  have hD : va_D A ([(h0, .inr (4, [.ref a7, .ref a15, .null, .null, .null, .null, .null, .null, .null, .null, .null, .null, .null, .int 0, .int 0, .int 0, .int 0, .int 0, .int 0])), (a7, .inl (cy 0, 25, .inl (fun _ => 0))), (a15, .inl (cy 0, 13, .inl (fun _ => 0)))]) := hD
  refine lv_aload_n hx hb dX4_init_20 rfl (lv_at hl 0 rfl) ?_
  refine lv_bipush (v := 13) hx hb dX4_init_21 (by decide) ?_
  refine va_newa (atype := .int) (ty := .int) (N' := 13) (a0 := (13, .inl (fun _ => 0))) hx hb (hts _ q63) rfl hK.1 hP hD hS hA (fun _ => rfl) (by decide) (by decide) (Nat.le_of_ble_eq_true rfl) (Nat.le_of_ble_eq_true rfl) (Nat.le_of_ble_eq_true rfl) dX4_init_23 (fun a23 cA H hK1 hP hD hS => ?_)
  have ec : cA = cy 0 := arr_same0 hK1
  subst ec
  have hP : va_P (dC, dI) classes ([(h0, .inr (4, [.ref a7, .ref a15, .null, .null, .null, .null, .null, .null, .null, .null, .null, .null, .null, .int 0, .int 0, .int 0, .int 0, .int 0, .int 0])), (a7, .inl (cy 0, 25, .inl (fun _ => 0))), (a15, .inl (cy 0, 13, .inl (fun _ => 0))), (a23, .inl (cy 0, 13, .inl (fun _ => 0)))]) H := hP
  have hD : va_D A ([(h0, .inr (4, [.ref a7, .ref a15, .null, .null, .null, .null, .null, .null, .null, .null, .null, .null, .null, .int 0, .int 0, .int 0, .int 0, .int 0, .int 0])), (a7, .inl (cy 0, 25, .inl (fun _ => 0))), (a15, .inl (cy 0, 13, .inl (fun _ => 0))), (a23, .inl (cy 0, 13, .inl (fun _ => 0)))]) := hD
  refine va_putF (D := (dC, dI)) (ci := 4) (v := .ref a23) (ty := .array .int) (C := RX4) (T := TX4) (N := 19) hx hb hts in_X4 tyX4 tyX4_ok nmX4 hown hK.1 hP hD hS 0 rfl rfl 2 (by decide) (hts _ q952) (fun _ h9 => h9) rfl hin rfl (by decide +kernel) rfl rfl (Nat.le_of_ble_eq_true rfl) dX4_init_25 (fun H locs hP hD hS => ?_)
  have hP : va_P (dC, dI) classes ([(h0, .inr (4, [.ref a7, .ref a15, .ref a23, .null, .null, .null, .null, .null, .null, .null, .null, .null, .null, .int 0, .int 0, .int 0, .int 0, .int 0, .int 0])), (a7, .inl (cy 0, 25, .inl (fun _ => 0))), (a15, .inl (cy 0, 13, .inl (fun _ => 0))), (a23, .inl (cy 0, 13, .inl (fun _ => 0)))]) H := hP
  have hD : va_D A ([(h0, .inr (4, [.ref a7, .ref a15, .ref a23, .null, .null, .null, .null, .null, .null, .null, .null, .null, .null, .int 0, .int 0, .int 0, .int 0, .int 0, .int 0])), (a7, .inl (cy 0, 25, .inl (fun _ => 0))), (a15, .inl (cy 0, 13, .inl (fun _ => 0))), (a23, .inl (cy 0, 13, .inl (fun _ => 0)))]) := hD
  refine lv_aload_n hx hb dX4_init_28 rfl (lv_at hl 0 rfl) ?_
  refine lv_bipush (v := 104) hx hb dX4_init_29 (by decide) ?_
  refine va_newa (atype := .int) (ty := .int) (N' := 104) (a0 := (104, .inl (fun _ => 0))) hx hb (hts _ q63) rfl hK.1 hP hD hS hA (fun _ => rfl) (by decide) (by decide) (Nat.le_of_ble_eq_true rfl) (Nat.le_of_ble_eq_true rfl) (Nat.le_of_ble_eq_true rfl) dX4_init_31 (fun a31 cA H hK1 hP hD hS => ?_)
  have ec : cA = cy 0 := arr_same0 hK1
  subst ec
  have hP : va_P (dC, dI) classes ([(h0, .inr (4, [.ref a7, .ref a15, .ref a23, .null, .null, .null, .null, .null, .null, .null, .null, .null, .null, .int 0, .int 0, .int 0, .int 0, .int 0, .int 0])), (a7, .inl (cy 0, 25, .inl (fun _ => 0))), (a15, .inl (cy 0, 13, .inl (fun _ => 0))), (a23, .inl (cy 0, 13, .inl (fun _ => 0))), (a31, .inl (cy 0, 104, .inl (fun _ => 0)))]) H := hP
  have hD : va_D A ([(h0, .inr (4, [.ref a7, .ref a15, .ref a23, .null, .null, .null, .null, .null, .null, .null, .null, .null, .null, .int 0, .int 0, .int 0, .int 0, .int 0, .int 0])), (a7, .inl (cy 0, 25, .inl (fun _ => 0))), (a15, .inl (cy 0, 13, .inl (fun _ => 0))), (a23, .inl (cy 0, 13, .inl (fun _ => 0))), (a31, .inl (cy 0, 104, .inl (fun _ => 0)))]) := hD
  refine va_putF (D := (dC, dI)) (ci := 4) (v := .ref a31) (ty := .array .int) (C := RX4) (T := TX4) (N := 19) hx hb hts in_X4 tyX4 tyX4_ok nmX4 hown hK.1 hP hD hS 0 rfl rfl 3 (by decide) (hts _ q953) (fun _ h9 => h9) rfl hin rfl (by decide +kernel) rfl rfl (Nat.le_of_ble_eq_true rfl) dX4_init_33 (fun H locs hP hD hS => ?_)
  have hP : va_P (dC, dI) classes ([(h0, .inr (4, [.ref a7, .ref a15, .ref a23, .ref a31, .null, .null, .null, .null, .null, .null, .null, .null, .null, .int 0, .int 0, .int 0, .int 0, .int 0, .int 0])), (a7, .inl (cy 0, 25, .inl (fun _ => 0))), (a15, .inl (cy 0, 13, .inl (fun _ => 0))), (a23, .inl (cy 0, 13, .inl (fun _ => 0))), (a31, .inl (cy 0, 104, .inl (fun _ => 0)))]) H := hP
  have hD : va_D A ([(h0, .inr (4, [.ref a7, .ref a15, .ref a23, .ref a31, .null, .null, .null, .null, .null, .null, .null, .null, .null, .int 0, .int 0, .int 0, .int 0, .int 0, .int 0])), (a7, .inl (cy 0, 25, .inl (fun _ => 0))), (a15, .inl (cy 0, 13, .inl (fun _ => 0))), (a23, .inl (cy 0, 13, .inl (fun _ => 0))), (a31, .inl (cy 0, 104, .inl (fun _ => 0)))]) := hD
  refine lv_aload_n hx hb dX4_init_36 rfl (lv_at hl 0 rfl) ?_
  refine lv_bipush (v := 104) hx hb dX4_init_37 (by decide) ?_
  refine va_newa (atype := .int) (ty := .int) (N' := 104) (a0 := (104, .inl (fun _ => 0))) hx hb (hts _ q63) rfl hK.1 hP hD hS hA (fun _ => rfl) (by decide) (by decide) (Nat.le_of_ble_eq_true rfl) (Nat.le_of_ble_eq_true rfl) (Nat.le_of_ble_eq_true rfl) dX4_init_39 (fun a39 cA H hK1 hP hD hS => ?_)
  have ec : cA = cy 0 := arr_same0 hK1
  subst ec
  have hP : va_P (dC, dI) classes ([(h0, .inr (4, [.ref a7, .ref a15, .ref a23, .ref a31, .null, .null, .null, .null, .null, .null, .null, .null, .null, .int 0, .int 0, .int 0, .int 0, .int 0, .int 0])), (a7, .inl (cy 0, 25, .inl (fun _ => 0))), (a15, .inl (cy 0, 13, .inl (fun _ => 0))), (a23, .inl (cy 0, 13, .inl (fun _ => 0))), (a31, .inl (cy 0, 104, .inl (fun _ => 0))), (a39, .inl (cy 0, 104, .inl (fun _ => 0)))]) H := hP
  have hD : va_D A ([(h0, .inr (4, [.ref a7, .ref a15, .ref a23, .ref a31, .null, .null, .null, .null, .null, .null, .null, .null, .null, .int 0, .int 0, .int 0, .int 0, .int 0, .int 0])), (a7, .inl (cy 0, 25, .inl (fun _ => 0))), (a15, .inl (cy 0, 13, .inl (fun _ => 0))), (a23, .inl (cy 0, 13, .inl (fun _ => 0))), (a31, .inl (cy 0, 104, .inl (fun _ => 0))), (a39, .inl (cy 0, 104, .inl (fun _ => 0)))]) := hD
  refine va_putF (D := (dC, dI)) (ci := 4) (v := .ref a39) (ty := .array .int) (C := RX4) (T := TX4) (N := 19) hx hb hts in_X4 tyX4 tyX4_ok nmX4 hown hK.1 hP hD hS 0 rfl rfl 4 (by decide) (hts _ q954) (fun _ h9 => h9) rfl hin rfl (by decide +kernel) rfl rfl (Nat.le_of_ble_eq_true rfl) dX4_init_41 (fun H locs hP hD hS => ?_)
  have hP : va_P (dC, dI) classes ([(h0, .inr (4, [.ref a7, .ref a15, .ref a23, .ref a31, .ref a39, .null, .null, .null, .null, .null, .null, .null, .null, .int 0, .int 0, .int 0, .int 0, .int 0, .int 0])), (a7, .inl (cy 0, 25, .inl (fun _ => 0))), (a15, .inl (cy 0, 13, .inl (fun _ => 0))), (a23, .inl (cy 0, 13, .inl (fun _ => 0))), (a31, .inl (cy 0, 104, .inl (fun _ => 0))), (a39, .inl (cy 0, 104, .inl (fun _ => 0)))]) H := hP
  have hD : va_D A ([(h0, .inr (4, [.ref a7, .ref a15, .ref a23, .ref a31, .ref a39, .null, .null, .null, .null, .null, .null, .null, .null, .int 0, .int 0, .int 0, .int 0, .int 0, .int 0])), (a7, .inl (cy 0, 25, .inl (fun _ => 0))), (a15, .inl (cy 0, 13, .inl (fun _ => 0))), (a23, .inl (cy 0, 13, .inl (fun _ => 0))), (a31, .inl (cy 0, 104, .inl (fun _ => 0))), (a39, .inl (cy 0, 104, .inl (fun _ => 0)))]) := hD
  refine lv_aload_n hx hb dX4_init_44 rfl (lv_at hl 0 rfl) ?_
  refine lv_bipush (v := 104) hx hb dX4_init_45 (by decide) ?_
  refine va_newa (atype := .int) (ty := .int) (N' := 104) (a0 := (104, .inl (fun _ => 0))) hx hb (hts _ q63) rfl hK.1 hP hD hS hA (fun _ => rfl) (by decide) (by decide) (Nat.le_of_ble_eq_true rfl) (Nat.le_of_ble_eq_true rfl) (Nat.le_of_ble_eq_true rfl) dX4_init_47 (fun a47 cA H hK1 hP hD hS => ?_)
  have ec : cA = cy 0 := arr_same0 hK1
  subst ec
  have hP : va_P (dC, dI) classes ([(h0, .inr (4, [.ref a7, .ref a15, .ref a23, .ref a31, .ref a39, .null, .null, .null, .null, .null, .null, .null, .null, .int 0, .int 0, .int 0, .int 0, .int 0, .int 0])), (a7, .inl (cy 0, 25, .inl (fun _ => 0))), (a15, .inl (cy 0, 13, .inl (fun _ => 0))), (a23, .inl (cy 0, 13, .inl (fun _ => 0))), (a31, .inl (cy 0, 104, .inl (fun _ => 0))), (a39, .inl (cy 0, 104, .inl (fun _ => 0))), (a47, .inl (cy 0, 104, .inl (fun _ => 0)))]) H := hP
  have hD : va_D A ([(h0, .inr (4, [.ref a7, .ref a15, .ref a23, .ref a31, .ref a39, .null, .null, .null, .null, .null, .null, .null, .null, .int 0, .int 0, .int 0, .int 0, .int 0, .int 0])), (a7, .inl (cy 0, 25, .inl (fun _ => 0))), (a15, .inl (cy 0, 13, .inl (fun _ => 0))), (a23, .inl (cy 0, 13, .inl (fun _ => 0))), (a31, .inl (cy 0, 104, .inl (fun _ => 0))), (a39, .inl (cy 0, 104, .inl (fun _ => 0))), (a47, .inl (cy 0, 104, .inl (fun _ => 0)))]) := hD
  refine va_putF (D := (dC, dI)) (ci := 4) (v := .ref a47) (ty := .array .int) (C := RX4) (T := TX4) (N := 19) hx hb hts in_X4 tyX4 tyX4_ok nmX4 hown hK.1 hP hD hS 0 rfl rfl 5 (by decide) (hts _ q955) (fun _ h9 => h9) rfl hin rfl (by decide +kernel) rfl rfl (Nat.le_of_ble_eq_true rfl) dX4_init_49 (fun H locs hP hD hS => ?_)
  have hP : va_P (dC, dI) classes ([(h0, .inr (4, [.ref a7, .ref a15, .ref a23, .ref a31, .ref a39, .ref a47, .null, .null, .null, .null, .null, .null, .null, .int 0, .int 0, .int 0, .int 0, .int 0, .int 0])), (a7, .inl (cy 0, 25, .inl (fun _ => 0))), (a15, .inl (cy 0, 13, .inl (fun _ => 0))), (a23, .inl (cy 0, 13, .inl (fun _ => 0))), (a31, .inl (cy 0, 104, .inl (fun _ => 0))), (a39, .inl (cy 0, 104, .inl (fun _ => 0))), (a47, .inl (cy 0, 104, .inl (fun _ => 0)))]) H := hP
  have hD : va_D A ([(h0, .inr (4, [.ref a7, .ref a15, .ref a23, .ref a31, .ref a39, .ref a47, .null, .null, .null, .null, .null, .null, .null, .int 0, .int 0, .int 0, .int 0, .int 0, .int 0])), (a7, .inl (cy 0, 25, .inl (fun _ => 0))), (a15, .inl (cy 0, 13, .inl (fun _ => 0))), (a23, .inl (cy 0, 13, .inl (fun _ => 0))), (a31, .inl (cy 0, 104, .inl (fun _ => 0))), (a39, .inl (cy 0, 104, .inl (fun _ => 0))), (a47, .inl (cy 0, 104, .inl (fun _ => 0)))]) := hD
  refine lv_aload_n hx hb dX4_init_52 rfl (lv_at hl 0 rfl) ?_
  refine va_new (ci := 5) (fs := [.int 0, .null, .int 0]) (C := RJx4a65c) (T := TJx4a65c) (N := 3) hx hb hts in_Jx4a65c tyJx4a65c tyJx4a65c_ok hown (hts _ q895) (hts _ q896) (hts _ q8) hK.1 hP hD hS hA rfl (fun j hj => by rcases (show j = 0 ∨ j = 1 ∨ j = 2 by omega) with rfl | rfl | rfl <;> rfl) (Nat.le_of_ble_eq_true rfl) (Nat.le_of_ble_eq_true rfl) dX4_init_53 (fun a53 H hP hD hS => ?_)
  have hP : va_P (dC, dI) classes ([(h0, .inr (4, [.ref a7, .ref a15, .ref a23, .ref a31, .ref a39, .ref a47, .null, .null, .null, .null, .null, .null, .null, .int 0, .int 0, .int 0, .int 0, .int 0, .int 0])), (a7, .inl (cy 0, 25, .inl (fun _ => 0))), (a15, .inl (cy 0, 13, .inl (fun _ => 0))), (a23, .inl (cy 0, 13, .inl (fun _ => 0))), (a31, .inl (cy 0, 104, .inl (fun _ => 0))), (a39, .inl (cy 0, 104, .inl (fun _ => 0))), (a47, .inl (cy 0, 104, .inl (fun _ => 0))), (a53, .inr (5, [.int 0, .null, .int 0]))]) H := hP
  have hD : va_D A ([(h0, .inr (4, [.ref a7, .ref a15, .ref a23, .ref a31, .ref a39, .ref a47, .null, .null, .null, .null, .null, .null, .null, .int 0, .int 0, .int 0, .int 0, .int 0, .int 0])), (a7, .inl (cy 0, 25, .inl (fun _ => 0))), (a15, .inl (cy 0, 13, .inl (fun _ => 0))), (a23, .inl (cy 0, 13, .inl (fun _ => 0))), (a31, .inl (cy 0, 104, .inl (fun _ => 0))), (a39, .inl (cy 0, 104, .inl (fun _ => 0))), (a47, .inl (cy 0, 104, .inl (fun _ => 0))), (a53, .inr (5, [.int 0, .null, .int 0]))]) := hD
  refine lv_dup hx hb dX4_init_56 rfl ?_
  have hPc := hP.sub (ws' := [(a53, .inr (5, [.int 0, .null, .int 0]))]) [7] rfl
  have hDc := hD.sub (ws' := [(a53, .inr (5, [.int 0, .null, .int 0]))]) [7] (by decide) rfl
  have hFc := va_free (wc := [(a53, .inr (5, [.int 0, .null, .int 0]))]) hD hS hA [7] rfl
  refine va_callv (va_runI (As := []) (rest := [.ref a53, .ref h0]) ⟨hx, hb, hml, hown, hts⟩ (m_Jx4a65c_init_da8c8 l dC dI cy ad (z 0) (z 1) _ _) (cwI 0 hts (ws_good q899) rfl rfl rfl (hts _ q8) (hts _ q897) (hts _ q898) rfl (by decide +kernel) ⟨Nat.le_of_ble_eq_true rfl, Nat.le_of_ble_eq_true rfl⟩) (preLS hK hPc hDc hZ.1 hS hFc) rfl rfl hl.1 rfl (lv_room (Nat.le_of_ble_eq_true rfl)) dX4_init_57 ⟨Nat.le_of_ble_eq_true rfl, Nat.le_of_ble_eq_true rfl⟩) hS (fun q _ h => hFc q h) hFc (fun u t H1 locs ht hvm hw hB hz1 hk1 hS => ?_)
  obtain ⟨hP1, hD1⟩ := hB
  rw [ht] at hP1
  obtain ⟨hP, hD⟩ := va_join (wr := [(h0, .inr (4, [.ref a7, .ref a15, .ref a23, .ref a31, .ref a39, .ref a47, .null, .null, .null, .null, .null, .null, .null, .int 0, .int 0, .int 0, .int 0, .int 0, .int 0])), (a7, .inl (cy 0, 25, .inl (fun _ => 0))), (a15, .inl (cy 0, 13, .inl (fun _ => 0))), (a23, .inl (cy 0, 13, .inl (fun _ => 0))), (a31, .inl (cy 0, 104, .inl (fun _ => 0))), (a39, .inl (cy 0, 104, .inl (fun _ => 0))), (a47, .inl (cy 0, 104, .inl (fun _ => 0)))]) (w1 := [(a53, .inr (5, [.int 0, .ref (z 0), .int 0]))]) hP hD [7] [0, 1, 2, 3, 4, 5, 6] rfl rfl (by decide) (by decide) hk1 hFc hP1 hD1
  generalize H1 = H at hP hS ⊢
  have hP : va_P (dC, dI) classes ([(h0, .inr (4, [.ref a7, .ref a15, .ref a23, .ref a31, .ref a39, .ref a47, .null, .null, .null, .null, .null, .null, .null, .int 0, .int 0, .int 0, .int 0, .int 0, .int 0])), (a7, .inl (cy 0, 25, .inl (fun _ => 0))), (a15, .inl (cy 0, 13, .inl (fun _ => 0))), (a23, .inl (cy 0, 13, .inl (fun _ => 0))), (a31, .inl (cy 0, 104, .inl (fun _ => 0))), (a39, .inl (cy 0, 104, .inl (fun _ => 0))), (a47, .inl (cy 0, 104, .inl (fun _ => 0))), (a53, .inr (5, [.int 0, .ref (z 0), .int 0]))]) H := hP
  have hD : va_D A ([(h0, .inr (4, [.ref a7, .ref a15, .ref a23, .ref a31, .ref a39, .ref a47, .null, .null, .null, .null, .null, .null, .null, .int 0, .int 0, .int 0, .int 0, .int 0, .int 0])), (a7, .inl (cy 0, 25, .inl (fun _ => 0))), (a15, .inl (cy 0, 13, .inl (fun _ => 0))), (a23, .inl (cy 0, 13, .inl (fun _ => 0))), (a31, .inl (cy 0, 104, .inl (fun _ => 0))), (a39, .inl (cy 0, 104, .inl (fun _ => 0))), (a47, .inl (cy 0, 104, .inl (fun _ => 0))), (a53, .inr (5, [.int 0, .ref (z 0), .int 0]))]) := hD
  refine va_putF (D := (dC, dI)) (ci := 4) (v := .ref a53) (ty := .object "java/util/List") (C := RX4) (T := TX4) (N := 19) hx hb hts in_X4 tyX4 tyX4_ok nmX4 hown hK.1 hP hD hS 0 rfl rfl 6 (by decide) (hts _ q956) (fun _ h9 => h9) rfl hin rfl (by decide +kernel) rfl rfl (Nat.le_of_ble_eq_true rfl) dX4_init_60 (fun H locs hP hD hS => ?_)
  have hP : va_P (dC, dI) classes ([(h0, .inr (4, [.ref a7, .ref a15, .ref a23, .ref a31, .ref a39, .ref a47, .ref a53, .null, .null, .null, .null, .null, .null, .int 0, .int 0, .int 0, .int 0, .int 0, .int 0])), (a7, .inl (cy 0, 25, .inl (fun _ => 0))), (a15, .inl (cy 0, 13, .inl (fun _ => 0))), (a23, .inl (cy 0, 13, .inl (fun _ => 0))), (a31, .inl (cy 0, 104, .inl (fun _ => 0))), (a39, .inl (cy 0, 104, .inl (fun _ => 0))), (a47, .inl (cy 0, 104, .inl (fun _ => 0))), (a53, .inr (5, [.int 0, .ref (z 0), .int 0]))]) H := hP
  have hD : va_D A ([(h0, .inr (4, [.ref a7, .ref a15, .ref a23, .ref a31, .ref a39, .ref a47, .ref a53, .null, .null, .null, .null, .null, .null, .int 0, .int 0, .int 0, .int 0, .int 0, .int 0])), (a7, .inl (cy 0, 25, .inl (fun _ => 0))), (a15, .inl (cy 0, 13, .inl (fun _ => 0))), (a23, .inl (cy 0, 13, .inl (fun _ => 0))), (a31, .inl (cy 0, 104, .inl (fun _ => 0))), (a39, .inl (cy 0, 104, .inl (fun _ => 0))), (a47, .inl (cy 0, 104, .inl (fun _ => 0))), (a53, .inr (5, [.int 0, .ref (z 0), .int 0]))]) := hD
  refine lv_aload_n hx hb dX4_init_63 rfl (lv_at hl 0 rfl) ?_
  refine va_new (ci := 5) (fs := [.int 0, .null, .int 0]) (C := RJx4a65c) (T := TJx4a65c) (N := 3) hx hb hts in_Jx4a65c tyJx4a65c tyJx4a65c_ok hown (hts _ q895) (hts _ q896) (hts _ q8) hK.1 hP hD hS hA rfl (fun j hj => by rcases (show j = 0 ∨ j = 1 ∨ j = 2 by omega) with rfl | rfl | rfl <;> rfl) (Nat.le_of_ble_eq_true rfl) (Nat.le_of_ble_eq_true rfl) dX4_init_64 (fun a64 H hP hD hS => ?_)
  have hP : va_P (dC, dI) classes ([(h0, .inr (4, [.ref a7, .ref a15, .ref a23, .ref a31, .ref a39, .ref a47, .ref a53, .null, .null, .null, .null, .null, .null, .int 0, .int 0, .int 0, .int 0, .int 0, .int 0])), (a7, .inl (cy 0, 25, .inl (fun _ => 0))), (a15, .inl (cy 0, 13, .inl (fun _ => 0))), (a23, .inl (cy 0, 13, .inl (fun _ => 0))), (a31, .inl (cy 0, 104, .inl (fun _ => 0))), (a39, .inl (cy 0, 104, .inl (fun _ => 0))), (a47, .inl (cy 0, 104, .inl (fun _ => 0))), (a53, .inr (5, [.int 0, .ref (z 0), .int 0])), (a64, .inr (5, [.int 0, .null, .int 0]))]) H := hP
  have hD : va_D A ([(h0, .inr (4, [.ref a7, .ref a15, .ref a23, .ref a31, .ref a39, .ref a47, .ref a53, .null, .null, .null, .null, .null, .null, .int 0, .int 0, .int 0, .int 0, .int 0, .int 0])), (a7, .inl (cy 0, 25, .inl (fun _ => 0))), (a15, .inl (cy 0, 13, .inl (fun _ => 0))), (a23, .inl (cy 0, 13, .inl (fun _ => 0))), (a31, .inl (cy 0, 104, .inl (fun _ => 0))), (a39, .inl (cy 0, 104, .inl (fun _ => 0))), (a47, .inl (cy 0, 104, .inl (fun _ => 0))), (a53, .inr (5, [.int 0, .ref (z 0), .int 0])), (a64, .inr (5, [.int 0, .null, .int 0]))]) := hD
  refine lv_dup hx hb dX4_init_67 rfl ?_
  have hPc := hP.sub (ws' := [(a64, .inr (5, [.int 0, .null, .int 0]))]) [8] rfl
  have hDc := hD.sub (ws' := [(a64, .inr (5, [.int 0, .null, .int 0]))]) [8] (by decide) rfl
  have hFc := va_free (wc := [(a64, .inr (5, [.int 0, .null, .int 0]))]) hD hS hA [8] rfl
  refine va_callv (va_runI (As := []) (rest := [.ref a64, .ref h0]) ⟨hx, hb, hml, hown, hts⟩ (m_Jx4a65c_init_da8c8 l dC dI cy ad (z 0) (z 1) _ _) (cwI 0 hts (ws_good q899) rfl rfl rfl (hts _ q8) (hts _ q897) (hts _ q898) rfl (by decide +kernel) ⟨Nat.le_of_ble_eq_true rfl, Nat.le_of_ble_eq_true rfl⟩) (preLS hK hPc hDc hZ.1 hS hFc) rfl rfl hl.1 rfl (lv_room (Nat.le_of_ble_eq_true rfl)) dX4_init_68 ⟨Nat.le_of_ble_eq_true rfl, Nat.le_of_ble_eq_true rfl⟩) hS (fun q _ h => hFc q h) hFc (fun u t H1 locs ht hvm hw hB hz1 hk1 hS => ?_)
  obtain ⟨hP1, hD1⟩ := hB
  rw [ht] at hP1
  obtain ⟨hP, hD⟩ := va_join (wr := [(h0, .inr (4, [.ref a7, .ref a15, .ref a23, .ref a31, .ref a39, .ref a47, .ref a53, .null, .null, .null, .null, .null, .null, .int 0, .int 0, .int 0, .int 0, .int 0, .int 0])), (a7, .inl (cy 0, 25, .inl (fun _ => 0))), (a15, .inl (cy 0, 13, .inl (fun _ => 0))), (a23, .inl (cy 0, 13, .inl (fun _ => 0))), (a31, .inl (cy 0, 104, .inl (fun _ => 0))), (a39, .inl (cy 0, 104, .inl (fun _ => 0))), (a47, .inl (cy 0, 104, .inl (fun _ => 0))), (a53, .inr (5, [.int 0, .ref (z 0), .int 0]))]) (w1 := [(a64, .inr (5, [.int 0, .ref (z 0), .int 0]))]) hP hD [8] [0, 1, 2, 3, 4, 5, 6, 7] rfl rfl (by decide) (by decide) hk1 hFc hP1 hD1
  generalize H1 = H at hP hS ⊢
  have hP : va_P (dC, dI) classes ([(h0, .inr (4, [.ref a7, .ref a15, .ref a23, .ref a31, .ref a39, .ref a47, .ref a53, .null, .null, .null, .null, .null, .null, .int 0, .int 0, .int 0, .int 0, .int 0, .int 0])), (a7, .inl (cy 0, 25, .inl (fun _ => 0))), (a15, .inl (cy 0, 13, .inl (fun _ => 0))), (a23, .inl (cy 0, 13, .inl (fun _ => 0))), (a31, .inl (cy 0, 104, .inl (fun _ => 0))), (a39, .inl (cy 0, 104, .inl (fun _ => 0))), (a47, .inl (cy 0, 104, .inl (fun _ => 0))), (a53, .inr (5, [.int 0, .ref (z 0), .int 0])), (a64, .inr (5, [.int 0, .ref (z 0), .int 0]))]) H := hP
  have hD : va_D A ([(h0, .inr (4, [.ref a7, .ref a15, .ref a23, .ref a31, .ref a39, .ref a47, .ref a53, .null, .null, .null, .null, .null, .null, .int 0, .int 0, .int 0, .int 0, .int 0, .int 0])), (a7, .inl (cy 0, 25, .inl (fun _ => 0))), (a15, .inl (cy 0, 13, .inl (fun _ => 0))), (a23, .inl (cy 0, 13, .inl (fun _ => 0))), (a31, .inl (cy 0, 104, .inl (fun _ => 0))), (a39, .inl (cy 0, 104, .inl (fun _ => 0))), (a47, .inl (cy 0, 104, .inl (fun _ => 0))), (a53, .inr (5, [.int 0, .ref (z 0), .int 0])), (a64, .inr (5, [.int 0, .ref (z 0), .int 0]))]) := hD
  refine va_putF (D := (dC, dI)) (ci := 4) (v := .ref a64) (ty := .object "java/util/List") (C := RX4) (T := TX4) (N := 19) hx hb hts in_X4 tyX4 tyX4_ok nmX4 hown hK.1 hP hD hS 0 rfl rfl 7 (by decide) (hts _ q957) (fun _ h9 => h9) rfl hin rfl (by decide +kernel) rfl rfl (Nat.le_of_ble_eq_true rfl) dX4_init_71 (fun H locs hP hD hS => ?_)
  have hP : va_P (dC, dI) classes ([(h0, .inr (4, [.ref a7, .ref a15, .ref a23, .ref a31, .ref a39, .ref a47, .ref a53, .ref a64, .null, .null, .null, .null, .null, .int 0, .int 0, .int 0, .int 0, .int 0, .int 0])), (a7, .inl (cy 0, 25, .inl (fun _ => 0))), (a15, .inl (cy 0, 13, .inl (fun _ => 0))), (a23, .inl (cy 0, 13, .inl (fun _ => 0))), (a31, .inl (cy 0, 104, .inl (fun _ => 0))), (a39, .inl (cy 0, 104, .inl (fun _ => 0))), (a47, .inl (cy 0, 104, .inl (fun _ => 0))), (a53, .inr (5, [.int 0, .ref (z 0), .int 0])), (a64, .inr (5, [.int 0, .ref (z 0), .int 0]))]) H := hP
  have hD : va_D A ([(h0, .inr (4, [.ref a7, .ref a15, .ref a23, .ref a31, .ref a39, .ref a47, .ref a53, .ref a64, .null, .null, .null, .null, .null, .int 0, .int 0, .int 0, .int 0, .int 0, .int 0])), (a7, .inl (cy 0, 25, .inl (fun _ => 0))), (a15, .inl (cy 0, 13, .inl (fun _ => 0))), (a23, .inl (cy 0, 13, .inl (fun _ => 0))), (a31, .inl (cy 0, 104, .inl (fun _ => 0))), (a39, .inl (cy 0, 104, .inl (fun _ => 0))), (a47, .inl (cy 0, 104, .inl (fun _ => 0))), (a53, .inr (5, [.int 0, .ref (z 0), .int 0])), (a64, .inr (5, [.int 0, .ref (z 0), .int 0]))]) := hD
  refine lv_aload_n hx hb dX4_init_74 rfl (lv_at hl 0 rfl) ?_
  refine va_new (ci := 5) (fs := [.int 0, .null, .int 0]) (C := RJx4a65c) (T := TJx4a65c) (N := 3) hx hb hts in_Jx4a65c tyJx4a65c tyJx4a65c_ok hown (hts _ q895) (hts _ q896) (hts _ q8) hK.1 hP hD hS hA rfl (fun j hj => by rcases (show j = 0 ∨ j = 1 ∨ j = 2 by omega) with rfl | rfl | rfl <;> rfl) (Nat.le_of_ble_eq_true rfl) (Nat.le_of_ble_eq_true rfl) dX4_init_75 (fun a75 H hP hD hS => ?_)
  have hP : va_P (dC, dI) classes ([(h0, .inr (4, [.ref a7, .ref a15, .ref a23, .ref a31, .ref a39, .ref a47, .ref a53, .ref a64, .null, .null, .null, .null, .null, .int 0, .int 0, .int 0, .int 0, .int 0, .int 0])), (a7, .inl (cy 0, 25, .inl (fun _ => 0))), (a15, .inl (cy 0, 13, .inl (fun _ => 0))), (a23, .inl (cy 0, 13, .inl (fun _ => 0))), (a31, .inl (cy 0, 104, .inl (fun _ => 0))), (a39, .inl (cy 0, 104, .inl (fun _ => 0))), (a47, .inl (cy 0, 104, .inl (fun _ => 0))), (a53, .inr (5, [.int 0, .ref (z 0), .int 0])), (a64, .inr (5, [.int 0, .ref (z 0), .int 0])), (a75, .inr (5, [.int 0, .null, .int 0]))]) H := hP
  have hD : va_D A ([(h0, .inr (4, [.ref a7, .ref a15, .ref a23, .ref a31, .ref a39, .ref a47, .ref a53, .ref a64, .null, .null, .null, .null, .null, .int 0, .int 0, .int 0, .int 0, .int 0, .int 0])), (a7, .inl (cy 0, 25, .inl (fun _ => 0))), (a15, .inl (cy 0, 13, .inl (fun _ => 0))), (a23, .inl (cy 0, 13, .inl (fun _ => 0))), (a31, .inl (cy 0, 104, .inl (fun _ => 0))), (a39, .inl (cy 0, 104, .inl (fun _ => 0))), (a47, .inl (cy 0, 104, .inl (fun _ => 0))), (a53, .inr (5, [.int 0, .ref (z 0), .int 0])), (a64, .inr (5, [.int 0, .ref (z 0), .int 0])), (a75, .inr (5, [.int 0, .null, .int 0]))]) := hD
  refine lv_dup hx hb dX4_init_78 rfl ?_
  have hPc := hP.sub (ws' := [(a75, .inr (5, [.int 0, .null, .int 0]))]) [9] rfl
  have hDc := hD.sub (ws' := [(a75, .inr (5, [.int 0, .null, .int 0]))]) [9] (by decide) rfl
  have hFc := va_free (wc := [(a75, .inr (5, [.int 0, .null, .int 0]))]) hD hS hA [9] rfl
  refine va_callv (va_runI (As := []) (rest := [.ref a75, .ref h0]) ⟨hx, hb, hml, hown, hts⟩ (m_Jx4a65c_init_da8c8 l dC dI cy ad (z 0) (z 1) _ _) (cwI 0 hts (ws_good q899) rfl rfl rfl (hts _ q8) (hts _ q897) (hts _ q898) rfl (by decide +kernel) ⟨Nat.le_of_ble_eq_true rfl, Nat.le_of_ble_eq_true rfl⟩) (preLS hK hPc hDc hZ.1 hS hFc) rfl rfl hl.1 rfl (lv_room (Nat.le_of_ble_eq_true rfl)) dX4_init_79 ⟨Nat.le_of_ble_eq_true rfl, Nat.le_of_ble_eq_true rfl⟩) hS (fun q _ h => hFc q h) hFc (fun u t H1 locs ht hvm hw hB hz1 hk1 hS => ?_)
  obtain ⟨hP1, hD1⟩ := hB
  rw [ht] at hP1
  obtain ⟨hP, hD⟩ := va_join (wr := [(h0, .inr (4, [.ref a7, .ref a15, .ref a23, .ref a31, .ref a39, .ref a47, .ref a53, .ref a64, .null, .null, .null, .null, .null, .int 0, .int 0, .int 0, .int 0, .int 0, .int 0])), (a7, .inl (cy 0, 25, .inl (fun _ => 0))), (a15, .inl (cy 0, 13, .inl (fun _ => 0))), (a23, .inl (cy 0, 13, .inl (fun _ => 0))), (a31, .inl (cy 0, 104, .inl (fun _ => 0))), (a39, .inl (cy 0, 104, .inl (fun _ => 0))), (a47, .inl (cy 0, 104, .inl (fun _ => 0))), (a53, .inr (5, [.int 0, .ref (z 0), .int 0])), (a64, .inr (5, [.int 0, .ref (z 0), .int 0]))]) (w1 := [(a75, .inr (5, [.int 0, .ref (z 0), .int 0]))]) hP hD [9] [0, 1, 2, 3, 4, 5, 6, 7, 8] rfl rfl (by decide) (by decide) hk1 hFc hP1 hD1
  generalize H1 = H at hP hS ⊢
  have hP : va_P (dC, dI) classes ([(h0, .inr (4, [.ref a7, .ref a15, .ref a23, .ref a31, .ref a39, .ref a47, .ref a53, .ref a64, .null, .null, .null, .null, .null, .int 0, .int 0, .int 0, .int 0, .int 0, .int 0])), (a7, .inl (cy 0, 25, .inl (fun _ => 0))), (a15, .inl (cy 0, 13, .inl (fun _ => 0))), (a23, .inl (cy 0, 13, .inl (fun _ => 0))), (a31, .inl (cy 0, 104, .inl (fun _ => 0))), (a39, .inl (cy 0, 104, .inl (fun _ => 0))), (a47, .inl (cy 0, 104, .inl (fun _ => 0))), (a53, .inr (5, [.int 0, .ref (z 0), .int 0])), (a64, .inr (5, [.int 0, .ref (z 0), .int 0])), (a75, .inr (5, [.int 0, .ref (z 0), .int 0]))]) H := hP
  have hD : va_D A ([(h0, .inr (4, [.ref a7, .ref a15, .ref a23, .ref a31, .ref a39, .ref a47, .ref a53, .ref a64, .null, .null, .null, .null, .null, .int 0, .int 0, .int 0, .int 0, .int 0, .int 0])), (a7, .inl (cy 0, 25, .inl (fun _ => 0))), (a15, .inl (cy 0, 13, .inl (fun _ => 0))), (a23, .inl (cy 0, 13, .inl (fun _ => 0))), (a31, .inl (cy 0, 104, .inl (fun _ => 0))), (a39, .inl (cy 0, 104, .inl (fun _ => 0))), (a47, .inl (cy 0, 104, .inl (fun _ => 0))), (a53, .inr (5, [.int 0, .ref (z 0), .int 0])), (a64, .inr (5, [.int 0, .ref (z 0), .int 0])), (a75, .inr (5, [.int 0, .ref (z 0), .int 0]))]) := hD
  refine va_putF (D := (dC, dI)) (ci := 4) (v := .ref a75) (ty := .object "java/util/List") (C := RX4) (T := TX4) (N := 19) hx hb hts in_X4 tyX4 tyX4_ok nmX4 hown hK.1 hP hD hS 0 rfl rfl 8 (by decide) (hts _ q958) (fun _ h9 => h9) rfl hin rfl (by decide +kernel) rfl rfl (Nat.le_of_ble_eq_true rfl) dX4_init_82 (fun H locs hP hD hS => ?_)
  have hP : va_P (dC, dI) classes ([(h0, .inr (4, [.ref a7, .ref a15, .ref a23, .ref a31, .ref a39, .ref a47, .ref a53, .ref a64, .ref a75, .null, .null, .null, .null, .int 0, .int 0, .int 0, .int 0, .int 0, .int 0])), (a7, .inl (cy 0, 25, .inl (fun _ => 0))), (a15, .inl (cy 0, 13, .inl (fun _ => 0))), (a23, .inl (cy 0, 13, .inl (fun _ => 0))), (a31, .inl (cy 0, 104, .inl (fun _ => 0))), (a39, .inl (cy 0, 104, .inl (fun _ => 0))), (a47, .inl (cy 0, 104, .inl (fun _ => 0))), (a53, .inr (5, [.int 0, .ref (z 0), .int 0])), (a64, .inr (5, [.int 0, .ref (z 0), .int 0])), (a75, .inr (5, [.int 0, .ref (z 0), .int 0]))]) H := hP
  have hD : va_D A ([(h0, .inr (4, [.ref a7, .ref a15, .ref a23, .ref a31, .ref a39, .ref a47, .ref a53, .ref a64, .ref a75, .null, .null, .null, .null, .int 0, .int 0, .int 0, .int 0, .int 0, .int 0])), (a7, .inl (cy 0, 25, .inl (fun _ => 0))), (a15, .inl (cy 0, 13, .inl (fun _ => 0))), (a23, .inl (cy 0, 13, .inl (fun _ => 0))), (a31, .inl (cy 0, 104, .inl (fun _ => 0))), (a39, .inl (cy 0, 104, .inl (fun _ => 0))), (a47, .inl (cy 0, 104, .inl (fun _ => 0))), (a53, .inr (5, [.int 0, .ref (z 0), .int 0])), (a64, .inr (5, [.int 0, .ref (z 0), .int 0])), (a75, .inr (5, [.int 0, .ref (z 0), .int 0]))]) := hD
  refine lv_aload_n hx hb dX4_init_85 rfl (lv_at hl 0 rfl) ?_
  refine lv_sipush (v := 8192) hx hb dX4_init_86 (by decide) ?_
  refine va_newa (atype := .long) (ty := .long) (N' := 8192) (a0 := (8192, .inr (.inl (fun _ => 0)))) hx hb (hts _ q138) rfl hK.1 hP hD hS hA (fun _ => rfl) (by decide) (by decide) (Nat.le_of_ble_eq_true rfl) (Nat.le_of_ble_eq_true rfl) (Nat.le_of_ble_eq_true rfl) dX4_init_89 (fun a89 cA H hK1 hP hD hS => ?_)
  have ec : cA = cy 1 := arr_same1 hK1
  subst ec
  have hP : va_P (dC, dI) classes ([(h0, .inr (4, [.ref a7, .ref a15, .ref a23, .ref a31, .ref a39, .ref a47, .ref a53, .ref a64, .ref a75, .null, .null, .null, .null, .int 0, .int 0, .int 0, .int 0, .int 0, .int 0])), (a7, .inl (cy 0, 25, .inl (fun _ => 0))), (a15, .inl (cy 0, 13, .inl (fun _ => 0))), (a23, .inl (cy 0, 13, .inl (fun _ => 0))), (a31, .inl (cy 0, 104, .inl (fun _ => 0))), (a39, .inl (cy 0, 104, .inl (fun _ => 0))), (a47, .inl (cy 0, 104, .inl (fun _ => 0))), (a53, .inr (5, [.int 0, .ref (z 0), .int 0])), (a64, .inr (5, [.int 0, .ref (z 0), .int 0])), (a75, .inr (5, [.int 0, .ref (z 0), .int 0])), (a89, .inl (cy 1, 8192, .inr (.inl (fun _ => 0))))]) H := hP
  have hD : va_D A ([(h0, .inr (4, [.ref a7, .ref a15, .ref a23, .ref a31, .ref a39, .ref a47, .ref a53, .ref a64, .ref a75, .null, .null, .null, .null, .int 0, .int 0, .int 0, .int 0, .int 0, .int 0])), (a7, .inl (cy 0, 25, .inl (fun _ => 0))), (a15, .inl (cy 0, 13, .inl (fun _ => 0))), (a23, .inl (cy 0, 13, .inl (fun _ => 0))), (a31, .inl (cy 0, 104, .inl (fun _ => 0))), (a39, .inl (cy 0, 104, .inl (fun _ => 0))), (a47, .inl (cy 0, 104, .inl (fun _ => 0))), (a53, .inr (5, [.int 0, .ref (z 0), .int 0])), (a64, .inr (5, [.int 0, .ref (z 0), .int 0])), (a75, .inr (5, [.int 0, .ref (z 0), .int 0])), (a89, .inl (cy 1, 8192, .inr (.inl (fun _ => 0))))]) := hD
  refine va_putF (D := (dC, dI)) (ci := 4) (v := .ref a89) (ty := .array .long) (C := RX4) (T := TX4) (N := 19) hx hb hts in_X4 tyX4 tyX4_ok nmX4 hown hK.1 hP hD hS 0 rfl rfl 9 (by decide) (hts _ q959) (fun _ h9 => h9) rfl hin rfl (by decide +kernel) rfl rfl (Nat.le_of_ble_eq_true rfl) dX4_init_91 (fun H locs hP hD hS => ?_)
  have hP : va_P (dC, dI) classes ([(h0, .inr (4, [.ref a7, .ref a15, .ref a23, .ref a31, .ref a39, .ref a47, .ref a53, .ref a64, .ref a75, .ref a89, .null, .null, .null, .int 0, .int 0, .int 0, .int 0, .int 0, .int 0])), (a7, .inl (cy 0, 25, .inl (fun _ => 0))), (a15, .inl (cy 0, 13, .inl (fun _ => 0))), (a23, .inl (cy 0, 13, .inl (fun _ => 0))), (a31, .inl (cy 0, 104, .inl (fun _ => 0))), (a39, .inl (cy 0, 104, .inl (fun _ => 0))), (a47, .inl (cy 0, 104, .inl (fun _ => 0))), (a53, .inr (5, [.int 0, .ref (z 0), .int 0])), (a64, .inr (5, [.int 0, .ref (z 0), .int 0])), (a75, .inr (5, [.int 0, .ref (z 0), .int 0])), (a89, .inl (cy 1, 8192, .inr (.inl (fun _ => 0))))]) H := hP
  have hD : va_D A ([(h0, .inr (4, [.ref a7, .ref a15, .ref a23, .ref a31, .ref a39, .ref a47, .ref a53, .ref a64, .ref a75, .ref a89, .null, .null, .null, .int 0, .int 0, .int 0, .int 0, .int 0, .int 0])), (a7, .inl (cy 0, 25, .inl (fun _ => 0))), (a15, .inl (cy 0, 13, .inl (fun _ => 0))), (a23, .inl (cy 0, 13, .inl (fun _ => 0))), (a31, .inl (cy 0, 104, .inl (fun _ => 0))), (a39, .inl (cy 0, 104, .inl (fun _ => 0))), (a47, .inl (cy 0, 104, .inl (fun _ => 0))), (a53, .inr (5, [.int 0, .ref (z 0), .int 0])), (a64, .inr (5, [.int 0, .ref (z 0), .int 0])), (a75, .inr (5, [.int 0, .ref (z 0), .int 0])), (a89, .inl (cy 1, 8192, .inr (.inl (fun _ => 0))))]) := hD
  refine lv_aload_n hx hb dX4_init_94 rfl (lv_at hl 0 rfl) ?_
  refine lv_sipush (v := 8192) hx hb dX4_init_95 (by decide) ?_
  refine va_newa (atype := .boolean) (ty := .boolean) (N' := 8192) (a0 := (8192, .inl (fun _ => 0))) hx hb (hts _ q1008) rfl hK.1 hP hD hS hA (fun _ => rfl) (by decide) (by decide) (Nat.le_of_ble_eq_true rfl) (Nat.le_of_ble_eq_true rfl) (Nat.le_of_ble_eq_true rfl) dX4_init_98 (fun a98 cA H hK1 hP hD hS => ?_)
  have ec : cA = cy 2 := arr_same5 hK1
  subst ec
  have hP : va_P (dC, dI) classes ([(h0, .inr (4, [.ref a7, .ref a15, .ref a23, .ref a31, .ref a39, .ref a47, .ref a53, .ref a64, .ref a75, .ref a89, .null, .null, .null, .int 0, .int 0, .int 0, .int 0, .int 0, .int 0])), (a7, .inl (cy 0, 25, .inl (fun _ => 0))), (a15, .inl (cy 0, 13, .inl (fun _ => 0))), (a23, .inl (cy 0, 13, .inl (fun _ => 0))), (a31, .inl (cy 0, 104, .inl (fun _ => 0))), (a39, .inl (cy 0, 104, .inl (fun _ => 0))), (a47, .inl (cy 0, 104, .inl (fun _ => 0))), (a53, .inr (5, [.int 0, .ref (z 0), .int 0])), (a64, .inr (5, [.int 0, .ref (z 0), .int 0])), (a75, .inr (5, [.int 0, .ref (z 0), .int 0])), (a89, .inl (cy 1, 8192, .inr (.inl (fun _ => 0)))), (a98, .inl (cy 2, 8192, .inl (fun _ => 0)))]) H := hP
  have hD : va_D A ([(h0, .inr (4, [.ref a7, .ref a15, .ref a23, .ref a31, .ref a39, .ref a47, .ref a53, .ref a64, .ref a75, .ref a89, .null, .null, .null, .int 0, .int 0, .int 0, .int 0, .int 0, .int 0])), (a7, .inl (cy 0, 25, .inl (fun _ => 0))), (a15, .inl (cy 0, 13, .inl (fun _ => 0))), (a23, .inl (cy 0, 13, .inl (fun _ => 0))), (a31, .inl (cy 0, 104, .inl (fun _ => 0))), (a39, .inl (cy 0, 104, .inl (fun _ => 0))), (a47, .inl (cy 0, 104, .inl (fun _ => 0))), (a53, .inr (5, [.int 0, .ref (z 0), .int 0])), (a64, .inr (5, [.int 0, .ref (z 0), .int 0])), (a75, .inr (5, [.int 0, .ref (z 0), .int 0])), (a89, .inl (cy 1, 8192, .inr (.inl (fun _ => 0)))), (a98, .inl (cy 2, 8192, .inl (fun _ => 0)))]) := hD
  refine va_putF (D := (dC, dI)) (ci := 4) (v := .ref a98) (ty := .array .boolean) (C := RX4) (T := TX4) (N := 19) hx hb hts in_X4 tyX4 tyX4_ok nmX4 hown hK.1 hP hD hS 0 rfl rfl 10 (by decide) (hts _ q960) (fun _ h9 => h9) rfl hin rfl (by decide +kernel) rfl rfl (Nat.le_of_ble_eq_true rfl) dX4_init_100 (fun H locs hP hD hS => ?_)
  have hP : va_P (dC, dI) classes ([(h0, .inr (4, [.ref a7, .ref a15, .ref a23, .ref a31, .ref a39, .ref a47, .ref a53, .ref a64, .ref a75, .ref a89, .ref a98, .null, .null, .int 0, .int 0, .int 0, .int 0, .int 0, .int 0])), (a7, .inl (cy 0, 25, .inl (fun _ => 0))), (a15, .inl (cy 0, 13, .inl (fun _ => 0))), (a23, .inl (cy 0, 13, .inl (fun _ => 0))), (a31, .inl (cy 0, 104, .inl (fun _ => 0))), (a39, .inl (cy 0, 104, .inl (fun _ => 0))), (a47, .inl (cy 0, 104, .inl (fun _ => 0))), (a53, .inr (5, [.int 0, .ref (z 0), .int 0])), (a64, .inr (5, [.int 0, .ref (z 0), .int 0])), (a75, .inr (5, [.int 0, .ref (z 0), .int 0])), (a89, .inl (cy 1, 8192, .inr (.inl (fun _ => 0)))), (a98, .inl (cy 2, 8192, .inl (fun _ => 0)))]) H := hP
  have hD : va_D A ([(h0, .inr (4, [.ref a7, .ref a15, .ref a23, .ref a31, .ref a39, .ref a47, .ref a53, .ref a64, .ref a75, .ref a89, .ref a98, .null, .null, .int 0, .int 0, .int 0, .int 0, .int 0, .int 0])), (a7, .inl (cy 0, 25, .inl (fun _ => 0))), (a15, .inl (cy 0, 13, .inl (fun _ => 0))), (a23, .inl (cy 0, 13, .inl (fun _ => 0))), (a31, .inl (cy 0, 104, .inl (fun _ => 0))), (a39, .inl (cy 0, 104, .inl (fun _ => 0))), (a47, .inl (cy 0, 104, .inl (fun _ => 0))), (a53, .inr (5, [.int 0, .ref (z 0), .int 0])), (a64, .inr (5, [.int 0, .ref (z 0), .int 0])), (a75, .inr (5, [.int 0, .ref (z 0), .int 0])), (a89, .inl (cy 1, 8192, .inr (.inl (fun _ => 0)))), (a98, .inl (cy 2, 8192, .inl (fun _ => 0)))]) := hD
  refine lv_aload_n hx hb dX4_init_103 rfl (lv_at hl 0 rfl) ?_
  refine lv_sipush (v := 8192) hx hb dX4_init_104 (by decide) ?_
  refine va_newa (atype := .int) (ty := .int) (N' := 8192) (a0 := (8192, .inl (fun _ => 0))) hx hb (hts _ q63) rfl hK.1 hP hD hS hA (fun _ => rfl) (by decide) (by decide) (Nat.le_of_ble_eq_true rfl) (Nat.le_of_ble_eq_true rfl) (Nat.le_of_ble_eq_true rfl) dX4_init_107 (fun a107 cA H hK1 hP hD hS => ?_)
  have ec : cA = cy 0 := arr_same0 hK1
  subst ec
  have hP : va_P (dC, dI) classes ([(h0, .inr (4, [.ref a7, .ref a15, .ref a23, .ref a31, .ref a39, .ref a47, .ref a53, .ref a64, .ref a75, .ref a89, .ref a98, .null, .null, .int 0, .int 0, .int 0, .int 0, .int 0, .int 0])), (a7, .inl (cy 0, 25, .inl (fun _ => 0))), (a15, .inl (cy 0, 13, .inl (fun _ => 0))), (a23, .inl (cy 0, 13, .inl (fun _ => 0))), (a31, .inl (cy 0, 104, .inl (fun _ => 0))), (a39, .inl (cy 0, 104, .inl (fun _ => 0))), (a47, .inl (cy 0, 104, .inl (fun _ => 0))), (a53, .inr (5, [.int 0, .ref (z 0), .int 0])), (a64, .inr (5, [.int 0, .ref (z 0), .int 0])), (a75, .inr (5, [.int 0, .ref (z 0), .int 0])), (a89, .inl (cy 1, 8192, .inr (.inl (fun _ => 0)))), (a98, .inl (cy 2, 8192, .inl (fun _ => 0))), (a107, .inl (cy 0, 8192, .inl (fun _ => 0)))]) H := hP
  have hD : va_D A ([(h0, .inr (4, [.ref a7, .ref a15, .ref a23, .ref a31, .ref a39, .ref a47, .ref a53, .ref a64, .ref a75, .ref a89, .ref a98, .null, .null, .int 0, .int 0, .int 0, .int 0, .int 0, .int 0])), (a7, .inl (cy 0, 25, .inl (fun _ => 0))), (a15, .inl (cy 0, 13, .inl (fun _ => 0))), (a23, .inl (cy 0, 13, .inl (fun _ => 0))), (a31, .inl (cy 0, 104, .inl (fun _ => 0))), (a39, .inl (cy 0, 104, .inl (fun _ => 0))), (a47, .inl (cy 0, 104, .inl (fun _ => 0))), (a53, .inr (5, [.int 0, .ref (z 0), .int 0])), (a64, .inr (5, [.int 0, .ref (z 0), .int 0])), (a75, .inr (5, [.int 0, .ref (z 0), .int 0])), (a89, .inl (cy 1, 8192, .inr (.inl (fun _ => 0)))), (a98, .inl (cy 2, 8192, .inl (fun _ => 0))), (a107, .inl (cy 0, 8192, .inl (fun _ => 0)))]) := hD
  refine va_putF (D := (dC, dI)) (ci := 4) (v := .ref a107) (ty := .array .int) (C := RX4) (T := TX4) (N := 19) hx hb hts in_X4 tyX4 tyX4_ok nmX4 hown hK.1 hP hD hS 0 rfl rfl 11 (by decide) (hts _ q961) (fun _ h9 => h9) rfl hin rfl (by decide +kernel) rfl rfl (Nat.le_of_ble_eq_true rfl) dX4_init_109 (fun H locs hP hD hS => ?_)
  have hP : va_P (dC, dI) classes ([(h0, .inr (4, [.ref a7, .ref a15, .ref a23, .ref a31, .ref a39, .ref a47, .ref a53, .ref a64, .ref a75, .ref a89, .ref a98, .ref a107, .null, .int 0, .int 0, .int 0, .int 0, .int 0, .int 0])), (a7, .inl (cy 0, 25, .inl (fun _ => 0))), (a15, .inl (cy 0, 13, .inl (fun _ => 0))), (a23, .inl (cy 0, 13, .inl (fun _ => 0))), (a31, .inl (cy 0, 104, .inl (fun _ => 0))), (a39, .inl (cy 0, 104, .inl (fun _ => 0))), (a47, .inl (cy 0, 104, .inl (fun _ => 0))), (a53, .inr (5, [.int 0, .ref (z 0), .int 0])), (a64, .inr (5, [.int 0, .ref (z 0), .int 0])), (a75, .inr (5, [.int 0, .ref (z 0), .int 0])), (a89, .inl (cy 1, 8192, .inr (.inl (fun _ => 0)))), (a98, .inl (cy 2, 8192, .inl (fun _ => 0))), (a107, .inl (cy 0, 8192, .inl (fun _ => 0)))]) H := hP
  have hD : va_D A ([(h0, .inr (4, [.ref a7, .ref a15, .ref a23, .ref a31, .ref a39, .ref a47, .ref a53, .ref a64, .ref a75, .ref a89, .ref a98, .ref a107, .null, .int 0, .int 0, .int 0, .int 0, .int 0, .int 0])), (a7, .inl (cy 0, 25, .inl (fun _ => 0))), (a15, .inl (cy 0, 13, .inl (fun _ => 0))), (a23, .inl (cy 0, 13, .inl (fun _ => 0))), (a31, .inl (cy 0, 104, .inl (fun _ => 0))), (a39, .inl (cy 0, 104, .inl (fun _ => 0))), (a47, .inl (cy 0, 104, .inl (fun _ => 0))), (a53, .inr (5, [.int 0, .ref (z 0), .int 0])), (a64, .inr (5, [.int 0, .ref (z 0), .int 0])), (a75, .inr (5, [.int 0, .ref (z 0), .int 0])), (a89, .inl (cy 1, 8192, .inr (.inl (fun _ => 0)))), (a98, .inl (cy 2, 8192, .inl (fun _ => 0))), (a107, .inl (cy 0, 8192, .inl (fun _ => 0)))]) := hD
  refine lv_aload_n hx hb dX4_init_112 rfl (lv_at hl 0 rfl) ?_
  refine lv_sipush (v := 1024) hx hb dX4_init_113 (by decide) ?_
  refine lv_bipush (v := 11) hx hb dX4_init_116 (by decide) ?_
  refine va_mna (X := [(h0, .inr (4, [.ref a7, .ref a15, .ref a23, .ref a31, .ref a39, .ref a47, .ref a53, .ref a64, .ref a75, .ref a89, .ref a98, .ref a107, .null, .int 0, .int 0, .int 0, .int 0, .int 0, .int 0])), (a7, .inl (cy 0, 25, .inl (fun _ => 0))), (a15, .inl (cy 0, 13, .inl (fun _ => 0))), (a23, .inl (cy 0, 13, .inl (fun _ => 0))), (a31, .inl (cy 0, 104, .inl (fun _ => 0))), (a39, .inl (cy 0, 104, .inl (fun _ => 0))), (a47, .inl (cy 0, 104, .inl (fun _ => 0))), (a53, .inr (5, [.int 0, .ref (z 0), .int 0])), (a64, .inr (5, [.int 0, .ref (z 0), .int 0])), (a75, .inr (5, [.int 0, .ref (z 0), .int 0])), (a89, .inl (cy 1, 8192, .inr (.inl (fun _ => 0)))), (a98, .inl (cy 2, 8192, .inl (fun _ => 0))), (a107, .inl (cy 0, 8192, .inl (fun _ => 0)))]) (L := []) (f := fun _ => .inr (0, [])) (ty := .int) (N' := 1024) (K' := 11) (z := (11, .inl (fun _ => 0))) hx hb hown (hts _ q924) hO (hts _ q63) ((hK.1.2 0 _ rfl).2) hK.1 (by rw [show va_pl [] (fun _ => (.inr (0, []) : va_E)) = [] from rfl, List.append_nil]; exact hP) (by rw [show va_pl [] (fun _ => (.inr (0, []) : va_E)) = [] from rfl, List.append_nil]; exact hD) hS hA (by decide) (by decide) (by decide) (by decide) (Nat.le_of_ble_eq_true rfl) (Nat.le_of_ble_eq_true rfl) (Nat.le_of_ble_eq_true rfl) rfl rfl (Nat.le_of_ble_eq_true rfl) (Nat.le_of_ble_eq_true rfl) (fun _ => rfl) dX4_init_118 (fun q9 r9 cA H hr1 hr2 hK1 hP hD hS => ?_)
  have ec : cA = cy 3 := arr_same3 hK1
  subst ec
  rw [rows_new] at hP hD
  have hP : va_P (dC, dI) classes ([(h0, .inr (4, [.ref a7, .ref a15, .ref a23, .ref a31, .ref a39, .ref a47, .ref a53, .ref a64, .ref a75, .ref a89, .ref a98, .ref a107, .null, .int 0, .int 0, .int 0, .int 0, .int 0, .int 0])), (a7, .inl (cy 0, 25, .inl (fun _ => 0))), (a15, .inl (cy 0, 13, .inl (fun _ => 0))), (a23, .inl (cy 0, 13, .inl (fun _ => 0))), (a31, .inl (cy 0, 104, .inl (fun _ => 0))), (a39, .inl (cy 0, 104, .inl (fun _ => 0))), (a47, .inl (cy 0, 104, .inl (fun _ => 0))), (a53, .inr (5, [.int 0, .ref (z 0), .int 0])), (a64, .inr (5, [.int 0, .ref (z 0), .int 0])), (a75, .inr (5, [.int 0, .ref (z 0), .int 0])), (a89, .inl (cy 1, 8192, .inr (.inl (fun _ => 0)))), (a98, .inl (cy 2, 8192, .inl (fun _ => 0))), (a107, .inl (cy 0, 8192, .inl (fun _ => 0))), (q9, .inl (cy 3, 1024, .inr (.inr (.inr (.inr (fun i => if i < 1024 then some (r9 i) else none))))))] ++ (List.range 1024).map (fun i => (r9 i, .inl (cy 0, 11, .inl (fun _ => 0))))) H := hP
  have hD : va_D A ([(h0, .inr (4, [.ref a7, .ref a15, .ref a23, .ref a31, .ref a39, .ref a47, .ref a53, .ref a64, .ref a75, .ref a89, .ref a98, .ref a107, .null, .int 0, .int 0, .int 0, .int 0, .int 0, .int 0])), (a7, .inl (cy 0, 25, .inl (fun _ => 0))), (a15, .inl (cy 0, 13, .inl (fun _ => 0))), (a23, .inl (cy 0, 13, .inl (fun _ => 0))), (a31, .inl (cy 0, 104, .inl (fun _ => 0))), (a39, .inl (cy 0, 104, .inl (fun _ => 0))), (a47, .inl (cy 0, 104, .inl (fun _ => 0))), (a53, .inr (5, [.int 0, .ref (z 0), .int 0])), (a64, .inr (5, [.int 0, .ref (z 0), .int 0])), (a75, .inr (5, [.int 0, .ref (z 0), .int 0])), (a89, .inl (cy 1, 8192, .inr (.inl (fun _ => 0)))), (a98, .inl (cy 2, 8192, .inl (fun _ => 0))), (a107, .inl (cy 0, 8192, .inl (fun _ => 0))), (q9, .inl (cy 3, 1024, .inr (.inr (.inr (.inr (fun i => if i < 1024 then some (r9 i) else none))))))] ++ (List.range 1024).map (fun i => (r9 i, .inl (cy 0, 11, .inl (fun _ => 0))))) := hD
  refine va_putF (D := (dC, dI)) (ci := 4) (v := .ref q9) (ty := .array (.array .int)) (C := RX4) (T := TX4) (N := 19) hx hb hts in_X4 tyX4 tyX4_ok nmX4 hown hK.1 hP hD hS 0 rfl rfl 12 (by decide) (hts _ q962) (fun _ h9 => h9) rfl hin rfl (by decide +kernel) rfl rfl (Nat.le_of_ble_eq_true rfl) dX4_init_122 (fun H locs hP hD hS => ?_)
  have hP : va_P (dC, dI) classes ([(h0, .inr (4, [.ref a7, .ref a15, .ref a23, .ref a31, .ref a39, .ref a47, .ref a53, .ref a64, .ref a75, .ref a89, .ref a98, .ref a107, .ref q9, .int 0, .int 0, .int 0, .int 0, .int 0, .int 0])), (a7, .inl (cy 0, 25, .inl (fun _ => 0))), (a15, .inl (cy 0, 13, .inl (fun _ => 0))), (a23, .inl (cy 0, 13, .inl (fun _ => 0))), (a31, .inl (cy 0, 104, .inl (fun _ => 0))), (a39, .inl (cy 0, 104, .inl (fun _ => 0))), (a47, .inl (cy 0, 104, .inl (fun _ => 0))), (a53, .inr (5, [.int 0, .ref (z 0), .int 0])), (a64, .inr (5, [.int 0, .ref (z 0), .int 0])), (a75, .inr (5, [.int 0, .ref (z 0), .int 0])), (a89, .inl (cy 1, 8192, .inr (.inl (fun _ => 0)))), (a98, .inl (cy 2, 8192, .inl (fun _ => 0))), (a107, .inl (cy 0, 8192, .inl (fun _ => 0))), (q9, .inl (cy 3, 1024, .inr (.inr (.inr (.inr (fun i => if i < 1024 then some (r9 i) else none))))))] ++ (List.range 1024).map (fun i => (r9 i, .inl (cy 0, 11, .inl (fun _ => 0))))) H := hP
  have hD : va_D A ([(h0, .inr (4, [.ref a7, .ref a15, .ref a23, .ref a31, .ref a39, .ref a47, .ref a53, .ref a64, .ref a75, .ref a89, .ref a98, .ref a107, .ref q9, .int 0, .int 0, .int 0, .int 0, .int 0, .int 0])), (a7, .inl (cy 0, 25, .inl (fun _ => 0))), (a15, .inl (cy 0, 13, .inl (fun _ => 0))), (a23, .inl (cy 0, 13, .inl (fun _ => 0))), (a31, .inl (cy 0, 104, .inl (fun _ => 0))), (a39, .inl (cy 0, 104, .inl (fun _ => 0))), (a47, .inl (cy 0, 104, .inl (fun _ => 0))), (a53, .inr (5, [.int 0, .ref (z 0), .int 0])), (a64, .inr (5, [.int 0, .ref (z 0), .int 0])), (a75, .inr (5, [.int 0, .ref (z 0), .int 0])), (a89, .inl (cy 1, 8192, .inr (.inl (fun _ => 0)))), (a98, .inl (cy 2, 8192, .inl (fun _ => 0))), (a107, .inl (cy 0, 8192, .inl (fun _ => 0))), (q9, .inl (cy 3, 1024, .inr (.inr (.inr (.inr (fun i => if i < 1024 then some (r9 i) else none))))))] ++ (List.range 1024).map (fun i => (r9 i, .inl (cy 0, 11, .inl (fun _ => 0))))) := hD
  refine lv_aload_n hx hb dX4_init_125 rfl (lv_at hl 0 rfl) ?_
  have hP := hP.part (cx := [(h0, .inr (4, [.ref a7, .ref a15, .ref a23, .ref a31, .ref a39, .ref a47, .ref a53, .ref a64, .ref a75, .ref a89, .ref a98, .ref a107, .ref q9, .int 0, .int 0, .int 0, .int 0, .int 0, .int 0])), (a7, .inl (cy 0, 25, .inl (fun _ => 0))), (a15, .inl (cy 0, 13, .inl (fun _ => 0))), (a23, .inl (cy 0, 13, .inl (fun _ => 0))), (a31, .inl (cy 0, 104, .inl (fun _ => 0))), (a39, .inl (cy 0, 104, .inl (fun _ => 0))), (a47, .inl (cy 0, 104, .inl (fun _ => 0))), (a89, .inl (cy 1, 8192, .inr (.inl (fun _ => 0)))), (a98, .inl (cy 2, 8192, .inl (fun _ => 0))), (a107, .inl (cy 0, 8192, .inl (fun _ => 0))), (a53, .inr (5, [.int 0, .ref (z 0), .int 0])), (a64, .inr (5, [.int 0, .ref (z 0), .int 0])), (a75, .inr (5, [.int 0, .ref (z 0), .int 0])), (q9, .inl (cy 3, 1024, .inr (.inr (.inr (.inr (fun i => if i < 1024 then some (r9 i) else none))))))]) [0, 1, 2, 3, 4, 5, 6, 10, 11, 12, 7, 8, 9, 13] rfl
  have hD := hD.part (cx := [(h0, .inr (4, [.ref a7, .ref a15, .ref a23, .ref a31, .ref a39, .ref a47, .ref a53, .ref a64, .ref a75, .ref a89, .ref a98, .ref a107, .ref q9, .int 0, .int 0, .int 0, .int 0, .int 0, .int 0])), (a7, .inl (cy 0, 25, .inl (fun _ => 0))), (a15, .inl (cy 0, 13, .inl (fun _ => 0))), (a23, .inl (cy 0, 13, .inl (fun _ => 0))), (a31, .inl (cy 0, 104, .inl (fun _ => 0))), (a39, .inl (cy 0, 104, .inl (fun _ => 0))), (a47, .inl (cy 0, 104, .inl (fun _ => 0))), (a89, .inl (cy 1, 8192, .inr (.inl (fun _ => 0)))), (a98, .inl (cy 2, 8192, .inl (fun _ => 0))), (a107, .inl (cy 0, 8192, .inl (fun _ => 0))), (a53, .inr (5, [.int 0, .ref (z 0), .int 0])), (a64, .inr (5, [.int 0, .ref (z 0), .int 0])), (a75, .inr (5, [.int 0, .ref (z 0), .int 0])), (q9, .inl (cy 3, 1024, .inr (.inr (.inr (.inr (fun i => if i < 1024 then some (r9 i) else none))))))]) [0, 1, 2, 3, 4, 5, 6, 10, 11, 12, 7, 8, 9, 13] (by decide) rfl
  obtain ⟨h, hh⟩ : ∃ h : Nat → Nat, h = fun k => if k < 100 then ([h0, a7, a15, a23, a31, a39, a47, a89, a98, a107, 0, 0, 0, 0, 0, 0, 0, 0, 0, 0, a53, a64, a75, q9] : List Nat).getD k 0 else r9 (k - 100) := ⟨_, rfl⟩
  have e0 : h 0 = h0 := by rw [hh]; rfl
  have e1 : h 1 = a7 := by rw [hh]; rfl
  have e2 : h 2 = a15 := by rw [hh]; rfl
  have e3 : h 3 = a23 := by rw [hh]; rfl
  have e4 : h 4 = a31 := by rw [hh]; rfl
  have e5 : h 5 = a39 := by rw [hh]; rfl
  have e6 : h 6 = a47 := by rw [hh]; rfl
  have e7 : h 7 = a89 := by rw [hh]; rfl
  have e8 : h 8 = a98 := by rw [hh]; rfl
  have e9 : h 9 = a107 := by rw [hh]; rfl
  have e20 : h 20 = a53 := by rw [hh]; rfl
  have e21 : h 21 = a64 := by rw [hh]; rfl
  have e22 : h 22 = a75 := by rw [hh]; rfl
  have e23 : h 23 = q9 := by rw [hh]; rfl
  have er : ∀ i, h (100 + i) = r9 i := by intro i; rw [hh]; show (if 100 + i < 100 then _ else r9 (100 + i - 100)) = _; rw [if_neg (by omega), show 100 + i - 100 = i by omega]
  have ew : [(h0, .inr (4, [.ref a7, .ref a15, .ref a23, .ref a31, .ref a39, .ref a47, .ref a53, .ref a64, .ref a75, .ref a89, .ref a98, .ref a107, .ref q9, .int 0, .int 0, .int 0, .int 0, .int 0, .int 0])), (a7, .inl (cy 0, 25, .inl (fun _ => 0))), (a15, .inl (cy 0, 13, .inl (fun _ => 0))), (a23, .inl (cy 0, 13, .inl (fun _ => 0))), (a31, .inl (cy 0, 104, .inl (fun _ => 0))), (a39, .inl (cy 0, 104, .inl (fun _ => 0))), (a47, .inl (cy 0, 104, .inl (fun _ => 0))), (a89, .inl (cy 1, 8192, .inr (.inl (fun _ => 0)))), (a98, .inl (cy 2, 8192, .inl (fun _ => 0))), (a107, .inl (cy 0, 8192, .inl (fun _ => 0))), (a53, .inr (5, [.int 0, .ref (z 0), .int 0])), (a64, .inr (5, [.int 0, .ref (z 0), .int 0])), (a75, .inr (5, [.int 0, .ref (z 0), .int 0])), (q9, .inl (cy 3, 1024, .inr (.inr (.inr (.inr (fun i => if i < 1024 then some (r9 i) else none))))))] ++ (List.range 1024).map (fun i => (r9 i, .inl (cy 0, 11, .inl (fun _ => 0)))) = wC h cy fx0.1 ++ (wl ad cy (z 0) (h 20) fx0.2.1 ++ (wl ad cy (z 0) (h 21) fx0.2.2.1 ++ (wl ad cy (z 0) (h 22) fx0.2.2.2.1 ++ wS h cy fx0.2.2.2.2))) := by
    simp only [wC, wS, fx0, lst0, wl, wL0, e0, e1, e2, e3, e4, e5, e6, e7, e8, e9, e20, e21, e22, e23, er]
    rfl
  rw [ew] at hP hD
  clear hh
  have hP9 := hP
  have hD9 := hD
  subst e0
  refine cfVv (x := wC h cy fx0.1 ++ (wl ad cy (z 0) (h 20) fx0.2.1 ++ (wl ad cy (z 0) (h 21) fx0.2.2.1 ++ (wl ad cy (z 0) (h 22) fx0.2.2.2.1 ++ wS h cy fx0.2.2.2.2)))) (fpN _) ⟨hx, hb, hr, hml, hown, hts, hlocks⟩ hK hP9 hD9 hZ hvk hS hA rfl (m_X4_lists l dC dI h cy z ad _ fu fx0 _ hF) (As := []) (rest := []) k_X4_lists q926 ⟨rfl, rfl⟩ ⟨Nat.le_of_ble_eq_true rfl, Nat.le_of_ble_eq_true rfl⟩ hl.1 rfl rfl (Nat.le_of_ble_eq_true rfl) dX4_init_126 ⟨Nat.le_of_ble_eq_true rfl, Nat.le_of_ble_eq_true rfl⟩ (fun u H1 locs hF hP1 hD1 hS => ?_)
  have hP := va_P.perm (fpN _).symm hP1
  have hD := va_D.perm (fpN _).symm hD1
  generalize H1 = H at hP hS ⊢
  exact W.vret hx hb hr (fun t ht hW => ⟨⟨(), rfl, trivial, h, u, rfl, hF, by rw [ht]; exact hP, hD⟩, hS.F ht⟩) hS.2.2 dX4_init_129
