/-! ===== the law from its entry ===== -/
theorem preX {s : State} {H : Heap} {dC : Nat → ClassId} {dI : Nat → Nat → Nat} {cy : Nat → ClassId} {z ad : Nat → Nat} {x : va_W} {b : Nat} {As : List Value} {A A1 : Nat → Prop} {locs : List Loc} (hK : kwX dC dI cy s) (hP : va_P (dC, dI) classes x H) (hD : va_D A1 x) (hZ : ZF z ad A s s.heap) (hvk : vk_R "PegshoreHouseModel" 92 "std" (z 4) s) (hO : va_AOA .int s) (hS : va_S A s.heap H locs) (hF : ∀ q, va_A x H.size q → A q) :
    PreS s H (va_Pc (.ref b :: As) (PcX dC dI cy z ad x H.size)) (.ref b :: As) :=
  ⟨fun a U g mk q => ⟨q.1, ⟨q.2.1.1, q.2.1.2.1, q.2.1.2.2.1.calling, q.2.1.2.2.2.1, q.2.1.2.2.2.2.1.moved (u := U) (U := U.calling g mk a) (Vm.Alike.refl U.vm), vk_R.same rfl q.2.1.2.2.2.2.2⟩, va_AOA.moved (u := U) (U := U.calling g mk a) (Vm.Alike.refl U.vm) q.2.2⟩,
   fun U hU hW => ⟨rfl, ⟨by rw [hU], by rw [hU]; exact hP, hK.warm hW, hD.weaken (fun _ _ _ _ => trivial), by rw [hU]; exact ((hZ.kept hS.2.1).narrow hF).moved hW.alike, hvk.warm hW⟩, va_AOA.moved hW.alike hO⟩⟩
theorem no_trace {l : Launch} (h : l.flags = flags0) : l.stackTraces = false := by
  unfold Launch.stackTraces
  rw [h]
  decide +kernel
theorem perm_out {x : Nat × va_E} {a f : va_W} : ((a ++ f) ++ [x]).Perm (a ++ ([x] ++ f)) := by
  rw [List.append_assoc]
  exact List.Perm.append_left a List.perm_append_comm
set_option maxHeartbeats 4000000 in
set_option maxRecDepth 100000 in
/-- from the entry, for every script of at most 1536 ints, the law comes to its end with true -/
theorem whole_start {p : Program} {e : Env} {s : State} {m : MethodId} {below : List Frame} {meth : Method} {c : Code} (l : Launch) (hflags : l.flags = flags0) {b L : Nat} {xs : Nat → Int32} (hL : L ≤ 1536) (C0 : lw_At p s m meth c b L xs) : W p l e room_1 s m #[Value.ref b] below meth c s.heap [] 0 0 (lw_Z below #[Value.ref b] s) (entryFrame m ([Value.ref b] : List Value).toArray 9) := by
  obtain ⟨hx, hb, hr, hml, hown, htb, hX, hbl, hlocks, hgv⟩ := id C0
  have hl9 := no_trace hflags
  have hT : ∀ w ∈ tables_1, w.before #[Value.ref b] s = true := fun w h => htb w (List.mem_append_right _ h)
  have hts : ∀ w ∈ lw_all, w.before #[Value.ref b] s = true := fun w h => htb w (lw_all_tbl h)
  have hN := flat_of_before _ hgv
  obtain ⟨dC, dI, cy, hK⟩ := env_kw hT hts (hN _ (by decide +kernel))
  obtain ⟨sa, hXS⟩ := env_xs hT hN
  obtain ⟨z, ad, hZ, hvk⟩ := env_zf hT hN
  have hXZ := env_xz hT hN
  have hNC := env_nc hN
  have hO : va_AOA .int s := va_AOA.of (hT _ (by decide +kernel))
  have hA : ∀ q : Nat, s.heap.size ≤ q → Aof s q := fun _ h => h
  have hbA : ¬ Aof s b := Nat.not_le.mpr hbl
  have hS : va_S (Aof s) s.heap s.heap [] := va_S.rf
  have hP : va_P (dC, dI) classes [] s.heap := fun k q h => by simp at h
  have hD : va_D (Aof s) [] := ⟨fun i j p q h => by simp at h, fun k q h => by simp at h⟩
  have hC : Cx p s m #[Value.ref b] meth c RL code 9 ret := ⟨hx, hb, hr, hml, hown, hts, hlocks⟩
  have hl := lv_entry ([.ref b]) (n := 9) (Nat.le_of_ble_eq_true rfl)
  rw [lg_entry_eq]
  generalize (lg_sl ([.ref b]) ++ List.replicate (9 - (lg_sl ([.ref b])).length) Slot.unset).toArray = ls at hl ⊢
  have hl : lv_has ls 9 [(0, .ref b)] := hl
  refine va_new (ci := 3) (fs := [.null, .null, .null, .null, .int 0, .int 0]) (C := RX3) (T := TX3) (N := 6) hx hb hts in_X3 tyX3 tyX3_ok hown (hts _ q36) (hts _ q37) (hts _ q1) hK.1 hP hD hS hA rfl (fun j hj => by rcases (show j = 0 ∨ j = 1 ∨ j = 2 ∨ j = 3 ∨ j = 4 ∨ j = 5 by omega) with rfl | rfl | rfl | rfl | rfl | rfl <;> rfl) (Nat.le_of_ble_eq_true rfl) (Nat.le_of_ble_eq_true rfl) dL_law_0 (fun a0 H hP hD hS => ?_)
  have hP : va_P (dC, dI) classes [(a0, .inr (3, [.null, .null, .null, .null, .int 0, .int 0]))] H := hP
  have hD : va_D (Aof s) [(a0, .inr (3, [.null, .null, .null, .null, .int 0, .int 0]))] := hD
  refine lv_dup hx hb dL_law_3 rfl ?_
  have hPc := hP.sub (ws' := [(a0, .inr (3, [.null, .null, .null, .null, .int 0, .int 0]))]) [0] rfl
  have hDc := hD.sub (ws' := [(a0, .inr (3, [.null, .null, .null, .null, .int 0, .int 0]))]) [0] (by decide) rfl
  have hFc := va_free (wc := [(a0, .inr (3, [.null, .null, .null, .null, .int 0, .int 0]))]) hD hS hA [0] rfl
  refine va_callv (va_runI (As := []) (rest := [.ref a0]) ⟨hx, hb, hml, hown, hts⟩ (m_X3_init l dC dI a0 cy _) (cwI 0 hts (ws_good q40) rfl rfl rfl (hts _ q1) (hts _ q38) (hts _ q39) rfl (by decide +kernel) ⟨Nat.le_of_ble_eq_true rfl, Nat.le_of_ble_eq_true rfl⟩) (preI hK hPc hDc) rfl rfl hl.1 rfl (lv_room (Nat.le_of_ble_eq_true rfl)) dL_law_4 ⟨Nat.le_of_ble_eq_true rfl, Nat.le_of_ble_eq_true rfl⟩) hS (fun q _ h => hFc q h) hFc (fun u t H1 locs ht hvm hw hB hz1 hk1 hS => ?_)
  obtain ⟨h, e16, hP1, hD1⟩ := hB
  rw [ht] at hP1
  subst e16
  obtain ⟨hP, hD⟩ := va_join (wr := []) (w1 := wH h cy sgm0) hP hD [0] [] rfl rfl (by decide) (by decide) hk1 hFc hP1 hD1
  clear hPc hDc hFc hP1 hD1 hk1
  generalize H1 = H at hP hS ⊢
  have hP : va_P (dC, dI) classes (wH h cy sgm0) H := hP
  have hD : va_D (Aof s) (wH h cy sgm0) := hD
  refine lv_astore_n (lv' := [(1, .ref (h 16)), (0, .ref b)]) hx hb dL_law_7 rfl hl (by decide) rfl (fun ls hl => ?_)
  refine va_new (ci := 4) (fs := [.null, .null, .null, .null, .null, .null, .null, .null, .null, .null, .null, .null, .null, .int 0, .int 0, .int 0, .int 0, .int 0, .int 0]) (C := RX4) (T := TX4) (N := 19) hx hb hts in_X4 tyX4 tyX4_ok hown (hts _ q889) (hts _ q890) (hts _ q5) hK.1 hP hD hS hA rfl (fun j hj => by rcases (show j = 0 ∨ j = 1 ∨ j = 2 ∨ j = 3 ∨ j = 4 ∨ j = 5 ∨ j = 6 ∨ j = 7 ∨ j = 8 ∨ j = 9 ∨ j = 10 ∨ j = 11 ∨ j = 12 ∨ j = 13 ∨ j = 14 ∨ j = 15 ∨ j = 16 ∨ j = 17 ∨ j = 18 by omega) with rfl | rfl | rfl | rfl | rfl | rfl | rfl | rfl | rfl | rfl | rfl | rfl | rfl | rfl | rfl | rfl | rfl | rfl | rfl <;> rfl) (Nat.le_of_ble_eq_true rfl) (Nat.le_of_ble_eq_true rfl) dL_law_8 (fun a8 H hP hD hS => ?_)
  have hP : va_P (dC, dI) classes (wH h cy sgm0 ++ [(a8, .inr (4, [.null, .null, .null, .null, .null, .null, .null, .null, .null, .null, .null, .null, .null, .int 0, .int 0, .int 0, .int 0, .int 0, .int 0]))]) H := hP
  have hD : va_D (Aof s) (wH h cy sgm0 ++ [(a8, .inr (4, [.null, .null, .null, .null, .null, .null, .null, .null, .null, .null, .null, .null, .null, .int 0, .int 0, .int 0, .int 0, .int 0, .int 0]))]) := hD
  refine lv_dup hx hb dL_law_11 rfl ?_
  have hPc := hP.sub (ws' := [(a8, .inr (4, [.null, .null, .null, .null, .null, .null, .null, .null, .null, .null, .null, .null, .null, .int 0, .int 0, .int 0, .int 0, .int 0, .int 0]))]) [21] rfl
  have hDc := hD.sub (ws' := [(a8, .inr (4, [.null, .null, .null, .null, .null, .null, .null, .null, .null, .null, .null, .null, .null, .int 0, .int 0, .int 0, .int 0, .int 0, .int 0]))]) [21] (by decide) rfl
  have hFc := va_free (wc := [(a8, .inr (4, [.null, .null, .null, .null, .null, .null, .null, .null, .null, .null, .null, .null, .null, .int 0, .int 0, .int 0, .int 0, .int 0, .int 0]))]) hD hS hA [21] rfl
  refine va_callv (va_runI (As := []) (rest := [.ref a8]) ⟨hx, hb, hml, hown, hts⟩ (m_X4_init l dC dI cy z ad a8 _ 20000 (fun u => Inv sgm0 u) (inv0 20000 (Nat.le_refl _))) (cwI 0 hts (ws_good q893) rfl rfl rfl (hts _ q5) (hts _ q891) (hts _ q892) rfl (by decide +kernel) ⟨Nat.le_of_ble_eq_true rfl, Nat.le_of_ble_eq_true rfl⟩) (preX hK hPc hDc hZ hvk hO hS hFc) rfl rfl hl.1 rfl (lv_room (Nat.le_of_ble_eq_true rfl)) dL_law_12 ⟨Nat.le_of_ble_eq_true rfl, Nat.le_of_ble_eq_true rfl⟩) hS (fun q _ h => hFc q h) hFc (fun u9 t H1 locs ht hvm hw hB hz1 hk1 hS => ?_)
  obtain ⟨g, u, e0, hI, hP1, hD1⟩ := hB
  rw [ht] at hP1
  subst e0
  obtain ⟨hP, hD⟩ := va_join (wr := wH h cy sgm0) (w1 := (wC g cy u.1 ++ (wl ad cy (z 0) (g 20) u.2.1 ++ (wl ad cy (z 0) (g 21) u.2.2.1 ++ (wl ad cy (z 0) (g 22) u.2.2.2.1 ++ wS g cy u.2.2.2.2))))) hP hD [21] (List.range 21) rfl rfl (by decide) (by decide) hk1 hFc hP1 hD1
  clear hPc hDc hFc hP1 hD1 hk1
  generalize H1 = H at hP hS ⊢
  refine lv_astore_n (lv' := [(2, .ref (g 0)), (1, .ref (h 16)), (0, .ref b)]) hx hb dL_law_15 rfl hl (by decide) rfl (fun ls hl => ?_)
  refine lv_iconst (v := 1) hx hb dL_law_16 (by decide) ?_
  refine va_newa (atype := .long) (ty := .long) (N' := 1) (a0 := (1, .inr (.inl (fun _ => 0)))) hx hb (hts _ q138) rfl hK.1 hP hD hS hA (fun _ => rfl) (by decide) (by decide) (Nat.le_of_ble_eq_true rfl) (Nat.le_of_ble_eq_true rfl) (Nat.le_of_ble_eq_true rfl) dL_law_17 (fun o cA H hK1 hP hD hS => ?_)
  have ec : cA = cy 1 := arr_same1 hK1
  subst ec
  have hP := va_P.perm perm_out hP
  have hD := va_D.perm perm_out hD
  refine lv_astore_n (lv' := [(3, .ref o), (2, .ref (g 0)), (1, .ref (h 16)), (0, .ref b)]) hx hb dL_law_19 rfl hl (by decide) rfl (fun ls hl => ?_)
  refine lv_iconst (v := 0) hx hb dL_law_20 (by decide) ?_
  refine lv_istore (lv' := [(4, .int 0), (3, .ref o), (2, .ref (g 0)), (1, .ref (h 16)), (0, .ref b)]) hx hb dL_law_21 hl (by decide) rfl (fun ls hl => ?_)
  refine W.widen (k := 1060 + 30 * 0) (n := 64398 + 480 * 0) (Nat.le_of_ble_eq_true rfl) (Nat.le_of_ble_eq_true rfl) ?_
  exact law_loop l hl9 hC hK hXS hXZ hNC hZ hvk hX hbl hbA hA (fun _ h => h) (fu := 20000) (Nat.le_refl _) hL (kb := 1060) (nb := 64398) (by decide) (by decide) 512 0 (Nat.le_refl _) (Nat.zero_le _) sgm0 (fun _ => 0) u hI H locs ls hP hD hS (lv_sub hl [4, 3, 2, 1, 0] rfl)
