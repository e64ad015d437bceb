/-! ===== what the machine holds at the law's entry ===== -/
section ENV
variable {s : State} {args : Array Value}
theorem arr_of {ty : FieldType} (h : (Cond.arrayClass ty).before args s = true) : ∃ c : ClassId, ArrOfT s c ty ∧ s.vm.findClass ("[" ++ ty.toString) = some c := by
  obtain ⟨cA, kA, comp, h1, h2, h3⟩ := Cond.arrayClass_spec h
  exact ⟨cA, fun n z => ⟨fun k h => (by cases h), kA, h2, comp, h3⟩, h1⟩
theorem arr_ofA {ty : FieldType} (h : (Cond.arrayOver (.array ty)).before args s = true) : ∃ c : ClassId, ArrOfT s c (.array ty) ∧ s.vm.findClass ("[" ++ (FieldType.array ty).toString) = some c := by
  obtain ⟨comp, c, k, h1, h2, h3, h4⟩ := Cond.arrayOver_specA h
  exact ⟨c, fun n z => ⟨fun k h => (by cases h), k, h2, comp, h3⟩, h4⟩
theorem arr_ofO {C : String} (h : (Cond.arrayOver (.object C)).before args s = true) : ∃ c : ClassId, ArrOfT s c (.object C) ∧ va_RA s c (.object C) := by
  obtain ⟨comp, c, k, h1, h2, h3, h4, h5⟩ := Cond.arrayOver_spec h
  exact ⟨c, fun n z => ⟨fun k h => (by cases h), k, h3, comp, h4⟩, k, comp, h3, h4, h1, h5⟩
theorem in_nwB : ∀ w ∈ nwB, w ∈ tables_1 := by decide +kernel
theorem env_fw {C : String} {x y : MethodName} (hT : ∀ w ∈ tables_1, w.before args s = true) (h : ∀ w ∈ [Cond.declares x, Cond.interfaceMethod x.cls x.cls x.name x.desc, Cond.publicMethod y, Cond.unhidden C x.name x.desc, Cond.castable C x.cls], w ∈ tables_1) : va_Fw C x y s :=
  va_Fw.of (hT _ (h _ (List.mem_cons_self))) (hT _ (h _ (List.mem_cons_of_mem _ List.mem_cons_self))) (hT _ (h _ (List.mem_cons_of_mem _ (List.mem_cons_of_mem _ List.mem_cons_self)))) (hT _ (h _ (List.mem_cons_of_mem _ (List.mem_cons_of_mem _ (List.mem_cons_of_mem _ List.mem_cons_self))))) (hT _ (h _ (List.mem_cons_of_mem _ (List.mem_cons_of_mem _ (List.mem_cons_of_mem _ (List.mem_cons_of_mem _ List.mem_cons_self))))))
theorem env_nw (hT : ∀ w ∈ tables_1, w.before args s = true) (hmi : (Cond.isRef (.mirror "[Ljava/lang/Object;")).before args s = true) : NW s := by
  have hB : ∀ w ∈ nwB, w.before args s = true := fun w h => hT w (in_nwB w h)
  refine ⟨va_Nw.of rfl (hT _ (by decide +kernel)), va_Nw.of rfl (hT _ (by decide +kernel)), va_Nw.of rfl (hT _ (by decide +kernel)), va_Nw.of rfl (hT _ (by decide +kernel)), va_Nw.of rfl (hT _ (by decide +kernel)), va_Nw.of rfl (hT _ (by decide +kernel)), va_Nw.of rfl (hT _ (by decide +kernel)), va_Nw.of rfl (hT _ (by decide +kernel)), fun x hx => va_Nw.of rfl (hB _ (List.mem_append_left _ (List.mem_map_of_mem hx))), fun x hx => va_Nw.of rfl (hB _ (List.mem_append_right _ (List.mem_map.mpr ⟨x, hx, rfl⟩))), env_fw hT (by decide +kernel), env_fw hT (by decide +kernel), env_fw hT (by decide +kernel), env_fw hT (by decide +kernel), env_fw hT (by decide +kernel), env_fw hT (by decide +kernel), env_fw hT (by decide +kernel), env_fw hT (by decide +kernel), env_fw hT (by decide +kernel), va_AO.of (hT _ (by decide +kernel)), va_Mi.of hmi, va_Dc.of (hT _ (by decide +kernel))⟩
theorem env_kw (hT : ∀ w ∈ tables_1, w.before args s = true) (hA : ∀ w ∈ lw_all, w.before args s = true) (hmi : (Cond.isRef (.mirror "[Ljava/lang/Object;")).before args s = true) : ∃ (dC : Nat → ClassId) (dI : Nat → Nat → Nat) (cy : Nat → ClassId), kwX dC dI cy s := by
  obtain ⟨c0, i0, k0⟩ := u_known (C := RX0) (T := TX0) (N := 8) (n := 8) hA in_X0 (hT (.instantiable RX0 8) (by decide +kernel))
  obtain ⟨c1, i1, k1⟩ := u_known (C := RX1) (T := TX1) (N := 2) (n := 2) hA in_X1 (hT (.instantiable RX1 2) (by decide +kernel))
  obtain ⟨c2, i2, k2⟩ := u_known (C := RX2) (T := TX2) (N := 12) (n := 12) hA in_X2 (hT (.instantiable RX2 12) (by decide +kernel))
  obtain ⟨c3, i3, k3⟩ := u_known (C := RX3) (T := TX3) (N := 6) (n := 6) hA in_X3 (hT (.instantiable RX3 6) (by decide +kernel))
  obtain ⟨c4, i4, k4⟩ := u_known (C := RX4) (T := TX4) (N := 19) (n := 19) hA in_X4 (hT (.instantiable RX4 19) (by decide +kernel))
  obtain ⟨c5, i5, k5⟩ := u_known (C := RJx4a65c) (T := TJx4a65c) (N := 3) (n := 3) hA in_Jx4a65c (hT (.instantiable RJx4a65c 3) (by decide +kernel))
  obtain ⟨c6, i6, k6⟩ := u_known (C := RJx35411) (T := TJx35411) (N := 4) (n := 4) hA in_Jx35411 (hT (.instantiable RJx35411 4) (by decide +kernel))
  obtain ⟨y0, a0, b0⟩ := arr_of (ty := .int) (hT _ (by decide +kernel))
  obtain ⟨y1, a1, b1⟩ := arr_of (ty := .long) (hT _ (by decide +kernel))
  obtain ⟨y2, a2, b2⟩ := arr_of (ty := .boolean) (hT _ (by decide +kernel))
  obtain ⟨y3, a3, b3⟩ := arr_ofA (ty := .int) (hT _ (by decide +kernel))
  obtain ⟨y4, a4, b4⟩ := arr_ofO (C := "java/lang/Object") (hT _ (by decide +kernel))
  refine ⟨fun k => match k with | 0 => c0 | 1 => c1 | 2 => c2 | 3 => c3 | 4 => c4 | 5 => c5 | _ => c6, fun k => match k with | 0 => i0 | 1 => i1 | 2 => i2 | 3 => i3 | 4 => i4 | 5 => i5 | _ => i6, fun k => match k with | 0 => y0 | 1 => y1 | 2 => y2 | 3 => y3 | _ => y4, ⟨fun k q hq => ?_, fun k q hq => ?_⟩, env_nw hT hmi⟩
  · match k, hq with
    | 0, hq => cases hq; exact k0
    | 1, hq => cases hq; exact k1
    | 2, hq => cases hq; exact k2
    | 3, hq => cases hq; exact k3
    | 4, hq => cases hq; exact k4
    | 5, hq => cases hq; exact k5
    | 6, hq => cases hq; exact k6
    | k + 7, hq => simp [classes] at hq
  · match k, hq with
    | 0, hq => cases hq; exact ⟨a0, b0⟩
    | 1, hq => cases hq; exact ⟨a1, b1⟩
    | 2, hq => cases hq; exact ⟨a2, b2⟩
    | 3, hq => cases hq; exact ⟨a3, b3⟩
    | 4, hq => cases hq; exact ⟨a4, b4⟩
    | k + 5, hq => simp [tysX] at hq
abbrev Aof (s : State) : Nat → Prop := fun q => s.heap.size ≤ q
theorem hAof (s : State) : ∀ a : Nat, a < s.heap.size → ¬ Aof s a := fun _ h => Nat.not_le.mpr h
theorem in_str : ∀ q ∈ strsX, Cond.stringRef RX3 q.1 q.2 ∈ tables_1 := by decide +kernel
theorem in_strx : ∀ q ∈ strsX, Cond.exactly (.string RX3 q.1) "java/lang/String" ∈ flatC (Jvm.Cond.and given_1 narrow_1) := by decide +kernel
theorem env_xs (hT : ∀ w ∈ tables_1, w.before args s = true) (hN : ∀ w ∈ flatC (Jvm.Cond.and given_1 narrow_1), w.before args s = true) : ∃ sa : Nat → Nat, XS sa s := by
  have h0 : ∀ k : Nat, ∃ a : Nat, ∀ q : Nat × String, strsX[k]? = some q → vk_R RX3 q.1 q.2 a s := by
    intro k
    cases hk : strsX[k]? with
    | none => exact ⟨0, fun q h => by cases h⟩
    | some q =>
      have hm := List.mem_of_getElem? hk
      obtain ⟨a, c, cA, kA, q1, -⟩ := Cond.exactly_spec (hN _ (in_strx q hm))
      exact ⟨a, fun q' h => by cases h; exact vk_R.of (hT _ (in_str q hm)) q1⟩
  obtain ⟨sa, h⟩ := Classical.axiomOfChoice h0
  exact ⟨sa, fun k q hq => h k q hq⟩
theorem in_nc : ∀ x ∈ ncL, Cond.not (.castable x.1 x.2) ∈ flatC (Jvm.Cond.and given_1 narrow_1) := by decide +kernel
theorem env_nc (hN : ∀ w ∈ flatC (Jvm.Cond.and given_1 narrow_1), w.before args s = true) : NCL s := fun x hx => va_Nc.of (hN _ (in_nc x hx))
theorem env_xz (hT : ∀ w ∈ tables_1, w.before args s = true) (hN : ∀ w ∈ flatC (Jvm.Cond.and given_1 narrow_1), w.before args s = true) : XZ (Aof s) s s.heap :=
  ⟨vx_Zqof (hT _ (by decide +kernel)) (hT _ (by decide +kernel)) (hN _ (by decide +kernel)) (hAof s), vx_Zqof (hT _ (by decide +kernel)) (hT _ (by decide +kernel)) (hN _ (by decide +kernel)) (hAof s)⟩
theorem env_tab {C n : String} {v : Nat → Int32} (hT : ∀ w ∈ tables_1, w.before args s = true) (hl : Cond.laysStatic C n "[I" ∈ tables_1) (hi : Cond.initialized C ∈ tables_1) (ha : (Cond.arrayOf (.static C n "[I") .int).before args s = true) (hn : (Cond.eq (.length (.static C n "[I")) (.int 8)).before args s = true) (he : ∀ j : Nat, j < 8 → (Cond.eq (.elem (.static C n "[I") (.int (Int32.ofNat j))) (.int (v j))).before args s = true) : ∃ t : Nat, va_Z C n "[I" (.ref t) (Aof s) s s.heap ∧ va_T .int t 8 (fun i => .int (v i)) (Aof s) s s.heap := by
  obtain ⟨t, h1, h2⟩ := va_Tof (N := 8) (f := fun i => .int (v i)) (A := Aof s) (by decide) ha (va_eqt hn) (fun j hj => va_eqt (he j hj)) (hAof s)
  exact ⟨t, va_Zof (hT _ hl) (hT _ hi) h1 (hAof s), h2⟩
theorem in_dn : ∀ j : Nat, j < 8 → Cond.eq (.elem (.static "PegshoreHouseModel" "DOWN" "[I") (.int (Int32.ofNat j))) (.int (dnV j)) ∈ flatC (Jvm.Cond.and given_1 narrow_1) := by decide +kernel
theorem in_rt : ∀ j : Nat, j < 8 → Cond.eq (.elem (.static "PegshoreHouseModel" "RIGHT" "[I") (.int (Int32.ofNat j))) (.int (rtV j)) ∈ flatC (Jvm.Cond.and given_1 narrow_1) := by decide +kernel
theorem env_zd (hT : ∀ w ∈ tables_1, w.before args s = true) (hN : ∀ w ∈ flatC (Jvm.Cond.and given_1 narrow_1), w.before args s = true) : ∃ a b : Nat, ZD a b (Aof s) s s.heap := by
  obtain ⟨a, h1, h2⟩ := env_tab (v := dnV) hT (by decide +kernel) (by decide +kernel) (hN _ (by decide +kernel)) (hN _ (by decide +kernel)) (fun j hj => hN _ (in_dn j hj))
  obtain ⟨b, h3, h4⟩ := env_tab (v := rtV) hT (by decide +kernel) (by decide +kernel) (hN _ (by decide +kernel)) (hN _ (by decide +kernel)) (fun j hj => hN _ (in_rt j hj))
  exact ⟨a, b, h1, h2, h3, h4⟩
theorem env_zl (hT : ∀ w ∈ tables_1, w.before args s = true) (hN : ∀ w ∈ flatC (Jvm.Cond.and given_1 narrow_1), w.before args s = true) : ∃ (t2 tc : Nat) (ad : Nat → Nat), ZL t2 tc ad (Aof s) s s.heap := by
  obtain ⟨t2, h1, h2⟩ := va_Tof (tm := .static "java/util/ArrayList" "DEFAULTCAPACITY_EMPTY_ELEMENTDATA" "[Ljava/lang/Object;") (ty := .object "java/lang/Object") (N := 0) (f := fun _ => .null) (A := Aof s) (by decide) (hN _ (by decide +kernel)) (va_eqt (hN _ (by decide +kernel))) (fun j hj => absurd hj (Nat.not_lt_zero j)) (hAof s)
  have hlen : (Term.length (.static "java/lang/Integer$IntegerCache" "cache" "[Ljava/lang/Integer;")).eval args s none [] s = some (.int (Int32.ofNat 256)) := va_eqt (hN _ (by decide +kernel))
  obtain ⟨ad, g1, g2⟩ := vb_Cof (st := .static "java/lang/Integer$IntegerCache" "cache" "[Ljava/lang/Integer;") (A := Aof s) rfl hlen (hN _ (by decide +kernel)) (hAof s)
  obtain ⟨tc, h3, h4⟩ := va_Tof (tm := .static "java/lang/Integer$IntegerCache" "cache" "[Ljava/lang/Integer;") (ty := .object "java/lang/Integer") (N := 256) (f := fun k => .ref (ad k)) (A := Aof s) (by decide) (hN _ (by decide +kernel)) hlen g2 (hAof s)
  exact ⟨t2, tc, ad, va_Zof (hT _ (by decide +kernel)) (hT _ (by decide +kernel)) h1 (hAof s), h2, va_Zof (hT _ (by decide +kernel)) (hT _ (by decide +kernel)) (va_eqt (hN _ (by decide +kernel))) (hAof s), va_Zof (hT _ (by decide +kernel)) (hT _ (by decide +kernel)) h3 (hAof s), h4, g1⟩
theorem in_std : ∀ j : Nat, j < 3 → Cond.eq (.elem (.field (.string "PegshoreHouseModel" 92) "java/lang/String" "value" "[B") (.int (Int32.ofNat j))) (.int (([115, 116, 100] : List Int32).getD j 0)) ∈ flatC (Jvm.Cond.and given_1 narrow_1) := by decide +kernel
theorem env_zk (hT : ∀ w ∈ tables_1, w.before args s = true) (hN : ∀ w ∈ flatC (Jvm.Cond.and given_1 narrow_1), w.before args s = true) : ∃ (aK aV fS : Nat), ZK aK aV fS (Aof s) s s.heap ∧ vk_R "PegshoreHouseModel" 92 "std" aK s := by
  obtain ⟨adK, adV, h1, h2⟩ := vk_Sof (N := 1) (tm := fun _ => .string "PegshoreHouseModel" 92) (len := [3]) (byt := [[115, 116, 100]]) (A := Aof s) (by decide +kernel) (fun i hi => hN _ (by decide +kernel)) (fun i hi => hN _ (by decide +kernel)) (fun i hi => hN _ (by decide +kernel)) (fun i hi => by
      obtain rfl : i = 0 := by omega
      exact hN _ (by decide +kernel)) (fun i hi j hj => by
      obtain rfl : i = 0 := by omega
      exact hN _ (in_std j hj)) (fun i j hi hj hij => absurd (show i = j by omega) hij) (hAof s)
  refine ⟨adK 0, adV 0, 0, ⟨⟨fun i hi => ?_, fun i j hi hj _ => by omega⟩, va_Zof (hT _ (by decide +kernel)) (hT _ (by decide +kernel)) (va_eqt (hN _ (by decide +kernel))) (hAof s), ?_⟩, vk_R.of (hT _ (by decide +kernel)) (h2 0 (by decide))⟩
  · obtain rfl : i = 0 := by omega
    exact h1.1 0 (by decide)
  · exact va_Zqof (hT _ (by decide +kernel)) (hT _ (by decide +kernel)) (hN _ (by decide +kernel)) (hAof s)
theorem env_zf (hT : ∀ w ∈ tables_1, w.before args s = true) (hN : ∀ w ∈ flatC (Jvm.Cond.and given_1 narrow_1), w.before args s = true) : ∃ (z ad : Nat → Nat), ZF z ad (Aof s) s s.heap ∧ vk_R "PegshoreHouseModel" 92 "std" (z 4) s := by
  obtain ⟨t2, tc, ad, h1⟩ := env_zl hT hN
  obtain ⟨a, b, h2⟩ := env_zd hT hN
  obtain ⟨aK, aV, fS, h3, h4⟩ := env_zk hT hN
  exact ⟨fun k => match k with | 0 => t2 | 1 => tc | 2 => a | 3 => b | 4 => aK | 5 => aV | _ => fS, ad, ⟨h1, h2, h3⟩, h4⟩
end ENV
