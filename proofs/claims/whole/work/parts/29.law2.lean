theorem fpA (a b r : va_W) : (a ++ (b ++ r)).Perm ((a ++ b) ++ r) := List.Perm.of_eq (List.append_assoc a b r).symm
/-- the whole of the reference ahead -/
theorem fpF (a b r : va_W) : (a ++ (b ++ r)).Perm (r ++ (a ++ b)) := (fpA a b r).trans List.perm_append_comm
/-- what a call of one of the law's methods that catch needs to know -/
def KH (y : MethodName) (bytes : ByteArray) (maxL : Nat) (ret : Option FieldType) (hh : List (Nat × Nat × Nat × Nat)) (n : Nat) : Prop :=
  Cond.static y ∈ lw_all ∧ Cond.initialized y.cls ∈ lw_all ∧ Cond.codeWith y bytes maxL ret hh ∈ lw_all ∧ (y.cls ≠ "java/lang/invoke/MethodHandle" ∧ y.cls ≠ "java/lang/invoke/VarHandle" ∧ (parseMethodDescriptor y.desc).map (fun d => d.parameters.length) = some n)
section LAWC
variable {p : Program} {l : Launch} {e : Env} {R : Room} {s : State} {m : MethodId} {args : Array Value} {below : List Frame} {meth : Method} {c : Code} {H : Heap} {locs : List Loc} {cells slots : Nat} {Q : State → Prop}
  {cc bytes : ByteArray} {nL maxL index n pc mc ms : Nat} {own : String} {y : MethodName} {ret rt : Option FieldType} {rm : Room} {ls : Array Slot} {As rest st0 : List Value} {dC : Nat → ClassId} {dI : Nat → Nat → Nat} {cy : Nat → ClassId} {sa : Nat → Nat} {A : Nat → Prop} {V r x : va_W} {hh : List (Nat × Nat × Nat × Nat)}
theorem goodH (k : KH y bytes maxL ret hh n) (hlink : Cond.methodLink own index y ∈ lw_all) : GoodIn lw_all (va_wsS own index y (wsH y bytes maxL ret hh)) := fun w h => by
  have hh9 : w ∈ lw_all := by
    unfold va_wsS wsH at h
    rcases List.mem_append.mp h with h | h
    · simp only [List.mem_cons, List.not_mem_nil, or_false] at h
      rcases h with rfl | rfl | rfl
      · exact hlink
      · first | exact k.1 | exact k.2.1
      · first | exact k.2.1 | exact k.1
    · rcases List.mem_cons.mp h with rfl | h
      · exact k.2.2.1
      · exact h
  exact lw_good _ hh9
theorem lwWrap {S : Type} {P : Int32 → S → Prop} {wn : S → va_W} (hp : V.Perm (x ++ r)) (hC : Cx p s m args meth c own cc nL rt) (hK : kwX dC dI cy s) (hXS : XS sa s) (hXZ : XZ A s s.heap) (hN : NCL s) (hP : va_P (dC, dI) classes V H) (hD : va_D A V) (hS : va_S A s.heap H locs) (hA : ∀ q, s.heap.size ≤ q → A q)
    (hM : Met l y (wsH y bytes maxL ret hh) rm (va_Pc As (PcW dC dI cy sa x H.size)) (va_Qi P (fun (u : S) t => va_P (dC, dI) classes (wn u) t.heap ∧ va_D (va_A x H.size) (wn u)) (va_A x H.size)) mc ms (va_A x H.size)) (k : KH y bytes maxL ret hh n) (hlink : Cond.methodLink own index y ∈ lw_all)
    (hrm : rm.cells = mc ∧ rm.slots = ms) (hR : rm.frames + 1 ≤ R.frames ∧ 8 + (maxL + 11) + rm.locals ≤ R.locals) (hl : ls.size = nL) (hn : As.length = n) (hst : st0 = As.reverse ++ rest) (hr : (rest.map fun v => v.category).sum ≤ 8) (hdg : decode cc pc = .ok (.invokestatic index, 3)) (hf : cells + mc ≤ R.cells ∧ slots + ms ≤ R.slots)
    (kk : ∀ (r9 : Int32) (u : S) (H1 : Heap) (locs1 : List Loc), P r9 u → va_P (dC, dI) classes (wn u ++ r) H1 → va_D A (wn u ++ r) → va_S A s.heap H1 locs1 → W p l e R s m args below meth c H1 locs1 (cells + mc) (slots + ms) Q (F0 m (pc + 3) ls (.int r9 :: rest))) :
    W p l e R s m args below meth c H locs cells slots Q (F0 m pc ls st0) := by
  have hF := fw_free hp hD hS hA
  have hpre : PreS s H (va_Pc As (PcW dC dI cy sa x H.size)) As :=
    ⟨fun a U g mk q => ⟨q.1, ⟨q.2.1.1, q.2.1.2.1, q.2.1.2.2.1.calling, q.2.1.2.2.2.1, q.2.1.2.2.2.2.1.calling, q.2.1.2.2.2.2.2.moved (u := U) (U := U.calling g mk a) (Vm.Alike.refl U.vm)⟩, NCL.moved (u := U) (U := U.calling g mk a) (Vm.Alike.refl U.vm) q.2.2⟩,
     fun U hU hW => ⟨rfl, ⟨by rw [hU], by rw [hU]; exact fw_get hp hP, hK.warm hW, (fw_getD hp hD).weaken (fun _ _ _ _ => trivial), hXS.warm hW, by rw [hU]; exact ((hXZ.kept hS.2.1).narrow hF).moved hW.alike⟩, hN.moved hW.alike⟩⟩
  exact va_calli (vx_runSW (As := As) (rest := rest) ⟨hC.1, hC.2.1, hC.2.2.2.1, hC.2.2.2.2.1, hC.2.2.2.2.2.1⟩ hM (vx_cwSW n hC.2.2.2.2.2.1 (goodH k hlink) rfl hrm.1 hrm.2 k.2.2.2 hR) hpre rfl hn hl hst (lv_room hr) hdg hf) hS (fun q _ h => hF q h) hF (fun r9 u t H1 locs1 ht hvm hw hB hz1 hk1 hS1 => by
    obtain ⟨hB1, hB2⟩ := hB
    rw [ht] at hB1
    obtain ⟨g1, g2⟩ := fw_join hp hP hD hk1 hF hB1 hB2
    exact kk r9 u H1 locs1 hw g1 g2 hS1)
end LAWC

theorem k_L_setKind : KH yL_setKind cL_setKind 4 (some .int) [(0, 9, 12, 13)] 3 := ⟨q390, q0, q391, by decide +kernel⟩
theorem k_L_drill : KH yL_drill cL_drill 4 (some .int) [(0, 9, 12, 13), (0, 9, 15, 19), (0, 9, 18, 21)] 3 := ⟨q500, q0, q501, by decide +kernel⟩
theorem k_L_fill : KH yL_fill cL_fill 4 (some .int) [(0, 9, 12, 13), (0, 9, 15, 19)] 3 := ⟨q555, q0, q556, by decide +kernel⟩
theorem k_L_hole : KH yL_hole cL_hole 4 (some .int) [(0, 9, 12, 13), (0, 9, 15, 29)] 3 := ⟨q567, q0, q568, by decide +kernel⟩
theorem k_L_cell : KH yL_cell cL_cell 4 (some .int) [(0, 9, 12, 34)] 3 := ⟨q590, q0, q591, by decide +kernel⟩
theorem k_L_put : KH yL_put cL_put 4 (some .int) [(0, 9, 12, 34)] 3 := ⟨q638, q0, q639, by decide +kernel⟩
theorem k_L_mayJump : KH yL_mayJump cL_mayJump 5 (some .int) [(0, 17, 20, 34)] 4 := ⟨q650, q0, q651, by decide +kernel⟩
theorem k_L_jump : KH yL_jump cL_jump 5 (some .int) [(0, 10, 13, 34), (0, 10, 17, 19)] 4 := ⟨q661, q0, q662, by decide +kernel⟩
theorem k_L_jumpAt : KH yL_jumpAt cL_jumpAt 4 (some .int) [(0, 9, 12, 29)] 3 := ⟨q679, q0, q680, by decide +kernel⟩
theorem k_L_takeBack : KH yL_takeBack cL_takeBack 3 (some .int) [(0, 8, 11, 29)] 2 := ⟨q691, q0, q692, by decide +kernel⟩
theorem k_L_leastForm : KH yL_leastForm cL_leastForm 4 (some .int) [(0, 9, 12, 34)] 3 := ⟨q704, q0, q705, by decide +kernel⟩
theorem k_L_setEnd : KH yL_setEnd cL_setEnd 4 (some .int) [(0, 9, 12, 34)] 3 := ⟨q716, q0, q717, by decide +kernel⟩
theorem k_L_hint : KH yL_hint cL_hint 3 (some .int) [(0, 8, 11, 29)] 2 := ⟨q723, q0, q724, by decide +kernel⟩
theorem k_L_loses : KH yL_loses cL_loses 5 (some .int) [(0, 17, 20, 34), (0, 17, 24, 19)] 4 := ⟨q743, q0, q744, by decide +kernel⟩
theorem k_L_leastSweeps : KH yL_leastSweeps cL_leastSweeps 3 (some .int) [(0, 8, 11, 19), (0, 8, 14, 29)] 2 := ⟨q750, q0, q751, by decide +kernel⟩
theorem k_L_highest : KH yL_highest cL_highest 3 (some .int) [(0, 8, 11, 29)] 2 := ⟨q772, q0, q773, by decide +kernel⟩
theorem k_L_weigh : KH yL_weigh cL_weigh 5 (some .int) [(0, 10, 13, 34), (0, 10, 17, 13)] 4 := ⟨q780, q0, q781, by decide +kernel⟩
theorem k_L_weight : KH yL_weight cL_weight 4 (some .int) [(0, 9, 12, 34)] 3 := ⟨q792, q0, q793, by decide +kernel⟩
theorem k_L_fault : KH yL_fault cL_fault 3 (some .int) [(0, 8, 11, 29)] 2 := ⟨q799, q0, q800, by decide +kernel⟩
theorem k_L_colour : KH yL_colour cL_colour 5 (some .int) [(0, 10, 13, 34), (0, 10, 17, 13)] 4 := ⟨q807, q0, q808, by decide +kernel⟩
theorem k_L_isFit : KH yL_isFit cL_isFit 4 (some .int) [(0, 16, 19, 13)] 3 := ⟨q819, q0, q820, by decide +kernel⟩
theorem k_L_winning : KH yL_winning cL_winning 3 (some .int) [(0, 8, 11, 29)] 2 := ⟨q826, q0, q827, by decide +kernel⟩
theorem k_L_tell : KH yL_tell cL_tell 4 (some .int) [(0, 9, 12, 34), (0, 9, 15, 21)] 3 := ⟨q834, q0, q835, by decide +kernel⟩
theorem k_L_play : KH yL_play cL_play 3 (some .int) [(0, 8, 11, 19)] 2 := ⟨q842, q0, q843, by decide +kernel⟩
theorem k_L_faultAt : KH yL_faultAt cL_faultAt 3 (some .int) [(0, 8, 11, 29)] 2 := ⟨q854, q0, q855, by decide +kernel⟩
theorem k_L_pegBits : KH yL_pegBits cL_pegBits 3 (some .int) [(0, 8, 11, 103)] 2 := ⟨q862, q0, q863, by decide +kernel⟩
