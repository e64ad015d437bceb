-- ===== ArrayLists of small Integers: al (has an array of its own), e its address, cap its length, mc modCount, v the numbers, n how many =====
abbrev LST : Type := Bool × Nat × Nat × Int32 × (Nat → Nat) × Nat
def lf (ad : Nat → Nat) (v : Nat → Nat) (n : Nat) : Nat → Option Nat := fun i => if i < n then some (ad (v i + 128)) else none
def wL1 (ad : Nat → Nat) (cy : Nat → ClassId) (a e cap : Nat) (mc : Int32) (v : Nat → Nat) (n : Nat) : va_W := [(a, .inr (5, [.int mc, .ref e, .int (nI n)])), (e, .inl (cy 4, cap, .inr (.inr (.inr (.inr (lf ad v n))))))]
def wL0 (t2 a : Nat) (mc : Int32) : va_W := [(a, .inr (5, [.int mc, .ref t2, .int 0]))]
def wl (ad : Nat → Nat) (cy : Nat → ClassId) (t2 a : Nat) (u : LST) : va_W := match u with
  | (true, e, cap, mc, v, n) => wL1 ad cy a e cap mc v n
  | (false, _, _, mc, _, _) => wL0 t2 a mc
def okL (u : LST) : Prop := u.2.2.2.2.2 ≤ 12 ∧ (∀ i, i < u.2.2.2.2.2 → u.2.2.2.2.1 i < 128) ∧ (u.1 = true → u.2.2.2.2.2 ≤ u.2.2.1 ∧ (u.2.2.1 = 10 ∨ u.2.2.1 = 15)) ∧ (u.1 = false → u.2.2.2.2.2 = 0)
def upN (v : Nat → Nat) (k x : Nat) : Nat → Nat := fun i => if i = k then x else v i
theorem lf_add (ad : Nat → Nat) (v : Nat → Nat) (n k : Nat) : va_up (lf ad v n) n (some (ad (k + 128))) = lf ad (upN v n k) (n + 1) := by
  funext i
  unfold va_up lf upN
  by_cases h : i = n
  · subst h
    simp
  · by_cases h2 : i < n
    · simp [h, h2, Nat.lt_succ_of_lt h2]
    · simp [h, h2, show ¬ i < n + 1 by omega]
theorem lf_cut (ad : Nat → Nat) (v : Nat → Nat) (n : Nat) : va_up (lf ad v (n + 1)) n none = lf ad v n := by
  funext i
  unfold va_up lf
  by_cases h : i = n
  · subst h
    simp
  · by_cases h2 : i < n
    · simp [h, h2, Nat.lt_succ_of_lt h2]
    · simp [h, h2, show ¬ i < n + 1 by omega]
theorem lf_at {ad : Nat → Nat} {v : Nat → Nat} {n i : Nat} (h : i < n) : lf ad v n i = some (ad (v i + 128)) := if_pos h
/-- the statics that lists and boxes look at -/
def ZL (t2 tc : Nat) (ad : Nat → Nat) (A : Nat → Prop) (U : State) (H : Heap) : Prop :=
  va_Z "java/util/ArrayList" "DEFAULTCAPACITY_EMPTY_ELEMENTDATA" "[Ljava/lang/Object;" (.ref t2) A U H ∧ va_T (.object "java/lang/Object") t2 0 (fun _ => .null) A U H ∧
  va_Z "java/lang/Integer$IntegerCache" "high" "I" (.int 127) A U H ∧ va_Z "java/lang/Integer$IntegerCache" "cache" "[Ljava/lang/Integer;" (.ref tc) A U H ∧ va_T (.object "java/lang/Integer") tc 256 (fun k => .ref (ad k)) A U H ∧ vb_C ad A U H
theorem ZL.moved {t2 tc : Nat} {ad : Nat → Nat} {A : Nat → Prop} {u U : State} {H : Heap} (hvm : u.vm.Alike U.vm) (h : ZL t2 tc ad A u H) : ZL t2 tc ad A U H := ⟨h.1.moved hvm, h.2.1.moved hvm, h.2.2.1.moved hvm, h.2.2.2.1.moved hvm, h.2.2.2.2.1.moved hvm, h.2.2.2.2.2.moved hvm⟩
theorem ZL.kept {t2 tc : Nat} {ad : Nat → Nat} {A : Nat → Prop} {U : State} {H H1 : Heap} (h : ZL t2 tc ad A U H) (hq : ∀ a : Nat, a < H.size → ¬ A a → H1[a]? = H[a]?) : ZL t2 tc ad A U H1 := ⟨h.1.kept hq, h.2.1.kept hq, h.2.2.1.kept hq, h.2.2.2.1.kept hq, h.2.2.2.2.1.kept hq, h.2.2.2.2.2.kept hq⟩
theorem ZL.narrow {t2 tc : Nat} {ad : Nat → Nat} {A B : Nat → Prop} {U : State} {H : Heap} (h : ZL t2 tc ad A U H) (hAB : ∀ q, B q → A q) : ZL t2 tc ad B U H := ⟨h.1.narrow hAB, h.2.1.narrow hAB, h.2.2.1.narrow hAB, h.2.2.2.1.narrow hAB, h.2.2.2.2.1.narrow hAB, h.2.2.2.2.2.narrow hAB⟩
/-- what a list method begins with -/
def PcL (dC : Nat → ClassId) (dI : Nat → Nat → Nat) (cy : Nat → ClassId) (t2 tc : Nat) (ad : Nat → Nat) (wc : va_W) (sz : Nat) (U : State) : Prop := U.heap.size = sz ∧ va_P (dC, dI) classes wc U.heap ∧ kwX dC dI cy U ∧ va_D (fun _ => True) wc ∧ ZL t2 tc ad (va_A wc sz) U U.heap
/-- a box of the cache, seen from the heap at hand -/
theorem box_at {t2 tc : Nat} {ad : Nat → Nat} {A : Nat → Prop} {s : State} {H : Heap} {locs : List Loc} (hZ : ZL t2 tc ad A s s.heap) (hS : va_S A s.heap H locs) {k : Nat} (hk : k < 256) :
    ∃ cell : Cell, H[ad k]? = some cell ∧ cell.vm.isStatics = false ∧ s.vm.findClass "java/lang/Integer" = some cell.cls := by
  obtain ⟨cell, h1, h2, h3, h4⟩ := (hZ.2.2.2.2.2.kept hS.2.1).1 k hk
  exact ⟨cell, h1, h2, h3⟩
def vp_Sq0 (q : Nat) : Array Value → State → Outcome → State → Prop := fun _ st o t => o = .returned (some (.ref q)) ∧ t.heap = st.heap
/-- what a call by an interface needs to know -/
def KF (Cn : String) (x y : MethodName) (bytes : ByteArray) (maxL : Nat) (ret : Option FieldType) (n : Nat) : Prop :=
  Cond.selects Cn x y ∈ lw_all ∧ Cond.instanceMethod y ∈ lw_all ∧ Cond.initialized y.cls ∈ lw_all ∧ Cond.code y bytes maxL ret ∈ lw_all ∧ (x.cls ≠ "java/lang/invoke/MethodHandle" ∧ x.cls ≠ "java/lang/invoke/VarHandle" ∧ (parseMethodDescriptor x.desc).map (fun d => d.parameters.length) = some n)
theorem goodF {own Cn : String} {idx : Nat} {x y : MethodName} {bytes : ByteArray} {maxL n : Nat} {ret : Option FieldType} (k : KF Cn x y bytes maxL ret n) (hlink : Cond.methodLink own idx x ∈ lw_all) : GoodIn lw_all (va_wsF own idx Cn x y (ws_ y bytes maxL ret)) := fun w h => by
  unfold va_wsF at h
  rcases List.mem_append.mp h with h | h
  · simp only [List.mem_cons, List.not_mem_nil, or_false] at h
    rcases h with rfl | rfl | rfl | rfl
    · exact lw_good _ hlink
    · exact lw_good _ k.1
    · exact lw_good _ k.2.1
    · exact lw_good _ k.2.2.1
  · exact ws_good k.2.2.2.1 w h

theorem dJx4a65c_size_8abf5_0 : decode cJx4a65c_size_8abf5 0 = .ok (.aload_n 0, 1) := by decide +kernel
theorem dJx4a65c_size_8abf5_1 : decode cJx4a65c_size_8abf5 1 = .ok (.getfield 48, 3) := by decide +kernel
theorem dJx4a65c_size_8abf5_4 : decode cJx4a65c_size_8abf5 4 = .ok (.ireturn, 1) := by decide +kernel
theorem k_Jx4a65c_size_8abf5 : KF RJx4a65c ⟨"java/util/List", "size", "()I"⟩ yJx4a65c_size_8abf5 cJx4a65c_size_8abf5 1 (some .int) 0 := ⟨q1353, q1355, q8, q1357, by decide +kernel⟩
set_option maxHeartbeats 4000000 in
set_option maxRecDepth 100000 in
theorem m_Jx4a65c_size_8abf5 (l : Launch) (dC : Nat → ClassId) (dI : Nat → Nat → Nat) (cy : Nat → ClassId) (ad : Nat → Nat) (t2 a : Nat) (u : LST) (hu : okL u) (P : Int32 → Prop) (hF : P (nI u.2.2.2.2.2)) : Met l yJx4a65c_size_8abf5 (ws_ yJx4a65c_size_8abf5 cJx4a65c_size_8abf5 1 (some .int)) ({ frames := 0, cells := 0, slots := 0, locals := 0 } : Room) (va_Pc [.ref a] (fun U => va_P (dC, dI) classes (wl ad cy t2 a u) U.heap ∧ kwX dC dI cy U)) (vp_Si P) 0 0 (fun _ => False) := by
  obtain ⟨al, e, cap, mc, v, n⟩ := u
  have hn12 : n ≤ 12 := hu.1
  cases al
  · have hn : n = 0 := hu.2.2.2 rfl
    subst hn
    refine Met.ofCx (own := RJx4a65c) (by decide) rfl (Nat.le_of_ble_eq_true rfl) ?_
    intro p e9 s m below meth c hC hv ls hl
    obtain ⟨hx, hb, hr, hml, hown, hts, hlocks⟩ := hC
    have hl : lv_has ls 1 [(0, .ref a)] := hl
    obtain ⟨hP, hK⟩ := hv
    have hP : va_P (dC, dI) classes ([(a, .inr (5, [.int mc, .ref t2, .int 0]))]) s.heap := hP
    refine lv_aload_n hx hb dJx4a65c_size_8abf5_0 rfl (lv_at hl 0 rfl) ?_
    refine va_get (D := (dC, dI)) (ci := 5) (v := .int 0) (C := RJx4a65c) (T := TJx4a65c) (N := 3) hx hb hts in_Jx4a65c hown hK.1 hP 0 rfl rfl 2 (by decide) (hts _ q912) (fun _ h9 => h9) rfl dJx4a65c_size_8abf5_1 ?_
    exact W.iret (v := 0) hx hb hr (fun t ht hW => ⟨0, rfl, hF, ht⟩) (fun q hq => absurd hq List.not_mem_nil) dJx4a65c_size_8abf5_4
  · skip
    refine Met.ofCx (own := RJx4a65c) (by decide) rfl (Nat.le_of_ble_eq_true rfl) ?_
    intro p e9 s m below meth c hC hv ls hl
    obtain ⟨hx, hb, hr, hml, hown, hts, hlocks⟩ := hC
    have hl : lv_has ls 1 [(0, .ref a)] := hl
    obtain ⟨hP, hK⟩ := hv
    have hP : va_P (dC, dI) classes ([(a, .inr (5, [.int mc, .ref e, .int (nI n)])), (e, .inl (cy 4, cap, .inr (.inr (.inr (.inr (lf ad v n))))))]) s.heap := hP
    refine lv_aload_n hx hb dJx4a65c_size_8abf5_0 rfl (lv_at hl 0 rfl) ?_
    refine va_get (D := (dC, dI)) (ci := 5) (v := .int (nI n)) (C := RJx4a65c) (T := TJx4a65c) (N := 3) hx hb hts in_Jx4a65c hown hK.1 hP 0 rfl rfl 2 (by decide) (hts _ q912) (fun _ h9 => h9) rfl dJx4a65c_size_8abf5_1 ?_
    exact W.iret (v := nI n) hx hb hr (fun t ht hW => ⟨nI n, rfl, hF, ht⟩) (fun q hq => absurd hq List.not_mem_nil) dJx4a65c_size_8abf5_4
theorem dJx4a65c_isEmpty_aae02_0 : decode cJx4a65c_isEmpty_aae02 0 = .ok (.aload_n 0, 1) := by decide +kernel
theorem dJx4a65c_isEmpty_aae02_1 : decode cJx4a65c_isEmpty_aae02 1 = .ok (.getfield 48, 3) := by decide +kernel
theorem dJx4a65c_isEmpty_aae02_4 : decode cJx4a65c_isEmpty_aae02 4 = .ok (.ifCond .ne 7, 3) := by decide +kernel
theorem dJx4a65c_isEmpty_aae02_7 : decode cJx4a65c_isEmpty_aae02 7 = .ok (.iconst 1, 1) := by decide +kernel
theorem dJx4a65c_isEmpty_aae02_8 : decode cJx4a65c_isEmpty_aae02 8 = .ok (.goto 4, 3) := by decide +kernel
theorem dJx4a65c_isEmpty_aae02_11 : decode cJx4a65c_isEmpty_aae02 11 = .ok (.iconst 0, 1) := by decide +kernel
theorem dJx4a65c_isEmpty_aae02_12 : decode cJx4a65c_isEmpty_aae02 12 = .ok (.ireturn, 1) := by decide +kernel
theorem k_Jx4a65c_isEmpty_aae02 : KF RJx4a65c ⟨"java/util/List", "isEmpty", "()Z"⟩ yJx4a65c_isEmpty_aae02 cJx4a65c_isEmpty_aae02 1 (some .boolean) 0 := ⟨q1344, q1346, q8, q1348, by decide +kernel⟩
set_option maxHeartbeats 4000000 in
set_option maxRecDepth 100000 in
theorem m_Jx4a65c_isEmpty_aae02 (l : Launch) (dC : Nat → ClassId) (dI : Nat → Nat → Nat) (cy : Nat → ClassId) (ad : Nat → Nat) (t2 a : Nat) (u : LST) (hu : okL u) (P : Int32 → Prop) (h0 : u.2.2.2.2.2 = 0 → P 1) (h1 : u.2.2.2.2.2 ≠ 0 → P 0) : Met l yJx4a65c_isEmpty_aae02 (ws_ yJx4a65c_isEmpty_aae02 cJx4a65c_isEmpty_aae02 1 (some .boolean)) ({ frames := 0, cells := 0, slots := 0, locals := 0 } : Room) (va_Pc [.ref a] (fun U => va_P (dC, dI) classes (wl ad cy t2 a u) U.heap ∧ kwX dC dI cy U)) (vp_Si P) 0 0 (fun _ => False) := by
  obtain ⟨al, e, cap, mc, v, n⟩ := u
  have hn12 : n ≤ 12 := hu.1
  cases al
  · have hn : n = 0 := hu.2.2.2 rfl
    subst hn
    refine Met.ofCx (own := RJx4a65c) (by decide) rfl (Nat.le_of_ble_eq_true rfl) ?_
    intro p e9 s m below meth c hC hv ls hl
    obtain ⟨hx, hb, hr, hml, hown, hts, hlocks⟩ := hC
    have hl : lv_has ls 1 [(0, .ref a)] := hl
    obtain ⟨hP, hK⟩ := hv
    have hP : va_P (dC, dI) classes ([(a, .inr (5, [.int mc, .ref t2, .int 0]))]) s.heap := hP
    refine lv_aload_n hx hb dJx4a65c_isEmpty_aae02_0 rfl (lv_at hl 0 rfl) ?_
    refine va_get (D := (dC, dI)) (ci := 5) (v := .int 0) (C := RJx4a65c) (T := TJx4a65c) (N := 3) hx hb hts in_Jx4a65c hown hK.1 hP 0 rfl rfl 2 (by decide) (hts _ q912) (fun _ h9 => h9) rfl dJx4a65c_isEmpty_aae02_1 ?_
    refine lv_if_ne (tgt := 11) hx hb dJx4a65c_isEmpty_aae02_4 (by decide) (fun cz => absurd (rfl) cz) (fun cz => ?_)
    refine lv_iconst (v := 1) hx hb dJx4a65c_isEmpty_aae02_7 (by decide) ?_
    refine lv_goto (tgt := 12) hx hb dJx4a65c_isEmpty_aae02_8 (by decide) ?_
    exact W.zret (v := 1) hx hb hr rfl (fun t ht hW => ⟨1, rfl, h0 rfl, ht⟩) (fun q hq => absurd hq List.not_mem_nil) dJx4a65c_isEmpty_aae02_12
  · rcases Nat.eq_zero_or_pos n with hz | hz
    · subst hz
      refine Met.ofCx (own := RJx4a65c) (by decide) rfl (Nat.le_of_ble_eq_true rfl) ?_
      intro p e9 s m below meth c hC hv ls hl
      obtain ⟨hx, hb, hr, hml, hown, hts, hlocks⟩ := hC
      have hl : lv_has ls 1 [(0, .ref a)] := hl
      obtain ⟨hP, hK⟩ := hv
      have hP : va_P (dC, dI) classes ([(a, .inr (5, [.int mc, .ref e, .int (nI 0)])), (e, .inl (cy 4, cap, .inr (.inr (.inr (.inr (lf ad v 0))))))]) s.heap := hP
      refine lv_aload_n hx hb dJx4a65c_isEmpty_aae02_0 rfl (lv_at hl 0 rfl) ?_
      refine va_get (D := (dC, dI)) (ci := 5) (v := .int (nI 0)) (C := RJx4a65c) (T := TJx4a65c) (N := 3) hx hb hts in_Jx4a65c hown hK.1 hP 0 rfl rfl 2 (by decide) (hts _ q912) (fun _ h9 => h9) rfl dJx4a65c_isEmpty_aae02_1 ?_
      refine lv_if_ne (tgt := 11) hx hb dJx4a65c_isEmpty_aae02_4 (by decide) (fun cz => absurd (rfl) cz) (fun cz => ?_)
      refine lv_iconst (v := 1) hx hb dJx4a65c_isEmpty_aae02_7 (by decide) ?_
      refine lv_goto (tgt := 12) hx hb dJx4a65c_isEmpty_aae02_8 (by decide) ?_
      exact W.zret (v := 1) hx hb hr rfl (fun t ht hW => ⟨1, rfl, h0 rfl, ht⟩) (fun q hq => absurd hq List.not_mem_nil) dJx4a65c_isEmpty_aae02_12
    · skip
      refine Met.ofCx (own := RJx4a65c) (by decide) rfl (Nat.le_of_ble_eq_true rfl) ?_
      intro p e9 s m below meth c hC hv ls hl
      obtain ⟨hx, hb, hr, hml, hown, hts, hlocks⟩ := hC
      have hl : lv_has ls 1 [(0, .ref a)] := hl
      obtain ⟨hP, hK⟩ := hv
      have hP : va_P (dC, dI) classes ([(a, .inr (5, [.int mc, .ref e, .int (nI n)])), (e, .inl (cy 4, cap, .inr (.inr (.inr (.inr (lf ad v n))))))]) s.heap := hP
      refine lv_aload_n hx hb dJx4a65c_isEmpty_aae02_0 rfl (lv_at hl 0 rfl) ?_
      refine va_get (D := (dC, dI)) (ci := 5) (v := .int (nI n)) (C := RJx4a65c) (T := TJx4a65c) (N := 3) hx hb hts in_Jx4a65c hown hK.1 hP 0 rfl rfl 2 (by decide) (hts _ q912) (fun _ h9 => h9) rfl dJx4a65c_isEmpty_aae02_1 ?_
      refine lv_if_ne (tgt := 11) hx hb dJx4a65c_isEmpty_aae02_4 (by decide) (fun cz => ?_) (fun cz => absurd cz (nI_ne0 hz (by omega)))
      refine lv_iconst (v := 0) hx hb dJx4a65c_isEmpty_aae02_11 (by decide) ?_
      exact W.zret (v := 0) hx hb hr rfl (fun t ht hW => ⟨0, rfl, h1 (show n ≠ 0 from Nat.ne_of_gt hz), ht⟩) (fun q hq => absurd hq List.not_mem_nil) dJx4a65c_isEmpty_aae02_12
theorem dJ3_checkIndex_8e157_0 : decode cJ3_checkIndex_8e157 0 = .ok (.iload_n 0, 1) := by decide +kernel
theorem dJ3_checkIndex_8e157_1 : decode cJ3_checkIndex_8e157 1 = .ok (.ifCond .lt 8, 3) := by decide +kernel
theorem dJ3_checkIndex_8e157_4 : decode cJ3_checkIndex_8e157 4 = .ok (.iload_n 0, 1) := by decide +kernel
theorem dJ3_checkIndex_8e157_5 : decode cJ3_checkIndex_8e157 5 = .ok (.iload_n 1, 1) := by decide +kernel
theorem dJ3_checkIndex_8e157_6 : decode cJ3_checkIndex_8e157 6 = .ok (.if_icmp .lt 10, 3) := by decide +kernel
theorem dJ3_checkIndex_8e157_9 : decode cJ3_checkIndex_8e157 9 = .ok (.aload_n 2, 1) := by decide +kernel
theorem dJ3_checkIndex_8e157_10 : decode cJ3_checkIndex_8e157 10 = .ok (.iload_n 0, 1) := by decide +kernel
theorem dJ3_checkIndex_8e157_11 : decode cJ3_checkIndex_8e157 11 = .ok (.iload_n 1, 1) := by decide +kernel
theorem dJ3_checkIndex_8e157_12 : decode cJ3_checkIndex_8e157 12 = .ok (.invokestatic 95, 3) := by decide +kernel
theorem dJ3_checkIndex_8e157_15 : decode cJ3_checkIndex_8e157 15 = .ok (.athrow, 1) := by decide +kernel
theorem dJ3_checkIndex_8e157_16 : decode cJ3_checkIndex_8e157 16 = .ok (.iload_n 0, 1) := by decide +kernel
theorem dJ3_checkIndex_8e157_17 : decode cJ3_checkIndex_8e157 17 = .ok (.ireturn, 1) := by decide +kernel
theorem k_J3_checkIndex_8e157 : KS yJ3_checkIndex_8e157 cJ3_checkIndex_8e157 3 (some .int) 3 := ⟨q1117, q19, q1118, by decide +kernel⟩
set_option maxHeartbeats 4000000 in
set_option maxRecDepth 100000 in
theorem m_J3_checkIndex_8e157 (l : Launch) (i n : Int32) (h0 : ¬ i < 0) (h1 : i < n) : Met l yJ3_checkIndex_8e157 (ws_ yJ3_checkIndex_8e157 cJ3_checkIndex_8e157 3 (some .int)) ({ frames := 0, cells := 0, slots := 0, locals := 0 } : Room) (va_Pc [.int i, .int n, .null] (fun _ => True)) (vp_Si (fun r => r = i)) 0 0 (fun _ => False) := by
  refine Met.ofCx (own := RJ3) (by decide) rfl (Nat.le_of_ble_eq_true rfl) ?_
  intro p e9 s m below meth c hC hv ls hl
  obtain ⟨hx, hb, hr, hml, hown, hts, hlocks⟩ := hC
  have hl : lv_has ls 3 [(0, .int i), (1, .int n), (2, .null)] := hl
  refine lv_iload_n hx hb dJ3_checkIndex_8e157_0 rfl (lv_at hl 0 rfl) ?_
  refine lv_if_lt (tgt := 9) hx hb dJ3_checkIndex_8e157_1 (by decide) (fun cz => absurd cz (h0)) (fun cz => ?_)
  refine lv_iload_n hx hb dJ3_checkIndex_8e157_4 rfl (lv_at hl 0 rfl) ?_
  refine lv_iload_n hx hb dJ3_checkIndex_8e157_5 rfl (lv_at hl 1 rfl) ?_
  refine lv_icmp_lt (tgt := 16) hx hb dJ3_checkIndex_8e157_6 (by decide) (fun cz => ?_) (fun cz => absurd (h1) cz)
  refine lv_iload_n hx hb dJ3_checkIndex_8e157_16 rfl (lv_at hl 0 rfl) ?_
  exact W.iret (v := i) hx hb hr (fun t ht hW => ⟨i, rfl, rfl, ht⟩) (fun q hq => absurd hq List.not_mem_nil) dJ3_checkIndex_8e157_17
theorem dJ15_checkIndex_7cf53_0 : decode cJ15_checkIndex_7cf53 0 = .ok (.iload_n 0, 1) := by decide +kernel
theorem dJ15_checkIndex_7cf53_1 : decode cJ15_checkIndex_7cf53 1 = .ok (.iload_n 1, 1) := by decide +kernel
theorem dJ15_checkIndex_7cf53_2 : decode cJ15_checkIndex_7cf53 2 = .ok (.aconst_null, 1) := by decide +kernel
theorem dJ15_checkIndex_7cf53_3 : decode cJ15_checkIndex_7cf53 3 = .ok (.invokestatic 105, 3) := by decide +kernel
theorem dJ15_checkIndex_7cf53_6 : decode cJ15_checkIndex_7cf53 6 = .ok (.ireturn, 1) := by decide +kernel
theorem k_J15_checkIndex_7cf53 : KS yJ15_checkIndex_7cf53 cJ15_checkIndex_7cf53 2 (some .int) 2 := ⟨q1368, q30, q1369, by decide +kernel⟩
set_option maxHeartbeats 4000000 in
set_option maxRecDepth 100000 in
theorem m_J15_checkIndex_7cf53 (l : Launch) (i n : Int32) (h0 : ¬ i < 0) (h1 : i < n) : Met l yJ15_checkIndex_7cf53 (ws_ yJ15_checkIndex_7cf53 cJ15_checkIndex_7cf53 2 (some .int)) ({ frames := 1, cells := 0, slots := 0, locals := 22 } : Room) (va_Pc [.int i, .int n] (fun _ => True)) (vp_Si (fun r => r = i)) 0 0 (fun _ => False) := by
  refine Met.ofCx (own := RJ15) (by decide) rfl (Nat.le_of_ble_eq_true rfl) ?_
  intro p e9 s m below meth c hC hv ls hl
  obtain ⟨hx, hb, hr, hml, hown, hts, hlocks⟩ := hC
  have hl : lv_has ls 2 [(0, .int i), (1, .int n)] := hl
  refine lv_iload_n hx hb dJ15_checkIndex_7cf53_0 rfl (lv_at hl 0 rfl) ?_
  refine lv_iload_n hx hb dJ15_checkIndex_7cf53_1 rfl (lv_at hl 1 rfl) ?_
  refine lv_null hx hb dJ15_checkIndex_7cf53_2 ?_
  refine cpSi (As := [.int i, .int n, .null]) (rest := []) ⟨hx, hb, hr, hml, hown, hts, hlocks⟩ (m_J3_checkIndex_8e157 l i n h0 h1) k_J3_checkIndex_8e157 q1370 ⟨rfl, rfl⟩ ⟨Nat.le_of_ble_eq_true rfl, Nat.le_of_ble_eq_true rfl⟩ hl.1 rfl rfl (Nat.le_of_ble_eq_true rfl) dJ15_checkIndex_7cf53_3 ⟨Nat.le_of_ble_eq_true rfl, Nat.le_of_ble_eq_true rfl⟩ (fun r hr9 => ?_)
  rw [hr9]
  exact W.iret (v := i) hx hb hr (fun t ht hW => ⟨i, rfl, rfl, ht⟩) (fun q hq => absurd hq List.not_mem_nil) dJ15_checkIndex_7cf53_6
theorem dJx4a65c_elementData_915e3_0 : decode cJx4a65c_elementData_915e3 0 = .ok (.aload_n 0, 1) := by decide +kernel
theorem dJx4a65c_elementData_915e3_1 : decode cJx4a65c_elementData_915e3 1 = .ok (.getfield 9, 3) := by decide +kernel
theorem dJx4a65c_elementData_915e3_4 : decode cJx4a65c_elementData_915e3 4 = .ok (.iload_n 1, 1) := by decide +kernel
theorem dJx4a65c_elementData_915e3_5 : decode cJx4a65c_elementData_915e3 5 = .ok (.aaload, 1) := by decide +kernel
theorem dJx4a65c_elementData_915e3_6 : decode cJx4a65c_elementData_915e3 6 = .ok (.areturn, 1) := by decide +kernel
theorem k_Jx4a65c_elementData_915e3 : KV RJx4a65c yJx4a65c_elementData_915e3 cJx4a65c_elementData_915e3 2 (some (.object "java/lang/Object")) 1 := ⟨q1399, q1400, q8, q1401, by decide +kernel⟩
set_option maxHeartbeats 4000000 in
set_option maxRecDepth 100000 in
theorem m_Jx4a65c_elementData_915e3 (l : Launch) (dC : Nat → ClassId) (dI : Nat → Nat → Nat) (cy : Nat → ClassId) (ad : Nat → Nat) (t2 a : Nat) (e cap : Nat) (mc : Int32) (v : Nat → Nat) (n i : Nat) (hi : i < n) (hn : n ≤ cap) (hc : cap ≤ 100) : Met l yJx4a65c_elementData_915e3 (ws_ yJx4a65c_elementData_915e3 cJx4a65c_elementData_915e3 2 (some (.object "java/lang/Object"))) ({ frames := 0, cells := 0, slots := 0, locals := 0 } : Room) (va_Pc [.ref a, .int (nI i)] (fun U => va_P (dC, dI) classes (wL1 ad cy a e cap mc v n) U.heap ∧ kwX dC dI cy U)) (vp_Sq0 (ad (v i + 128))) 0 0 (fun _ => False) := by
  refine Met.ofCx (own := RJx4a65c) (by decide) rfl (Nat.le_of_ble_eq_true rfl) ?_
  intro p e9 s m below meth c hC hv ls hl
  obtain ⟨hx, hb, hr, hml, hown, hts, hlocks⟩ := hC
  have hl : lv_has ls 2 [(0, .ref a), (1, .int (nI i))] := hl
  obtain ⟨hP, hK⟩ := hv
  have hP : va_P (dC, dI) classes ([(a, .inr (5, [.int mc, .ref e, .int (nI n)])), (e, .inl (cy 4, cap, .inr (.inr (.inr (.inr (lf ad v n))))))]) s.heap := hP
  refine lv_aload_n hx hb dJx4a65c_elementData_915e3_0 rfl (lv_at hl 0 rfl) ?_
  refine va_get (D := (dC, dI)) (ci := 5) (v := .ref e) (C := RJx4a65c) (T := TJx4a65c) (N := 3) hx hb hts in_Jx4a65c hown hK.1 hP 0 rfl rfl 1 (by decide) (hts _ q909) (fun _ h9 => h9) rfl dJx4a65c_elementData_915e3_1 ?_
  refine lv_iload_n hx hb dJx4a65c_elementData_915e3_4 rfl (lv_at hl 1 rfl) ?_
  refine va_aldq hx hb hK.1 hP 1 4 rfl rfl (vp_in_nI (by omega) (by omega)) dJx4a65c_elementData_915e3_5 ?_
  rw [show (lf ad v n) (nI i).toNatClampNeg = some (ad (v i + 128)) from by rw [nI_clamp (by omega)]; exact lf_at hi]
  refine W.eq (g2 := F0 m 6 ls [.ref (ad (v i + 128))]) rfl ?_
  exact W.aret (v := .ref (ad (v i + 128))) hx hb hr (Or.inl ⟨_, rfl⟩) (Or.inr ⟨_, rfl⟩)  (fun t ht hW => ⟨rfl, ht⟩) (fun q hq => absurd hq List.not_mem_nil) dJx4a65c_elementData_915e3_6
