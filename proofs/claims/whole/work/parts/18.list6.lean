theorem nI_of_in {i : Int32} {n : Nat} (h : vp_in i n) (hn : n < 2 ^ 31) : nI i.toNatClampNeg = i := by
  obtain ⟨k, hk, rfl⟩ := nI_of (x := i) (fun z => h (Or.inl z))
  rw [nI_clamp hk]
-- ===== worlds in parts =====
theorem va_P_mem {D : va_G} {cl : List vw_C} {ws : va_W} {H : Heap} : va_P D cl ws H ↔ ∀ q ∈ ws, va_at D cl q H := by
  constructor
  · intro h q hq
    obtain ⟨i, hi⟩ := List.getElem?_of_mem hq
    exact h i q hi
  · intro h k q hk
    exact h q (List.mem_of_getElem? hk)
theorem va_D_mem {A : Nat → Prop} {ws : va_W} : va_D A ws ↔ (ws.map Prod.fst).Nodup ∧ ∀ q ∈ ws, A q.1 := by
  constructor
  · intro h
    refine ⟨List.pairwise_iff_getElem.mpr (fun i j hi hj hij e => ?_), fun q hq => ?_⟩
    · have hi' : i < ws.length := by rw [List.length_map] at hi; exact hi
      have hj' : j < ws.length := by rw [List.length_map] at hj; exact hj
      rw [List.getElem_map, List.getElem_map] at e
      have := h.1 i j _ _ (List.getElem?_eq_getElem hi') (List.getElem?_eq_getElem hj') e
      omega
    · obtain ⟨i, hi⟩ := List.getElem?_of_mem hq
      exact h.2 i q hi
  · intro ⟨hn, ha⟩
    have hn := List.pairwise_iff_getElem.mp hn
    refine ⟨fun i j p q hi hj e => ?_, fun k q hk => ha q (List.mem_of_getElem? hk)⟩
    obtain ⟨hi1, hi2⟩ := List.getElem?_eq_some_iff.mp hi
    obtain ⟨hj1, hj2⟩ := List.getElem?_eq_some_iff.mp hj
    have hi3 : i < (ws.map Prod.fst).length := by rw [List.length_map]; exact hi1
    have hj3 : j < (ws.map Prod.fst).length := by rw [List.length_map]; exact hj1
    have e2 : (ws.map Prod.fst)[i] = (ws.map Prod.fst)[j] := by rw [List.getElem_map, List.getElem_map, hi2, hj2]; exact e
    rcases Nat.lt_trichotomy i j with h | h | h
    · exact absurd e2 (hn i j hi3 hj3 h)
    · exact h
    · exact absurd e2.symm (hn j i hj3 hi3 h)
theorem va_P.perm {D : va_G} {cl : List vw_C} {V V' : va_W} {H : Heap} (hp : V.Perm V') (h : va_P D cl V H) : va_P D cl V' H := va_P_mem.mpr (fun q hq => va_P_mem.mp h q (hp.mem_iff.mpr hq))
theorem va_D.perm {A : Nat → Prop} {V V' : va_W} (hp : V.Perm V') (h : va_D A V) : va_D A V' := va_D_mem.mpr ⟨(hp.map Prod.fst).nodup_iff.mp (va_D_mem.mp h).1, fun q hq => (va_D_mem.mp h).2 q (hp.mem_iff.mpr hq)⟩
theorem fw_get {D : va_G} {cl : List vw_C} {V x r : va_W} {H : Heap} (hp : V.Perm (x ++ r)) (h : va_P D cl V H) : va_P D cl x H := va_P_mem.mpr (fun q hq => va_P_mem.mp h q (hp.mem_iff.mpr (List.mem_append_left _ hq)))
theorem fw_getD {A : Nat → Prop} {V x r : va_W} (hp : V.Perm (x ++ r)) (h : va_D A V) : va_D A x := by
  have h2 := va_D_mem.mp (h.perm hp)
  rw [List.map_append] at h2
  exact va_D_mem.mpr ⟨(List.nodup_append.mp h2.1).1, fun q hq => h2.2 q (List.mem_append_left _ hq)⟩
theorem va_A_mem {ws : va_W} {sz q : Nat} : va_A ws sz q ↔ q ∈ ws.map Prod.fst ∨ sz ≤ q := by
  constructor
  · rintro (⟨k, e, h⟩ | h)
    · exact Or.inl (List.mem_map.mpr ⟨_, List.mem_of_getElem? h, rfl⟩)
    · exact Or.inr h
  · rintro (h | h)
    · obtain ⟨x, hx, rfl⟩ := List.mem_map.mp h
      obtain ⟨k, hk⟩ := List.getElem?_of_mem hx
      exact Or.inl ⟨k, x.2, hk⟩
    · exact Or.inr h
theorem fw_free {A0 : Nat → Prop} {V x r : va_W} {H0 H : Heap} {locs : List Loc} (hp : V.Perm (x ++ r)) (hD : va_D A0 V) (hS : va_S A0 H0 H locs) (hA : ∀ q, H0.size ≤ q → A0 q) : ∀ q, va_A x H.size q → A0 q := by
  intro q h
  rcases va_A_mem.mp h with h | h
  · obtain ⟨z, hz, rfl⟩ := List.mem_map.mp h
    exact (va_D_mem.mp (fw_getD hp hD)).2 z hz
  · exact hA q (Nat.le_trans hS.1 h)
theorem fw_join {A0 : Nat → Prop} {D : va_G} {cl : List vw_C} {V x x' r : va_W} {H H1 : Heap} (hp : V.Perm (x ++ r)) (hP : va_P D cl V H) (hD : va_D A0 V)
    (hk : ∀ q : Nat, q < H.size → ¬ va_A x H.size q → H1[q]? = H[q]?) (hF : ∀ q, va_A x H.size q → A0 q) (hP1 : va_P D cl x' H1) (hD1 : va_D (va_A x H.size) x') : va_P D cl (x' ++ r) H1 ∧ va_D A0 (x' ++ r) := by
  have hPp := va_P_mem.mp (hP.perm hp)
  have hDp := va_D_mem.mp (hD.perm hp)
  rw [List.map_append] at hDp
  obtain ⟨-, nr, nd⟩ := List.nodup_append.mp hDp.1
  have apart : ∀ q ∈ r, q.1 < H.size ∧ ¬ va_A x H.size q.1 := by
    intro q hq
    have hl := (hPp q (List.mem_append_right _ hq)).lt
    refine ⟨hl, fun h => ?_⟩
    rcases va_A_mem.mp h with h | h
    · exact nd _ h _ (List.mem_map.mpr ⟨q, hq, rfl⟩) rfl
    · omega
  refine ⟨va_P_mem.mpr (fun q hq => ?_), va_D_mem.mpr ⟨?_, fun q hq => ?_⟩⟩
  · rcases List.mem_append.mp hq with h | h
    · exact va_P_mem.mp hP1 q h
    · exact (hPp q (List.mem_append_right _ h)).kept (hk q.1 (apart q h).1 (apart q h).2)
  · rw [List.map_append]
    refine List.nodup_append.mpr ⟨(va_D_mem.mp hD1).1, nr, fun a ha b hb e => ?_⟩
    obtain ⟨z, hz, rfl⟩ := List.mem_map.mp hb
    obtain ⟨y, hy, rfl⟩ := List.mem_map.mp ha
    exact (apart z hz).2 (by rw [← e]; exact (va_D_mem.mp hD1).2 y hy)
  · rcases List.mem_append.mp hq with h | h
    · exact hF _ ((va_D_mem.mp hD1).2 q h)
    · exact hDp.2 q (List.mem_append_right _ h)
theorem fp0 (a r : va_W) : (a ++ r).Perm (a ++ r) := List.Perm.refl _
theorem fp1 (a b r : va_W) : (a ++ (b ++ r)).Perm (b ++ (a ++ r)) := by
  rw [← List.append_assoc, ← List.append_assoc]
  exact List.perm_append_comm.append_right r
theorem fp2 (a b c r : va_W) : (a ++ (b ++ (c ++ r))).Perm (c ++ (a ++ (b ++ r))) := ((fp1 b c r).append_left a).trans (fp1 a c (b ++ r))
theorem fp3 (a b c d r : va_W) : (a ++ (b ++ (c ++ (d ++ r)))).Perm (d ++ (a ++ (b ++ (c ++ r)))) := ((fp2 b c d r).append_left a).trans (fp1 a d (b ++ (c ++ r)))
/-- the walker's cell stands last -/
theorem fpE (a b c d e i : va_W) : (a ++ (b ++ (c ++ (d ++ (e ++ i))))).Perm ((a ++ (b ++ (c ++ (d ++ e)))) ++ i) := by
  simp only [List.append_assoc]
  exact List.Perm.refl _
theorem fpI (a b c d e : va_W) (i : Nat × va_E) : (a ++ (b ++ (c ++ (d ++ (e ++ [i]))))).Perm (i :: (a ++ (b ++ (c ++ (d ++ e))))) := (fpE a b c d e [i]).trans (List.perm_append_comm (l₁ := a ++ (b ++ (c ++ (d ++ e)))) (l₂ := [i]))
theorem fpI1 (a b c d e : va_W) (i : Nat × va_E) : (a ++ (b ++ (c ++ (d ++ (e ++ [i]))))).Perm ((i :: b) ++ (a ++ (c ++ (d ++ e)))) := (fpI a b c d e i).trans ((fp1 a b _).cons i)
theorem fpI3 (a b c d e : va_W) (i : Nat × va_E) : (a ++ (b ++ (c ++ (d ++ (e ++ [i]))))).Perm ((i :: d) ++ (a ++ (b ++ (c ++ e)))) := (fpI a b c d e i).trans ((fp3 a b c d e).cons i)
-- ===== the reference's whole state =====
abbrev FX : Type := SX × LST × LST × LST × (Nat → Nat → Int32)
def wS (h : Nat → Nat) (cy : Nat → ClassId) (sw : Nat → Nat → Int32) : va_W := (h 23, .inl (cy 3, 1024, .inr (.inr (.inr (.inr (fun i => if i < 1024 then some (h (100 + i)) else none)))))) :: (List.range 1024).map (fun i => (h (100 + i), .inl (cy 0, 11, .inl (sw i))))
abbrev wF (h : Nat → Nat) (cy : Nat → ClassId) (ad : Nat → Nat) (t2 : Nat) (u : FX) : va_W := wC h cy u.1 ++ (wl ad cy t2 (h 20) u.2.1 ++ (wl ad cy t2 (h 21) u.2.2.1 ++ (wl ad cy t2 (h 22) u.2.2.2.1 ++ wS h cy u.2.2.2.2)))
def dnV : Nat → Int32 := fun i => ([0, 0, 1, -1, 1, -1, 1, -1] : List Int32).getD i 0
def rtV : Nat → Int32 := fun i => ([1, -1, 0, 0, -1, 1, 1, -1] : List Int32).getD i 0
def ZD (dn rt : Nat) (A : Nat → Prop) (U : State) (H : Heap) : Prop := va_Z "PegshoreHouseModel" "DOWN" "[I" (.ref dn) A U H ∧ va_T .int dn 8 (fun i => .int (dnV i)) A U H ∧ va_Z "PegshoreHouseModel" "RIGHT" "[I" (.ref rt) A U H ∧ va_T .int rt 8 (fun i => .int (rtV i)) A U H
def ZK (aK aV _fS : Nat) (A : Nat → Prop) (U : State) (H : Heap) : Prop := vk_S 1 [3] [[115, 116, 100]] (fun _ => aK) (fun _ => aV) A U H ∧ va_Z "java/lang/String" "COMPACT_STRINGS" "Z" (.int 1) A U H ∧ va_Zq "jdk/internal/util/Preconditions" "SIOOBE_FORMATTER" "Ljava/util/function/BiFunction;" A U H
def ZF (z : Nat → Nat) (ad : Nat → Nat) (A : Nat → Prop) (U : State) (H : Heap) : Prop := ZL (z 0) (z 1) ad A U H ∧ ZD (z 2) (z 3) A U H ∧ ZK (z 4) (z 5) (z 6) A U H
theorem ZD.moved {a b : Nat} {A : Nat → Prop} {u U : State} {H : Heap} (hvm : u.vm.Alike U.vm) (h : ZD a b A u H) : ZD a b A U H := ⟨h.1.moved hvm, h.2.1.moved hvm, h.2.2.1.moved hvm, h.2.2.2.moved hvm⟩
theorem ZD.kept {a b : Nat} {A : Nat → Prop} {U : State} {H H1 : Heap} (h : ZD a b A U H) (hq : ∀ a : Nat, a < H.size → ¬ A a → H1[a]? = H[a]?) : ZD a b A U H1 := ⟨h.1.kept hq, h.2.1.kept hq, h.2.2.1.kept hq, h.2.2.2.kept hq⟩
theorem ZD.narrow {a b : Nat} {A B : Nat → Prop} {U : State} {H : Heap} (h : ZD a b A U H) (hAB : ∀ q, B q → A q) : ZD a b B U H := ⟨h.1.narrow hAB, h.2.1.narrow hAB, h.2.2.1.narrow hAB, h.2.2.2.narrow hAB⟩
theorem ZK.moved {a b c : Nat} {A : Nat → Prop} {u U : State} {H : Heap} (hvm : u.vm.Alike U.vm) (h : ZK a b c A u H) : ZK a b c A U H := ⟨h.1.moved hvm, h.2.1.moved hvm, h.2.2.moved hvm⟩
theorem ZK.kept {a b c : Nat} {A : Nat → Prop} {U : State} {H H1 : Heap} (h : ZK a b c A U H) (hq : ∀ a : Nat, a < H.size → ¬ A a → H1[a]? = H[a]?) : ZK a b c A U H1 := ⟨h.1.kept hq, h.2.1.kept hq, h.2.2.kept hq⟩
theorem ZK.narrow {a b c : Nat} {A B : Nat → Prop} {U : State} {H : Heap} (h : ZK a b c A U H) (hAB : ∀ q, B q → A q) : ZK a b c B U H := ⟨h.1.narrow hAB, h.2.1.narrow hAB, h.2.2.narrow hAB⟩
theorem ZF.moved {z ad : Nat → Nat} {A : Nat → Prop} {u U : State} {H : Heap} (hvm : u.vm.Alike U.vm) (h : ZF z ad A u H) : ZF z ad A U H := ⟨h.1.moved hvm, h.2.1.moved hvm, h.2.2.moved hvm⟩
theorem ZF.kept {z ad : Nat → Nat} {A : Nat → Prop} {U : State} {H H1 : Heap} (h : ZF z ad A U H) (hq : ∀ a : Nat, a < H.size → ¬ A a → H1[a]? = H[a]?) : ZF z ad A U H1 := ⟨h.1.kept hq, h.2.1.kept hq, h.2.2.kept hq⟩
theorem ZF.narrow {z ad : Nat → Nat} {A B : Nat → Prop} {U : State} {H : Heap} (h : ZF z ad A U H) (hAB : ∀ q, B q → A q) : ZF z ad B U H := ⟨h.1.narrow hAB, h.2.1.narrow hAB, h.2.2.narrow hAB⟩
/-- what a method of the reference begins with -/
def PcF (dC : Nat → ClassId) (dI : Nat → Nat → Nat) (cy : Nat → ClassId) (z ad : Nat → Nat) (wc : va_W) (sz : Nat) (U : State) : Prop := U.heap.size = sz ∧ va_P (dC, dI) classes wc U.heap ∧ kwX dC dI cy U ∧ va_D (fun _ => True) wc ∧ ZF z ad (va_A wc sz) U U.heap ∧ vk_R "PegshoreHouseModel" 92 "std" (z 4) U
theorem wl_head (ad : Nat → Nat) (cy : Nat → ClassId) (t2 b : Nat) (u : LST) : ∃ fs, (wl ad cy t2 b u)[0]? = some (b, .inr (5, fs)) := by
  obtain ⟨al, e, cap, mc, v, n⟩ := u
  cases al
  · exact ⟨_, rfl⟩
  · exact ⟨_, rfl⟩
section LOPS
variable {p : Program} {l : Launch} {e : Env} {R : Room} {s : State} {m : MethodId} {args : Array Value} {below : List Frame} {meth : Method} {c : Code} {H : Heap} {locs : List Loc} {cells slots : Nat} {Q : State → Prop}
  {cc : ByteArray} {nL index pc count : Nat} {own : String} {rt : Option FieldType} {ls : Array Slot} {rest : List Value} {b t2 tc : Nat} {dC : Nat → ClassId} {dI : Nat → Nat → Nat} {cy : Nat → ClassId} {ad : Nat → Nat} {A : Nat → Prop} {u : LST} {V r : va_W}
theorem lsSize (hp : V.Perm (wl ad cy t2 b u ++ r)) (hC : Cx p s m args meth c own cc nL rt) (hK : kwX dC dI cy s) (hP : va_P (dC, dI) classes V H) (hu : okL u) (hlink : Cond.methodLink own index ⟨"java/util/List", "size", "()I"⟩ ∈ lw_all)
    (hR : 1 ≤ R.frames ∧ 8 + (1 + 11) ≤ R.locals) (hl : ls.size = nL) (hr : (rest.map fun v => v.category).sum ≤ 8) (hdg : decode cc pc = .ok (.invokeinterface index count, 5)) (hf : cells ≤ R.cells ∧ slots ≤ R.slots)
    (kk : W p l e R s m args below meth c H locs cells slots Q (F0 m (pc + 5) ls (.int (nI u.2.2.2.2.2) :: rest))) : W p l e R s m args below meth c H locs cells slots Q (F0 m pc ls (.ref b :: rest)) := by
  obtain ⟨fs, he⟩ := wl_head ad cy t2 b u
  exact va_csFi (va_runF (b := b) (As := []) (rest := rest) (hK.1.1 5 _ rfl).2 ⟨hC.1, hC.2.1, hC.2.2.2.1, hC.2.2.2.2.1, hC.2.2.2.2.2.1⟩ (m_Jx4a65c_size_8abf5 l dC dI cy ad t2 b u hu (fun r => r = nI u.2.2.2.2.2) rfl) (va_cwF 0 hC.2.2.2.2.2.1 (goodF k_Jx4a65c_size_8abf5 hlink) rfl rfl rfl hK.2.2.2.2.2.2.2.2.2.2.2.2.2.2.1 k_Jx4a65c_size_8abf5.2.2.2.2 hR) (preP 0 hK (fw_get hp hP) he rfl) rfl rfl hl rfl (lv_room hr) hdg hf) (fun r hr9 => by rw [hr9]; exact kk)
theorem lsEmpty (hp : V.Perm (wl ad cy t2 b u ++ r)) (hC : Cx p s m args meth c own cc nL rt) (hK : kwX dC dI cy s) (hP : va_P (dC, dI) classes V H) (hu : okL u) (hlink : Cond.methodLink own index ⟨"java/util/List", "isEmpty", "()Z"⟩ ∈ lw_all)
    (hR : 1 ≤ R.frames ∧ 8 + (1 + 11) ≤ R.locals) (hl : ls.size = nL) (hr : (rest.map fun v => v.category).sum ≤ 8) (hdg : decode cc pc = .ok (.invokeinterface index count, 5)) (hf : cells ≤ R.cells ∧ slots ≤ R.slots)
    (k1 : u.2.2.2.2.2 = 0 → W p l e R s m args below meth c H locs cells slots Q (F0 m (pc + 5) ls (.int 1 :: rest))) (k0 : u.2.2.2.2.2 ≠ 0 → W p l e R s m args below meth c H locs cells slots Q (F0 m (pc + 5) ls (.int 0 :: rest))) : W p l e R s m args below meth c H locs cells slots Q (F0 m pc ls (.ref b :: rest)) := by
  obtain ⟨fs, he⟩ := wl_head ad cy t2 b u
  exact va_csFi (va_runF (b := b) (As := []) (rest := rest) (hK.1.1 5 _ rfl).2 ⟨hC.1, hC.2.1, hC.2.2.2.1, hC.2.2.2.2.1, hC.2.2.2.2.2.1⟩ (m_Jx4a65c_isEmpty_aae02 l dC dI cy ad t2 b u hu (fun r => (r = 1 ∧ u.2.2.2.2.2 = 0) ∨ (r = 0 ∧ u.2.2.2.2.2 ≠ 0)) (fun h => Or.inl ⟨rfl, h⟩) (fun h => Or.inr ⟨rfl, h⟩)) (va_cwF 0 hC.2.2.2.2.2.1 (goodF k_Jx4a65c_isEmpty_aae02 hlink) rfl rfl rfl hK.2.2.2.2.2.2.2.2.2.2.2.2.2.1 k_Jx4a65c_isEmpty_aae02.2.2.2.2 hR) (preP 0 hK (fw_get hp hP) he rfl) rfl rfl hl rfl (lv_room hr) hdg hf) (fun r hr9 => by
    rcases hr9 with ⟨h1, h2⟩ | ⟨h1, h2⟩
    · rw [h1]; exact k1 h2
    · rw [h1]; exact k0 h2)
theorem lsGet {i : Int32} (hp : V.Perm (wl ad cy t2 b u ++ r)) (hC : Cx p s m args meth c own cc nL rt) (hK : kwX dC dI cy s) (hP : va_P (dC, dI) classes V H) (hu : okL u) (hi : vp_in i u.2.2.2.2.2) (hlink : Cond.methodLink own index ⟨"java/util/List", "get", "(I)Ljava/lang/Object;"⟩ ∈ lw_all)
    (hR : 3 ≤ R.frames ∧ 8 + (2 + 11) + 43 ≤ R.locals) (hl : ls.size = nL) (hr : (rest.map fun v => v.category).sum ≤ 8) (hdg : decode cc pc = .ok (.invokeinterface index count, 5)) (hf : cells ≤ R.cells ∧ slots ≤ R.slots)
    (kk : W p l e R s m args below meth c H locs cells slots Q (F0 m (pc + 5) ls (.ref (ad (u.2.2.2.2.1 i.toNatClampNeg + 128)) :: rest))) : W p l e R s m args below meth c H locs cells slots Q (F0 m pc ls (.int i :: .ref b :: rest)) := by
  obtain ⟨al, e9, cap, mc, v, n⟩ := u
  have hn : n ≤ 12 := hu.1
  have hlt : i.toNatClampNeg < n := Nat.not_le.mp fun q => hi (Or.inr q)
  cases al
  · exact absurd (show n = 0 from hu.2.2.2 rfl) (by omega)
  · have hcap : n ≤ cap ∧ (cap = 10 ∨ cap = 15) := hu.2.2.1 rfl
    obtain ⟨k, hk, rfl⟩ : ∃ k, k < n ∧ i = nI k := ⟨i.toNatClampNeg, hlt, (nI_of_in (n := n) hi (by omega)).symm⟩
    rw [show (nI k).toNatClampNeg = k from nI_clamp (by omega)] at kk
    exact csFQ (As := [.ref b, .int (nI k)]) (va_runF (b := b) (As := [.int (nI k)]) (rest := rest) (hK.1.1 5 _ rfl).2 ⟨hC.1, hC.2.1, hC.2.2.2.1, hC.2.2.2.2.1, hC.2.2.2.2.2.1⟩ (m_Jx4a65c_get_915e3 l dC dI cy ad t2 b e9 cap mc v n k hk hcap.1 (by omega)) (va_cwF 1 hC.2.2.2.2.2.1 (goodF k_Jx4a65c_get_915e3 hlink) rfl rfl rfl hK.2.2.2.2.2.2.2.2.2.2.2.2.2.2.2.2.1 k_Jx4a65c_get_915e3.2.2.2.2 hR) (preP 0 hK (fw_get hp hP) rfl rfl) rfl rfl hl rfl (lv_room hr) hdg hf) kk
theorem preFL (hK : kwX dC dI cy s) {x : va_W} {fs As : List Value} (hP : va_P (dC, dI) classes x H) (hD : va_D A x) (he : x[0]? = some (b, .inr (5, fs))) (hZ : ZL t2 tc ad A s s.heap) (hS : va_S A s.heap H locs) (hF : ∀ q, va_A x H.size q → A q) :
    PreV s H RJx4a65c b (va_Pc (.ref b :: As) (PcL dC dI cy t2 tc ad x H.size)) As := preL 0 hK hP hD he rfl hZ hS hF
theorem lsAdd {k : Nat} (hp : V.Perm (wl ad cy t2 b u ++ r)) (hC : Cx p s m args meth c own cc nL rt) (hK : kwX dC dI cy s) (hP : va_P (dC, dI) classes V H) (hD : va_D A V) (hZ : ZL t2 tc ad A s s.heap) (hS : va_S A s.heap H locs) (hA : ∀ q, s.heap.size ≤ q → A q) (hu : okL u) (hn : u.2.2.2.2.2 < 12) (hk : k < 128)
    (hlink : Cond.methodLink own index ⟨"java/util/List", "add", "(Ljava/lang/Object;)Z"⟩ ∈ lw_all)
    (hR : 7 ≤ R.frames ∧ 8 + (2 + 11) + 205 ≤ R.locals) (hl : ls.size = nL) (hr : (rest.map fun v => v.category).sum ≤ 8) (hdg : decode cc pc = .ok (.invokeinterface index count, 5)) (hf : cells + 1 ≤ R.cells ∧ slots + 15 ≤ R.slots)
    (kk : ∀ w : LST, okL w → w.2.2.2.2.2 = u.2.2.2.2.2 + 1 → w.2.2.2.2.1 = upN u.2.2.2.2.1 u.2.2.2.2.2 k → ∀ (H1 : Heap) (locs1 : List Loc), va_P (dC, dI) classes (wl ad cy t2 b w ++ r) H1 → va_D A (wl ad cy t2 b w ++ r) → va_S A s.heap H1 locs1 → W p l e R s m args below meth c H1 locs1 (cells + 1) (slots + 15) Q (F0 m (pc + 5) ls (.int 1 :: rest))) : W p l e R s m args below meth c H locs cells slots Q (F0 m pc ls (.ref (ad (k + 128)) :: .ref b :: rest)) := by
  obtain ⟨fs, he⟩ := wl_head ad cy t2 b u
  have hF := fw_free hp hD hS hA
  exact va_callFi (va_runF (b := b) (As := [.ref (ad (k + 128))]) (rest := rest) (hK.1.1 5 _ rfl).2 ⟨hC.1, hC.2.1, hC.2.2.2.1, hC.2.2.2.2.1, hC.2.2.2.2.2.1⟩ (m_Jx4a65c_add_9ea2d l dC dI cy ad t2 tc b H.size u hu hn k hk (fun w => okL w ∧ w.2.2.2.2.2 = u.2.2.2.2.2 + 1 ∧ w.2.2.2.2.1 = upN u.2.2.2.2.1 u.2.2.2.2.2 k) (fun w h1 h2 h3 => ⟨h1, h2, h3⟩)) (va_cwF 1 hC.2.2.2.2.2.1 (goodF k_Jx4a65c_add_9ea2d hlink) rfl rfl rfl hK.2.2.2.2.2.2.2.2.2.2.2.2.1 k_Jx4a65c_add_9ea2d.2.2.2.2 hR) (preFL hK (fw_get hp hP) (fw_getD hp hD) he hZ hS hF) rfl rfl hl rfl (lv_room hr) hdg hf) hS (fun q _ h => hF q h) hF (fun r9 w t H1 locs1 ht hvm hw hB hz1 hk1 hS1 => by
    obtain ⟨hP1, hD1⟩ := hB
    rw [ht] at hP1
    obtain ⟨g1, g2⟩ := fw_join hp hP hD hk1 hF hP1 hD1
    rw [hw.1]
    exact kk w hw.2.1 hw.2.2.1 hw.2.2.2 H1 locs1 g1 g2 hS1)
theorem lsClear (hp : V.Perm (wl ad cy t2 b u ++ r)) (hC : Cx p s m args meth c own cc nL rt) (hK : kwX dC dI cy s) (hP : va_P (dC, dI) classes V H) (hD : va_D A V) (hZ : ZL t2 tc ad A s s.heap) (hS : va_S A s.heap H locs) (hA : ∀ q, s.heap.size ≤ q → A q) (hu : okL u)
    (hlink : Cond.methodLink own index ⟨"java/util/List", "clear", "()V"⟩ ∈ lw_all)
    (hR : 1 ≤ R.frames ∧ 8 + (4 + 11) ≤ R.locals) (hl : ls.size = nL) (hr : (rest.map fun v => v.category).sum ≤ 8) (hdg : decode cc pc = .ok (.invokeinterface index count, 5)) (hf : cells ≤ R.cells ∧ slots ≤ R.slots)
    (kk : ∀ w : LST, okL w → w.2.2.2.2.2 = 0 → ∀ (H1 : Heap) (locs1 : List Loc), va_P (dC, dI) classes (wl ad cy t2 b w ++ r) H1 → va_D A (wl ad cy t2 b w ++ r) → va_S A s.heap H1 locs1 → W p l e R s m args below meth c H1 locs1 cells slots Q (F0 m (pc + 5) ls rest)) : W p l e R s m args below meth c H locs cells slots Q (F0 m pc ls (.ref b :: rest)) := by
  obtain ⟨fs, he⟩ := wl_head ad cy t2 b u
  have hF := fw_free hp hD hS hA
  exact va_callFv (va_runF (b := b) (As := []) (rest := rest) (hK.1.1 5 _ rfl).2 ⟨hC.1, hC.2.1, hC.2.2.2.1, hC.2.2.2.2.1, hC.2.2.2.2.2.1⟩ (m_Jx4a65c_clear_da8c8 l dC dI cy ad t2 tc b H.size u hu (fun w => okL w ∧ w.2.2.2.2.2 = 0) (fun w h1 h2 => ⟨h1, h2⟩)) (va_cwF 0 hC.2.2.2.2.2.1 (goodF k_Jx4a65c_clear_da8c8 hlink) rfl rfl rfl hK.2.2.2.2.2.2.2.2.2.2.2.1 k_Jx4a65c_clear_da8c8.2.2.2.2 hR) (preFL hK (fw_get hp hP) (fw_getD hp hD) he hZ hS hF) rfl rfl hl rfl (lv_room hr) hdg hf) hS (fun q _ h => hF q h) hF (fun w t H1 locs1 ht hvm hw hB hz1 hk1 hS1 => by
    obtain ⟨hP1, hD1⟩ := hB
    rw [ht] at hP1
    obtain ⟨g1, g2⟩ := fw_join hp hP hD hk1 hF hP1 hD1
    exact kk w hw.1 hw.2 H1 locs1 g1 g2 hS1)
theorem lsRemove {i : Int32} (hp : V.Perm (wl ad cy t2 b u ++ r)) (hC : Cx p s m args meth c own cc nL rt) (hK : kwX dC dI cy s) (hP : va_P (dC, dI) classes V H) (hD : va_D A V) (hZ : ZL t2 tc ad A s s.heap) (hS : va_S A s.heap H locs) (hA : ∀ q, s.heap.size ≤ q → A q) (hu : okL u) (hi : 0 < u.2.2.2.2.2 ∧ i = nI (u.2.2.2.2.2 - 1))
    (hlink : Cond.methodLink own index ⟨"java/util/List", "remove", "(I)Ljava/lang/Object;"⟩ ∈ lw_all)
    (hR : 3 ≤ R.frames ∧ 8 + (4 + 11) + 45 ≤ R.locals) (hl : ls.size = nL) (hr : (rest.map fun v => v.category).sum ≤ 8) (hdg : decode cc pc = .ok (.invokeinterface index count, 5)) (hf : cells ≤ R.cells ∧ slots ≤ R.slots)
    (kk : ∀ w : LST, okL w → w.2.2.2.2.2 + 1 = u.2.2.2.2.2 → w.2.2.2.2.1 = u.2.2.2.2.1 → ∀ (H1 : Heap) (locs1 : List Loc), va_P (dC, dI) classes (wl ad cy t2 b w ++ r) H1 → va_D A (wl ad cy t2 b w ++ r) → va_S A s.heap H1 locs1 → W p l e R s m args below meth c H1 locs1 cells slots Q (F0 m (pc + 5) ls (.ref (ad (u.2.2.2.2.1 (u.2.2.2.2.2 - 1) + 128)) :: rest))) : W p l e R s m args below meth c H locs cells slots Q (F0 m pc ls (.int i :: .ref b :: rest)) := by
  obtain ⟨al, e9, cap, mc, v, n⟩ := u
  have hn : n ≤ 12 := hu.1
  obtain ⟨h0, h1⟩ := hi
  have h0 : 0 < n := h0
  have h1 : i = nI (n - 1) := h1
  subst h1
  cases al
  · exact absurd (show n = 0 from hu.2.2.2 rfl) (by omega)
  · have hcap : n ≤ cap ∧ (cap = 10 ∨ cap = 15) := hu.2.2.1 rfl
    have hv : ∀ i, i < n → v i < 128 := hu.2.1
    obtain ⟨n, rfl⟩ : ∃ k, n = k + 1 := ⟨n - 1, by omega⟩
    have hF := fw_free hp hD hS hA
    exact va_callFr (va_runF (b := b) (As := [.int (nI n)]) (rest := rest) (hK.1.1 5 _ rfl).2 ⟨hC.1, hC.2.1, hC.2.2.2.1, hC.2.2.2.2.1, hC.2.2.2.2.2.1⟩ (m_Jx4a65c_remove_915e3 l dC dI cy ad t2 tc b H.size e9 cap mc v n hcap.1 (by omega)) (va_cwF 1 hC.2.2.2.2.2.1 (goodF k_Jx4a65c_remove_915e3 hlink) rfl rfl rfl hK.2.2.2.2.2.2.2.2.2.2.2.2.2.2.2.1 k_Jx4a65c_remove_915e3.2.2.2.2 hR) (preFL hK (fw_get hp hP) (fw_getD hp hD) rfl hZ hS hF) rfl rfl hl rfl (lv_room hr) hdg hf) hS (fun q _ h => hF q h) hF (fun _ ra t H1 locs1 ht hvm hw hB hz1 hk1 hS1 => by
      obtain ⟨hra, hP1, hD1⟩ := hB
      rw [ht] at hP1
      obtain ⟨g1, g2⟩ := fw_join hp hP hD hk1 hF hP1 hD1
      rw [hra]
      exact kk (true, e9, cap, mc + 1, v, n) ⟨by show n ≤ 12; omega, fun i hi => hv i (Nat.lt_succ_of_lt hi), fun _ => ⟨by show n ≤ cap; omega, hcap.2⟩, fun h => by cases h⟩ rfl rfl H1 locs1 g1 g2 hS1)
theorem lsIter (hp : V.Perm (wl ad cy t2 b u ++ r)) (hC : Cx p s m args meth c own cc nL rt) (hK : kwX dC dI cy s) (hP : va_P (dC, dI) classes V H) (hD : va_D A V) (hZ : ZL t2 tc ad A s s.heap) (hS : va_S A s.heap H locs) (hA : ∀ q, s.heap.size ≤ q → A q) (hu : okL u)
    (hlink : Cond.methodLink own index ⟨"java/util/List", "iterator", "()Ljava/util/Iterator;"⟩ ∈ lw_all)
    (hR : 3 ≤ R.frames ∧ 8 + (1 + 11) + 60 ≤ R.locals) (hl : ls.size = nL) (hr : (rest.map fun v => v.category).sum ≤ 8) (hdg : decode cc pc = .ok (.invokeinterface index count, 5)) (hf : cells + 1 ≤ R.cells ∧ slots + 4 ≤ R.slots)
    (kk : ∀ (it : Nat) (H1 : Heap) (locs1 : List Loc), va_P (dC, dI) classes ((wI it b 0 (-1) u.2.2.2.1 :: wl ad cy t2 b u) ++ r) H1 → va_D A ((wI it b 0 (-1) u.2.2.2.1 :: wl ad cy t2 b u) ++ r) → va_S A s.heap H1 locs1 → W p l e R s m args below meth c H1 locs1 (cells + 1) (slots + 4) Q (F0 m (pc + 5) ls (.ref it :: rest))) : W p l e R s m args below meth c H locs cells slots Q (F0 m pc ls (.ref b :: rest)) := by
  obtain ⟨fs, he⟩ := wl_head ad cy t2 b u
  have hF := fw_free hp hD hS hA
  exact va_callFr (va_runF (b := b) (As := []) (rest := rest) (hK.1.1 5 _ rfl).2 ⟨hC.1, hC.2.1, hC.2.2.2.1, hC.2.2.2.2.1, hC.2.2.2.2.2.1⟩ (m_Jx4a65c_iterator_32c93 l dC dI cy ad t2 tc b H.size u hu) (va_cwF 0 hC.2.2.2.2.2.1 (goodF k_Jx4a65c_iterator_32c93 hlink) rfl rfl rfl hK.2.2.2.2.2.2.2.2.2.2.2.2.2.2.2.2.2.1 k_Jx4a65c_iterator_32c93.2.2.2.2 hR) (preFL hK (fw_get hp hP) (fw_getD hp hD) he hZ hS hF) rfl rfl hl rfl (lv_room hr) hdg hf) hS (fun q _ h => hF q h) hF (fun _ ra t H1 locs1 ht hvm hw hB hz1 hk1 hS1 => by
    obtain ⟨hP1, hD1⟩ := hB
    rw [ht] at hP1
    obtain ⟨g1, g2⟩ := fw_join hp hP hD hk1 hF hP1 hD1
    exact kk ra H1 locs1 g1 g2 hS1)
theorem lsHas {it i : Nat} {lr mc9 : Int32} (hp : V.Perm ((wI it b i lr mc9 :: wl ad cy t2 b u) ++ r)) (hC : Cx p s m args meth c own cc nL rt) (hK : kwX dC dI cy s) (hP : va_P (dC, dI) classes V H) (hu : okL u) (hi : i ≤ u.2.2.2.2.2) (hlink : Cond.methodLink own index ⟨"java/util/Iterator", "hasNext", "()Z"⟩ ∈ lw_all)
    (hR : 1 ≤ R.frames ∧ 8 + (1 + 11) ≤ R.locals) (hl : ls.size = nL) (hr : (rest.map fun v => v.category).sum ≤ 8) (hdg : decode cc pc = .ok (.invokeinterface index count, 5)) (hf : cells ≤ R.cells ∧ slots ≤ R.slots)
    (k1 : i < u.2.2.2.2.2 → W p l e R s m args below meth c H locs cells slots Q (F0 m (pc + 5) ls (.int 1 :: rest))) (k0 : i = u.2.2.2.2.2 → W p l e R s m args below meth c H locs cells slots Q (F0 m (pc + 5) ls (.int 0 :: rest))) : W p l e R s m args below meth c H locs cells slots Q (F0 m pc ls (.ref it :: rest)) :=
  va_csFi (va_runF (b := it) (As := []) (rest := rest) (hK.1.1 6 _ rfl).2 ⟨hC.1, hC.2.1, hC.2.2.2.1, hC.2.2.2.2.1, hC.2.2.2.2.2.1⟩ (m_Jx35411_hasNext_aae02 l dC dI cy ad t2 b it i lr mc9 u hu hi (fun r => (r = 1 ∧ i < u.2.2.2.2.2) ∨ (r = 0 ∧ i = u.2.2.2.2.2)) (fun h => Or.inl ⟨rfl, h⟩) (fun h => Or.inr ⟨rfl, h⟩)) (va_cwF 0 hC.2.2.2.2.2.1 (goodF k_Jx35411_hasNext_aae02 hlink) rfl rfl rfl hK.2.2.2.2.2.2.2.2.2.2.2.2.2.2.2.2.2.2.1 k_Jx35411_hasNext_aae02.2.2.2.2 hR) (preP 0 hK (fw_get hp hP) rfl rfl) rfl rfl hl rfl (lv_room hr) hdg hf) (fun r hr9 => by
    rcases hr9 with ⟨h1, h2⟩ | ⟨h1, h2⟩
    · rw [h1]; exact k1 h2
    · rw [h1]; exact k0 h2)
theorem lsNext {it i : Nat} {lr mc9 : Int32} (hp : V.Perm ((wI it b i lr mc9 :: wl ad cy t2 b u) ++ r)) (hC : Cx p s m args meth c own cc nL rt) (hK : kwX dC dI cy s) (hP : va_P (dC, dI) classes V H) (hD : va_D A V) (hZ : ZL t2 tc ad A s s.heap) (hS : va_S A s.heap H locs) (hA : ∀ q, s.heap.size ≤ q → A q) (hu : okL u) (hi : i < u.2.2.2.2.2) (hmc : mc9 = u.2.2.2.1)
    (hlink : Cond.methodLink own index ⟨"java/util/Iterator", "next", "()Ljava/lang/Object;"⟩ ∈ lw_all)
    (hR : 2 ≤ R.frames ∧ 8 + (3 + 11) + 25 ≤ R.locals) (hl : ls.size = nL) (hr : (rest.map fun v => v.category).sum ≤ 8) (hdg : decode cc pc = .ok (.invokeinterface index count, 5)) (hf : cells ≤ R.cells ∧ slots ≤ R.slots)
    (kk : ∀ (H1 : Heap) (locs1 : List Loc), va_P (dC, dI) classes ((wI it b (i + 1) (nI i) mc9 :: wl ad cy t2 b u) ++ r) H1 → va_D A ((wI it b (i + 1) (nI i) mc9 :: wl ad cy t2 b u) ++ r) → va_S A s.heap H1 locs1 → W p l e R s m args below meth c H1 locs1 cells slots Q (F0 m (pc + 5) ls (.ref (ad (u.2.2.2.2.1 i + 128)) :: rest))) : W p l e R s m args below meth c H locs cells slots Q (F0 m pc ls (.ref it :: rest)) := by
  subst hmc
  obtain ⟨al, e9, cap, mc, v, n⟩ := u
  have hn : n ≤ 12 := hu.1
  have hi : i < n := hi
  cases al
  · exact absurd (show n = 0 from hu.2.2.2 rfl) (by omega)
  · have hcap : n ≤ cap ∧ (cap = 10 ∨ cap = 15) := hu.2.2.1 rfl
    have hF := fw_free hp hD hS hA
    exact va_callFr (va_runF (b := it) (As := []) (rest := rest) (hK.1.1 6 _ rfl).2 ⟨hC.1, hC.2.1, hC.2.2.2.1, hC.2.2.2.2.1, hC.2.2.2.2.2.1⟩ (m_Jx35411_next_0502b l dC dI cy ad t2 tc b H.size it i lr e9 cap mc v n hi hcap.1 (by omega)) (va_cwF 0 hC.2.2.2.2.2.1 (goodF k_Jx35411_next_0502b hlink) rfl rfl rfl hK.2.2.2.2.2.2.2.2.2.2.2.2.2.2.2.2.2.2.2.1 k_Jx35411_next_0502b.2.2.2.2 hR) (preL 0 hK (fw_get hp hP) (fw_getD hp hD) rfl rfl hZ hS hF) rfl rfl hl rfl (lv_room hr) hdg hf) hS (fun q _ h => hF q h) hF (fun _ ra t H1 locs1 ht hvm hw hB hz1 hk1 hS1 => by
      obtain ⟨hra, hP1, hD1⟩ := hB
      rw [ht] at hP1
      obtain ⟨g1, g2⟩ := fw_join hp hP hD hk1 hF hP1 hD1
      rw [hra]
      exact kk H1 locs1 g1 g2 hS1)
end LOPS
