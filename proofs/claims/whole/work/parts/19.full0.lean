theorem vp_in_lt {i : Int32} {n : Nat} (h : vp_in i n) : i.toNatClampNeg < n := Nat.not_le.mp fun q => h (Or.inr q)
theorem fp4 (a b c d e : va_W) : (a ++ (b ++ (c ++ (d ++ e)))).Perm (e ++ (a ++ (b ++ (c ++ d)))) :=
  (List.Perm.of_eq (by simp only [List.append_assoc] : a ++ (b ++ (c ++ (d ++ e))) = (a ++ (b ++ (c ++ d))) ++ e)).trans List.perm_append_comm
theorem fpN (a : va_W) : a.Perm (a ++ []) := List.Perm.of_eq (List.append_nil a).symm
def upS (sw : Nat → Nat → Int32) (k j : Nat) (x : Int32) : Nat → Nat → Int32 := fun a => if a = k then upd (sw k) j x else sw a
theorem wS_at (h : Nat → Nat) (cy : Nat → ClassId) (sw : Nat → Nat → Int32) {k : Nat} (hk : k < 1024) : (wS h cy sw)[k + 1]? = some (h (100 + k), .inl (cy 0, 11, .inl (sw k))) := by
  unfold wS
  rw [List.getElem?_cons_succ, List.getElem?_map, List.getElem?_range hk]
  rfl
theorem rows_set (N : Nat) (h : Nat → Nat) (cy : Nat → ClassId) (sw : Nat → Nat → Int32) {k : Nat} (hk : k < N) (j : Nat) (x : Int32) :
    ((List.range N).map (fun i => ((h (100 + i), .inl (cy 0, 11, .inl (sw i))) : Nat × va_E))).set k (h (100 + k), .inl (cy 0, 11, .inl (upd (sw k) j x))) = (List.range N).map (fun i => ((h (100 + i), .inl (cy 0, 11, .inl (upS sw k j x i))) : Nat × va_E)) := by
  apply List.ext_getElem?
  intro n
  rw [List.getElem?_set, List.getElem?_map, List.getElem?_map, List.length_map, List.length_range]
  by_cases hn : n < N
  · rw [List.getElem?_range hn]
    by_cases e : k = n
    · subst e
      rw [if_pos rfl, if_pos hk]
      simp [upS]
    · rw [if_neg e]
      simp [upS, Ne.symm e]
  · have e : ¬ k = n := by omega
    rw [if_neg e, List.getElem?_eq_none (by rw [List.length_range]; omega)]
    rfl
theorem wS_len (h : Nat → Nat) (cy : Nat → ClassId) (sw : Nat → Nat → Int32) : (wS h cy sw).length = 1025 := by unfold wS; rw [List.length_cons, List.length_map, List.length_range]
theorem wS_set (h : Nat → Nat) (cy : Nat → ClassId) (sw : Nat → Nat → Int32) (r : va_W) {k : Nat} (hk : k < 1024) (j : Nat) (x : Int32) :
    (wS h cy sw ++ r).set (k + 1) (h (100 + k), .inl (cy 0, 11, .inl (upd (sw k) j x))) = wS h cy (upS sw k j x) ++ r := by
  rw [List.set_append_left _ _ (by rw [wS_len]; omega)]
  unfold wS
  rw [List.set_cons_succ, rows_set 1024 h cy sw hk j x]
def isE (n : Nat) : Int32 := if n = 0 then 1 else 0
def isH (i n : Nat) : Int32 := if i < n then 1 else 0
section FOPS
variable {p : Program} {l : Launch} {e : Env} {R : Room} {s : State} {m : MethodId} {args : Array Value} {below : List Frame} {meth : Method} {c : Code} {H : Heap} {locs : List Loc} {cells slots : Nat} {Q : State → Prop}
  {cc bytes : ByteArray} {nL maxL index n pc mc ms : Nat} {own : String} {y : MethodName} {ret rt : Option FieldType} {rm : Room} {ls : Array Slot} {As rest st0 : List Value} {b : Nat} {fs : List Value} {dC : Nat → ClassId} {dI : Nat → Nat → Nat} {cy h : Nat → ClassId} {z ad : Nat → Nat} {A : Nat → Prop} {V r x : va_W} {sw : Nat → Nat → Int32}
theorem va_alda {D : va_G} {cl : List vw_C} {tys : List (ClassId × FieldType)} {a : Nat} {ws : va_W} (hexec : p.tables.exec = Jvm.exec) (hb : c.code = cc) (hK : va_K D cl tys s) (hP : va_P D cl ws H) (q0 t0 : Nat) {cA : ClassId} {C : FieldType} {n : Nat} {f : Nat → Option Nat} (ha : ws[q0]? = some (a, .inl (cA, n, .inr (.inr (.inr (.inr f)))))) (ht : tys[t0]? = some (cA, .array C)) {i : Int32} (hin : vp_in i n) (hdg : decode cc pc = .ok (.aaload, 1))
    (kk : W p l e R s m args below meth c H locs cells slots Q (F0 m (pc + 1) ls (va_rf (f i.toNatClampNeg) :: rest))) : W p l e R s m args below meth c H locs cells slots Q (F0 m pc ls (.int i :: .ref a :: rest)) := by
  have hlt : i.toNatClampNeg < n := vp_in_lt hin
  exact W.aald (v := va_rf (f i.toNatClampNeg)) (ty := .array C) hexec hb (hP q0 _ ha) ((hK.2 t0 _ ht).1 n (fun j => va_rf (f j))) rfl (fun q => by cases q) (by show ¬ (i < 0 ∨ (arrV _ _ _).slots.size ≤ _); rw [arrV_size]; exact hin) (by show (arrV _ _ _).slots[_]? = _; rw [arrV_read _ _ hlt]) rfl rfl hdg kk
theorem swRow {i : Int32} (hp : V.Perm (wS h cy sw ++ r)) (hC : Cx p s m args meth c own cc nL rt) (hK : kwX dC dI cy s) (hP : va_P (dC, dI) classes V H) (hI : vp_in i 1024) (hdg : decode cc pc = .ok (.aaload, 1))
    (kk : W p l e R s m args below meth c H locs cells slots Q (F0 m (pc + 1) ls (.ref (h (100 + i.toNatClampNeg)) :: rest))) : W p l e R s m args below meth c H locs cells slots Q (F0 m pc ls (.int i :: .ref (h 23) :: rest)) := by
  have hlt := vp_in_lt hI
  refine va_alda hC.1 hC.2.1 hK.1 (fw_get hp hP) 0 3 (f := fun i => if i < 1024 then some (h (100 + i)) else none) (by unfold wS; exact List.getElem?_cons_zero) rfl hI hdg ?_
  rw [show (if i.toNatClampNeg < 1024 then some (h (100 + i.toNatClampNeg)) else none) = some (h (100 + i.toNatClampNeg)) from if_pos hlt]
  exact kk
theorem swLoad {i j : Int32} (hp : V.Perm (wS h cy sw ++ r)) (hC : Cx p s m args meth c own cc nL rt) (hK : kwX dC dI cy s) (hP : va_P (dC, dI) classes V H) (hI : vp_in i 1024) (hJ : vp_in j 11) (hdg : decode cc pc = .ok (.iaload, 1))
    (kk : W p l e R s m args below meth c H locs cells slots Q (F0 m (pc + 1) ls (.int (sw i.toNatClampNeg j.toNatClampNeg) :: rest))) : W p l e R s m args below meth c H locs cells slots Q (F0 m pc ls (.int j :: .ref (h (100 + i.toNatClampNeg)) :: rest)) :=
  va_iald hC.1 hC.2.1 hK.1 (fw_get hp hP) (i.toNatClampNeg + 1) 0 (wS_at h cy sw (vp_in_lt hI)) rfl hJ hdg kk
theorem swStore {i j v : Int32} (hp : V.Perm (wS h cy sw ++ r)) (hC : Cx p s m args meth c own cc nL rt) (hK : kwX dC dI cy s) (hP : va_P (dC, dI) classes V H) (hD : va_D A V) (hS : va_S A s.heap H locs) (hI : vp_in i 1024) (hJ : vp_in j 11) (hdg : decode cc pc = .ok (.iastore, 1))
    (kk : ∀ (H1 : Heap) (locs1 : List Loc), va_P (dC, dI) classes (wS h cy (upS sw i.toNatClampNeg j.toNatClampNeg v) ++ r) H1 → va_D A (wS h cy (upS sw i.toNatClampNeg j.toNatClampNeg v) ++ r) → va_S A s.heap H1 locs1 → W p l e R s m args below meth c H1 locs1 cells slots Q (F0 m (pc + 1) ls rest)) : W p l e R s m args below meth c H locs cells slots Q (F0 m pc ls (.int v :: .int j :: .ref (h (100 + i.toNatClampNeg)) :: rest)) := by
  have hlt := vp_in_lt hI
  have hlen := wS_len h cy sw
  refine va_iast hC.1 hC.2.1 hK.1 (va_P.perm hp hP) (va_D.perm hp hD) hS (i.toNatClampNeg + 1) 0 (cA := cy 0) (n := 11) (f := sw i.toNatClampNeg) (by rw [List.getElem?_append_left (by rw [hlen]; omega)]; exact wS_at h cy sw hlt) rfl hJ hdg (fun H1 locs1 h1 h2 h3 => ?_)
  rw [wS_set h cy sw r hlt] at h1 h2
  exact kk H1 locs1 h1 h2 h3
theorem preF (hK : kwX dC dI cy s) (hP : va_P (dC, dI) classes x H) (hD : va_D A x) (he : x[0]? = some (b, .inr (4, fs))) (hZ : ZF z ad A s s.heap) (hvk : vk_R "PegshoreHouseModel" 92 "std" (z 4) s) (hS : va_S A s.heap H locs) (hF : ∀ q, va_A x H.size q → A q) :
    PreV s H RX4 b (va_Pc (.ref b :: As) (PcF dC dI cy z ad x H.size)) As :=
  ⟨fun a U g mk q => ⟨q.1, q.2.1, q.2.2.1, q.2.2.2.1.calling, q.2.2.2.2.1, q.2.2.2.2.2.1.moved (u := U) (U := U.calling g mk a) (Vm.Alike.refl U.vm), vk_R.same rfl q.2.2.2.2.2.2⟩, va_recv hK.1 hP rfl he,
   fun U hU hW => ⟨rfl, by rw [hU], by rw [hU]; exact hP, hK.warm hW, hD.weaken (fun _ _ _ _ => trivial), by rw [hU]; exact ((hZ.kept hS.2.1).narrow hF).moved hW.alike, hvk.warm hW⟩⟩
theorem cfVi {St : Type} {P : Int32 → St → Prop} {wn : St → va_W} (hp : V.Perm (x ++ r)) (hC : Cx p s m args meth c own cc nL rt) (hK : kwX dC dI cy s) (hP : va_P (dC, dI) classes V H) (hD : va_D A V) (hZ : ZF z ad A s s.heap) (hvk : vk_R "PegshoreHouseModel" 92 "std" (z 4) s) (hS : va_S A s.heap H locs) (hA : ∀ q, s.heap.size ≤ q → A q) (he : x[0]? = some (b, .inr (4, fs)))
    (hM : Met l y (ws_ y bytes maxL ret) rm (va_Pc (.ref b :: As) (PcF dC dI cy z ad x H.size)) (va_Qi P (fun (u : St) t => va_P (dC, dI) classes (wn u) t.heap ∧ va_D (va_A x H.size) (wn u)) (va_A x H.size)) mc ms (va_A x H.size)) (k : KV RX4 y bytes maxL ret n) (hlink : Cond.methodLink own index y ∈ lw_all)
    (hrm : rm.cells = mc ∧ rm.slots = ms) (hR : rm.frames + 1 ≤ R.frames ∧ 8 + (maxL + 11) + rm.locals ≤ R.locals) (hl : ls.size = nL) (hn : As.length = n) (hst : st0 = As.reverse ++ .ref b :: rest) (hr : (rest.map fun v => v.category).sum ≤ 8) (hdg : decode cc pc = .ok (.invokevirtual index, 3)) (hf : cells + mc ≤ R.cells ∧ slots + ms ≤ R.slots)
    (kk : ∀ (r9 : Int32) (u : St) (H1 : Heap) (locs1 : List Loc), P r9 u → va_P (dC, dI) classes (wn u ++ r) H1 → va_D A (wn u ++ r) → va_S A s.heap H1 locs1 → W p l e R s m args below meth c H1 locs1 (cells + mc) (slots + ms) Q (F0 m (pc + 3) ls (.int r9 :: rest))) : W p l e R s m args below meth c H locs cells slots Q (F0 m pc ls st0) := by
  have hF := fw_free hp hD hS hA
  exact va_calli (va_runV (b := b) (As := As) (rest := rest) ⟨hC.1, hC.2.1, hC.2.2.2.1, hC.2.2.2.2.1, hC.2.2.2.2.2.1⟩ hM (cbV hC.2.2.2.2.2.1 k hlink hrm hR) (preF hK (fw_get hp hP) (fw_getD hp hD) he hZ hvk hS hF) rfl hn hl hst (lv_room hr) hdg hf) hS (fun q _ h => hF q h) hF (fun r9 u t H1 locs1 ht hvm hw hB hz1 hk1 hS1 => by
    obtain ⟨hP1, hD1⟩ := hB
    rw [ht] at hP1
    obtain ⟨g1, g2⟩ := fw_join hp hP hD hk1 hF hP1 hD1
    exact kk r9 u H1 locs1 hw g1 g2 hS1)
theorem cfVv {St : Type} {P : St → Prop} {wn : St → va_W} (hp : V.Perm (x ++ r)) (hC : Cx p s m args meth c own cc nL rt) (hK : kwX dC dI cy s) (hP : va_P (dC, dI) classes V H) (hD : va_D A V) (hZ : ZF z ad A s s.heap) (hvk : vk_R "PegshoreHouseModel" 92 "std" (z 4) s) (hS : va_S A s.heap H locs) (hA : ∀ q, s.heap.size ≤ q → A q) (he : x[0]? = some (b, .inr (4, fs)))
    (hM : Met l y (ws_ y bytes maxL ret) rm (va_Pc (.ref b :: As) (PcF dC dI cy z ad x H.size)) (va_Qv P (fun (u : St) t => va_P (dC, dI) classes (wn u) t.heap ∧ va_D (va_A x H.size) (wn u)) (va_A x H.size)) mc ms (va_A x H.size)) (k : KV RX4 y bytes maxL ret n) (hlink : Cond.methodLink own index y ∈ lw_all)
    (hrm : rm.cells = mc ∧ rm.slots = ms) (hR : rm.frames + 1 ≤ R.frames ∧ 8 + (maxL + 11) + rm.locals ≤ R.locals) (hl : ls.size = nL) (hn : As.length = n) (hst : st0 = As.reverse ++ .ref b :: rest) (hr : (rest.map fun v => v.category).sum ≤ 8) (hdg : decode cc pc = .ok (.invokevirtual index, 3)) (hf : cells + mc ≤ R.cells ∧ slots + ms ≤ R.slots)
    (kk : ∀ (u : St) (H1 : Heap) (locs1 : List Loc), P u → va_P (dC, dI) classes (wn u ++ r) H1 → va_D A (wn u ++ r) → va_S A s.heap H1 locs1 → W p l e R s m args below meth c H1 locs1 (cells + mc) (slots + ms) Q (F0 m (pc + 3) ls rest)) : W p l e R s m args below meth c H locs cells slots Q (F0 m pc ls st0) := by
  have hF := fw_free hp hD hS hA
  exact va_callv (va_runV (b := b) (As := As) (rest := rest) ⟨hC.1, hC.2.1, hC.2.2.2.1, hC.2.2.2.2.1, hC.2.2.2.2.2.1⟩ hM (cbV hC.2.2.2.2.2.1 k hlink hrm hR) (preF hK (fw_get hp hP) (fw_getD hp hD) he hZ hvk hS hF) rfl hn hl hst (lv_room hr) hdg hf) hS (fun q _ h => hF q h) hF (fun u t H1 locs1 ht hvm hw hB hz1 hk1 hS1 => by
    obtain ⟨hP1, hD1⟩ := hB
    rw [ht] at hP1
    obtain ⟨g1, g2⟩ := fw_join hp hP hD hk1 hF hP1 hD1
    exact kk u H1 locs1 hw g1 g2 hS1)
theorem preD {a9 b9 : Nat} (hZ : ZD a9 b9 A s s.heap) (hS : va_S A s.heap H locs) : PreS s H (va_Pc As (fun U => ZD a9 b9 (fun _ => False) U U.heap)) As :=
  ⟨fun a U g mk q => ⟨q.1, ZD.moved (u := U) (U := U.calling g mk a) (Vm.Alike.refl U.vm) q.2⟩, fun U hU hW => ⟨rfl, by
    show ZD a9 b9 (fun _ => False) U U.heap
    rw [hU]; exact ((hZ.kept hS.2.1).narrow (fun _ h => h.elim)).moved hW.alike⟩⟩
theorem czDi {P : Int32 → Prop} {a9 b9 : Nat} (hC : Cx p s m args meth c own cc nL rt) (hZ : ZD a9 b9 A s s.heap) (hS : va_S A s.heap H locs)
    (hM : Met l y (ws_ y bytes maxL ret) rm (va_Pc As (fun U => ZD a9 b9 (fun _ => False) U U.heap)) (vp_Si P) 0 0 (fun _ => False)) (k : KS y bytes maxL ret n) (hlink : Cond.methodLink own index y ∈ lw_all)
    (hrm : rm.cells = 0 ∧ rm.slots = 0) (hR : rm.frames + 1 ≤ R.frames ∧ 8 + (maxL + 11) + rm.locals ≤ R.locals) (hl : ls.size = nL) (hn : As.length = n) (hst : st0 = As.reverse ++ rest) (hr : (rest.map fun v => v.category).sum ≤ 8) (hdg : decode cc pc = .ok (.invokestatic index, 3)) (hf : cells ≤ R.cells ∧ slots ≤ R.slots)
    (kk : ∀ r : Int32, P r → W p l e R s m args below meth c H locs cells slots Q (F0 m (pc + 3) ls (.int r :: rest))) : W p l e R s m args below meth c H locs cells slots Q (F0 m pc ls st0) :=
  vp_callSi (W.runS (As := As) (rest := rest) ⟨hC.1, hC.2.1, hC.2.2.2.1, hC.2.2.2.2.1, hC.2.2.2.2.2.1⟩ hM (cbS hC.2.2.2.2.2.1 k hlink hrm hR) (preD hZ hS) rfl hn hl hst (lv_room hr) hdg hf) kk
theorem lsEmpty2 {t2 : Nat} {cy : Nat → ClassId} {u : LST} {index count : Nat} (hp : V.Perm (wl ad cy t2 b u ++ r)) (hC : Cx p s m args meth c own cc nL rt) (hK : kwX dC dI cy s) (hP : va_P (dC, dI) classes V H) (hu : okL u) (hlink : Cond.methodLink own index ⟨"java/util/List", "isEmpty", "()Z"⟩ ∈ lw_all)
    (hR : 1 ≤ R.frames ∧ 8 + (1 + 11) ≤ R.locals) (hl : ls.size = nL) (hr : (rest.map fun v => v.category).sum ≤ 8) (hdg : decode cc pc = .ok (.invokeinterface index count, 5)) (hf : cells ≤ R.cells ∧ slots ≤ R.slots)
    (kk : W p l e R s m args below meth c H locs cells slots Q (F0 m (pc + 5) ls (.int (isE u.2.2.2.2.2) :: rest))) : W p l e R s m args below meth c H locs cells slots Q (F0 m pc ls (.ref b :: rest)) :=
  lsEmpty hp hC hK hP hu hlink hR hl hr hdg hf (fun h0 => by rw [show isE u.2.2.2.2.2 = 1 from if_pos h0] at kk; exact kk) (fun h0 => by rw [show isE u.2.2.2.2.2 = 0 from if_neg h0] at kk; exact kk)
theorem lsHas2 {t2 : Nat} {cy : Nat → ClassId} {u : LST} {index count : Nat} {it i : Nat} {lr mc9 : Int32} (hp : V.Perm ((wI it b i lr mc9 :: wl ad cy t2 b u) ++ r)) (hC : Cx p s m args meth c own cc nL rt) (hK : kwX dC dI cy s) (hP : va_P (dC, dI) classes V H) (hu : okL u) (hi : i ≤ u.2.2.2.2.2) (hlink : Cond.methodLink own index ⟨"java/util/Iterator", "hasNext", "()Z"⟩ ∈ lw_all)
    (hR : 1 ≤ R.frames ∧ 8 + (1 + 11) ≤ R.locals) (hl : ls.size = nL) (hr : (rest.map fun v => v.category).sum ≤ 8) (hdg : decode cc pc = .ok (.invokeinterface index count, 5)) (hf : cells ≤ R.cells ∧ slots ≤ R.slots)
    (kk : W p l e R s m args below meth c H locs cells slots Q (F0 m (pc + 5) ls (.int (isH i u.2.2.2.2.2) :: rest))) : W p l e R s m args below meth c H locs cells slots Q (F0 m pc ls (.ref it :: rest)) :=
  lsHas hp hC hK hP hu hi hlink hR hl hr hdg hf (fun h0 => by rw [show isH i u.2.2.2.2.2 = 1 from if_pos h0] at kk; exact kk) (fun h0 => by rw [show isH i u.2.2.2.2.2 = 0 from if_neg (by omega)] at kk; exact kk)
end FOPS
