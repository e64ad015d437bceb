def wp_case0 (fu : Nat) (a1 : Int32) (σ : SX) (f : Nat → Int64) (u : FX) (K : SX → (Nat → Int64) → FX → Prop) : Prop := (wp_L_setKind fu σ f ((a1.toUInt32 % 65536).toInt32) (fun r237 s237 f237 => (wp_X4_setKind fu u ((a1.toUInt32 % 65536).toInt32) (fun r250 s250 => (wp_X4_thrown s250.1 (fun r256 => ((r256 = r237 → ((¬ r237 = 0 → (K s237 f237 s250)) ∧ (r237 = 0 → (((lg_cmp (f237 (0 : Int32).toNatClampNeg) r250.toInt64) = 0 → (K s237 f237 s250)) ∧ (¬ (lg_cmp (f237 (0 : Int32).toNatClampNeg) r250.toInt64) = 0 → False))))) ∧ (¬ r256 = r237 → False))))))))
set_option maxHeartbeats 4000000 in
set_option maxRecDepth 100000 in
theorem m_case0 {p : Program} {e9 : Env} {s : State} {m : MethodId} {below : List Frame} {meth : Method} {c : Code} (l : Launch) (hl9 : l.stackTraces = false) {dC : Nat → ClassId} {dI : Nat → Nat → Nat} {h g : Nat → Nat} {cy : Nat → ClassId} {sa z ad : Nat → Nat} {o b L fu i k0 n0 : Nat} {xs : Nat → Int32} {A : Nat → Prop} {Q : State → Prop} {a0 a1 a2 : Int32}
  (hC : Cx p s m #[Value.ref b] meth c RL code 9 ret) (hK : kwX dC dI cy s) (hXS : XS sa s) (hXZ : XZ A s s.heap) (hN : NCL s) (hZ : ZF z ad A s s.heap) (hvk : vk_R "PegshoreHouseModel" 92 "std" (z 4) s) (hX : va_X b L xs s s.heap) (hbl : b < s.heap.size) (hbA : ¬ A b) (hA : ∀ q : Nat, s.heap.size ≤ q → A q)
  (hi1 : vp_in (nI i + 1) L) (hi2 : vp_in (nI i + 2) L) (hx1 : xs (nI i + 1).toNatClampNeg = a1) (hx2 : xs (nI i + 2).toNatClampNeg = a2) (hk0 : k0 + 30 ≤ 603072) (hn0 : n0 + 480 ≤ 7211114)
  (K : SX → (Nat → Int64) → FX → Prop) (hJ : ∀ σ f u, K σ f u → ∀ (H : Heap) (locs : List Loc) (ls : Array Slot), va_P (dC, dI) classes (wH h cy σ ++ ([(o, .inl (cy 1, 1, .inr (.inl f)))] ++ (wC g cy u.1 ++ (wl ad cy (z 0) (g 20) u.2.1 ++ (wl ad cy (z 0) (g 21) u.2.2.1 ++ (wl ad cy (z 0) (g 22) u.2.2.2.1 ++ wS g cy u.2.2.2.2)))))) H → va_D A (wH h cy σ ++ ([(o, .inl (cy 1, 1, .inr (.inl f)))] ++ (wC g cy u.1 ++ (wl ad cy (z 0) (g 20) u.2.1 ++ (wl ad cy (z 0) (g 21) u.2.2.1 ++ (wl ad cy (z 0) (g 22) u.2.2.2.1 ++ wS g cy u.2.2.2.2)))))) → va_S A s.heap H locs → lv_has ls 9 [(0, .ref b), (1, .ref (h 16)), (2, .ref (g 0)), (3, .ref o), (4, .int (nI i))] → W p l e9 room_1 s m #[Value.ref b] below meth c H locs (k0 + 30) (n0 + 480) Q (F0 m 1951 ls [])) (σ : SX) (f : Nat → Int64) (u : FX) (hF : wp_case0 fu a1 σ f u K) : ∀ (H : Heap) (locs : List Loc) (ls : Array Slot), va_P (dC, dI) classes (wH h cy σ ++ ([(o, .inl (cy 1, 1, .inr (.inl f)))] ++ (wC g cy u.1 ++ (wl ad cy (z 0) (g 20) u.2.1 ++ (wl ad cy (z 0) (g 21) u.2.2.1 ++ (wl ad cy (z 0) (g 22) u.2.2.2.1 ++ wS g cy u.2.2.2.2)))))) H → va_D A (wH h cy σ ++ ([(o, .inl (cy 1, 1, .inr (.inl f)))] ++ (wC g cy u.1 ++ (wl ad cy (z 0) (g 20) u.2.1 ++ (wl ad cy (z 0) (g 21) u.2.2.1 ++ (wl ad cy (z 0) (g 22) u.2.2.2.1 ++ wS g cy u.2.2.2.2)))))) → va_S A s.heap H locs → lv_has ls 9 [(0, .ref b), (1, .ref (h 16)), (2, .ref (g 0)), (3, .ref o), (4, .int (nI i))] → W p l e9 room_1 s m #[Value.ref b] below meth c H locs k0 n0 Q (F0 m 228 ls []) := by
  intro H locs ls hP hD hS hl
  have hx := hC.1
  have hb := hC.2.1
  have hml := hC.2.2.2.1
  have hown := hC.2.2.2.2.1
  have hts := hC.2.2.2.2.2.1
  unfold wp_case0 at hF
  refine lv_aload_n hx hb dL_law_228 rfl (lv_at hl 1 rfl) ?_
  refine lv_aload_n hx hb dL_law_229 rfl (lv_at hl 0 rfl) ?_
  refine lv_iload hx hb dL_law_230 (lv_at hl 4 rfl) ?_
  refine lv_iconst (v := 1) hx hb dL_law_232 (by decide) ?_
  refine lv_iadd hx hb dL_law_233 ?_
  refine va_sld hx hb hX hbl hbA hS hi1 dL_law_234 ?_
  rw [hx1]
  refine lv_i2c (v := (a1.toUInt32 % 65536).toInt32) hx hb dL_law_235 rfl ?_
  refine lv_aload_n hx hb dL_law_236 rfl (lv_at hl 3 rfl) ?_
  refine lwWrap (x := wO h cy o σ f) (wn := fun (u : SX × (Nat → Int64)) => wO h cy o u.1 u.2) (As := [.ref (h 16), .int ((a1.toUInt32 % 65536).toInt32), .ref o]) (rest := []) (fpA _ _ _) hC hK hXS hXZ hN hP hD hS hA (m_L_setKind l hl9 dC dI h cy sa o _ fu σ f ((a1.toUInt32 % 65536).toInt32) _ hF) k_L_setKind q389 ⟨rfl, rfl⟩ ⟨Nat.le_of_ble_eq_true rfl, Nat.le_of_ble_eq_true rfl⟩ hl.1 rfl rfl (Nat.le_of_ble_eq_true rfl) dL_law_237 ⟨by show _ ≤ 603072; omega, by show _ ≤ 7211114; omega⟩ (fun r237 v9 H1 locs hF hP1 hD1 hS => ?_)
  obtain ⟨s237, f237⟩ := v9
  have hP := va_P.perm (fpA _ _ _).symm hP1
  have hD := va_D.perm (fpA _ _ _).symm hD1
  generalize H1 = H at hP hS ⊢
  have hP : va_P (dC, dI) classes (wH h cy s237 ++ ([(o, .inl (cy 1, 1, .inr (.inl f237)))] ++ (wC g cy u.1 ++ (wl ad cy (z 0) (g 20) u.2.1 ++ (wl ad cy (z 0) (g 21) u.2.2.1 ++ (wl ad cy (z 0) (g 22) u.2.2.2.1 ++ wS g cy u.2.2.2.2)))))) H := hP
  have hD : va_D A (wH h cy s237 ++ ([(o, .inl (cy 1, 1, .inr (.inl f237)))] ++ (wC g cy u.1 ++ (wl ad cy (z 0) (g 20) u.2.1 ++ (wl ad cy (z 0) (g 21) u.2.2.1 ++ (wl ad cy (z 0) (g 22) u.2.2.2.1 ++ wS g cy u.2.2.2.2)))))) := hD
  refine lv_istore (lv' := [(5, .int r237), (0, .ref b), (1, .ref (h 16)), (2, .ref (g 0)), (3, .ref o), (4, .int (nI i))]) hx hb dL_law_240 hl (by decide) rfl (fun ls hl => ?_)
  refine lv_aload_n hx hb dL_law_242 rfl (lv_at hl 3 rfl) ?_
  refine lv_aload_n hx hb dL_law_243 rfl (lv_at hl 1 rfl) ?_
  refine lv_iload hx hb dL_law_244 (lv_at hl 5 rfl) ?_
  refine lv_iconst (v := 1) hx hb dL_law_246 (by decide) ?_
  refine lv_iadd hx hb dL_law_247 ?_
  refine va_sld hx hb hX hbl hbA hS hi1 dL_law_248 ?_
  rw [hx1]
  refine lv_i2c (v := (a1.toUInt32 % 65536).toInt32) hx hb dL_law_249 rfl ?_
  refine cfVi (x := wC g cy u.1 ++ (wl ad cy (z 0) (g 20) u.2.1 ++ (wl ad cy (z 0) (g 21) u.2.2.1 ++ (wl ad cy (z 0) (g 22) u.2.2.2.1 ++ wS g cy u.2.2.2.2)))) (As := [.int ((a1.toUInt32 % 65536).toInt32)]) (rest := []) (fpF _ _ _) hC hK hP hD hZ hvk hS hA rfl (m_X4_setKind l dC dI g cy z ad _ fu u ((a1.toUInt32 % 65536).toInt32) _ hF) k_X4_setKind q1013 ⟨rfl, rfl⟩ ⟨Nat.le_of_ble_eq_true rfl, Nat.le_of_ble_eq_true rfl⟩ hl.1 rfl rfl (Nat.le_of_ble_eq_true rfl) dL_law_250 ⟨by show _ ≤ 603072; omega, by show _ ≤ 7211114; omega⟩ (fun r250 s250 H1 locs hF hP1 hD1 hS => ?_)
  have hP := va_P.perm (fpF _ _ _).symm hP1
  have hD := va_D.perm (fpF _ _ _).symm hD1
  generalize H1 = H at hP hS ⊢
  have hP : va_P (dC, dI) classes (wH h cy s237 ++ ([(o, .inl (cy 1, 1, .inr (.inl f237)))] ++ (wC g cy s250.1 ++ (wl ad cy (z 0) (g 20) s250.2.1 ++ (wl ad cy (z 0) (g 21) s250.2.2.1 ++ (wl ad cy (z 0) (g 22) s250.2.2.2.1 ++ wS g cy s250.2.2.2.2)))))) H := hP
  have hD : va_D A (wH h cy s237 ++ ([(o, .inl (cy 1, 1, .inr (.inl f237)))] ++ (wC g cy s250.1 ++ (wl ad cy (z 0) (g 20) s250.2.1 ++ (wl ad cy (z 0) (g 21) s250.2.2.1 ++ (wl ad cy (z 0) (g 22) s250.2.2.2.1 ++ wS g cy s250.2.2.2.2)))))) := hD
  refine lv_istore (lv' := [(6, .int r250), (5, .int r237), (0, .ref b), (1, .ref (h 16)), (2, .ref (g 0)), (3, .ref o), (4, .int (nI i))]) hx hb dL_law_253 hl (by decide) rfl (fun ls hl => ?_)
  refine lv_aload_n hx hb dL_law_255 rfl (lv_at hl 4 rfl) ?_
  have hPc := fw_get (fp2 _ _ _ _) hP
  refine cpVi (q0 := 0) (As := []) (rest := []) hC hK hPc rfl rfl (m_X4_thrown l dC dI g cy s250.1 _ hF) k_X4_thrown q1009 ⟨rfl, rfl⟩ ⟨Nat.le_of_ble_eq_true rfl, Nat.le_of_ble_eq_true rfl⟩ hl.1 rfl rfl (Nat.le_of_ble_eq_true rfl) dL_law_256 ⟨by show _ ≤ 603072; omega, by show _ ≤ 7211114; omega⟩ (fun r256 hF => ?_)
  refine lv_iload hx hb dL_law_259 (lv_at hl 1 rfl) ?_
  refine lv_icmp_eq (tgt := 266) hx hb dL_law_261 (by decide) (fun cz => ?_) (fun cz => ?_)
  · have hF := hF.1 cz
    refine lv_iload hx hb dL_law_266 (lv_at hl 1 rfl) ?_
    refine lv_if_ne (tgt := 283) hx hb dL_law_268 (by decide) (fun cz => ?_) (fun cz => ?_)
    · have hF := hF.1 cz
      refine lv_goto (tgt := 1951) hx hb dL_law_283 (by decide) ?_
      refine W.widen (k := k0 + 30) (n := n0 + 480) (by omega) (by omega) ?_
      exact hJ _ _ _ hF _ _ _ hP hD hS (lv_sub hl [2, 3, 4, 5, 6] rfl)
    · have hF := hF.2 cz
      refine lv_aload_n hx hb dL_law_271 rfl (lv_at hl 5 rfl) ?_
      refine lv_iconst (v := 0) hx hb dL_law_272 (by decide) ?_
      refine va_lald hx hb hK.1 hP 21 1 rfl rfl (show vp_in 0 1 from vp_in_nI (n := 0) (by omega) (by omega)) dL_law_273 ?_
      refine lv_iload hx hb dL_law_274 (lv_at hl 0 rfl) ?_
      refine lv_i2l hx hb dL_law_276 rfl ?_
      refine W.lcmp hx hb dL_law_277 ?_
      refine lv_if_eq (tgt := 283) hx hb dL_law_278 (by decide) (fun cz => ?_) (fun cz => ?_)
      · have hF := hF.1 cz
        refine lv_goto (tgt := 1951) hx hb dL_law_283 (by decide) ?_
        refine W.widen (k := k0 + 30) (n := n0 + 480) (by omega) (by omega) ?_
        exact hJ _ _ _ hF _ _ _ hP hD hS (lv_sub hl [2, 3, 4, 5, 6] rfl)
      · have hF := hF.2 cz
        refine lv_iconst (v := 0) hx hb dL_law_281 (by decide) ?_
        exact hF.elim
  · have hF := hF.2 cz
    refine lv_iconst (v := 0) hx hb dL_law_264 (by decide) ?_
    exact hF.elim
def wp_case1 (fu : Nat) (a1 : Int32) (σ : SX) (f : Nat → Int64) (u : FX) (K : SX → (Nat → Int64) → FX → Prop) : Prop := (wp_L_drill fu σ f a1 (fun r294 s294 f294 => (wp_X4_drill fu u a1 (fun r306 s306 => (wp_X4_thrown s306.1 (fun r312 => ((r312 = r294 → ((¬ r294 = 0 → (K s294 f294 s306)) ∧ (r294 = 0 → (((lg_cmp (f294 (0 : Int32).toNatClampNeg) r306.toInt64) = 0 → (K s294 f294 s306)) ∧ (¬ (lg_cmp (f294 (0 : Int32).toNatClampNeg) r306.toInt64) = 0 → False))))) ∧ (¬ r312 = r294 → False))))))))
set_option maxHeartbeats 4000000 in
set_option maxRecDepth 100000 in
theorem m_case1 {p : Program} {e9 : Env} {s : State} {m : MethodId} {below : List Frame} {meth : Method} {c : Code} (l : Launch) (hl9 : l.stackTraces = false) {dC : Nat → ClassId} {dI : Nat → Nat → Nat} {h g : Nat → Nat} {cy : Nat → ClassId} {sa z ad : Nat → Nat} {o b L fu i k0 n0 : Nat} {xs : Nat → Int32} {A : Nat → Prop} {Q : State → Prop} {a0 a1 a2 : Int32}
  (hC : Cx p s m #[Value.ref b] meth c RL code 9 ret) (hK : kwX dC dI cy s) (hXS : XS sa s) (hXZ : XZ A s s.heap) (hN : NCL s) (hZ : ZF z ad A s s.heap) (hvk : vk_R "PegshoreHouseModel" 92 "std" (z 4) s) (hX : va_X b L xs s s.heap) (hbl : b < s.heap.size) (hbA : ¬ A b) (hA : ∀ q : Nat, s.heap.size ≤ q → A q)
  (hi1 : vp_in (nI i + 1) L) (hi2 : vp_in (nI i + 2) L) (hx1 : xs (nI i + 1).toNatClampNeg = a1) (hx2 : xs (nI i + 2).toNatClampNeg = a2) (hk0 : k0 + 30 ≤ 603072) (hn0 : n0 + 480 ≤ 7211114)
  (K : SX → (Nat → Int64) → FX → Prop) (hJ : ∀ σ f u, K σ f u → ∀ (H : Heap) (locs : List Loc) (ls : Array Slot), va_P (dC, dI) classes (wH h cy σ ++ ([(o, .inl (cy 1, 1, .inr (.inl f)))] ++ (wC g cy u.1 ++ (wl ad cy (z 0) (g 20) u.2.1 ++ (wl ad cy (z 0) (g 21) u.2.2.1 ++ (wl ad cy (z 0) (g 22) u.2.2.2.1 ++ wS g cy u.2.2.2.2)))))) H → va_D A (wH h cy σ ++ ([(o, .inl (cy 1, 1, .inr (.inl f)))] ++ (wC g cy u.1 ++ (wl ad cy (z 0) (g 20) u.2.1 ++ (wl ad cy (z 0) (g 21) u.2.2.1 ++ (wl ad cy (z 0) (g 22) u.2.2.2.1 ++ wS g cy u.2.2.2.2)))))) → va_S A s.heap H locs → lv_has ls 9 [(0, .ref b), (1, .ref (h 16)), (2, .ref (g 0)), (3, .ref o), (4, .int (nI i))] → W p l e9 room_1 s m #[Value.ref b] below meth c H locs (k0 + 30) (n0 + 480) Q (F0 m 1951 ls [])) (σ : SX) (f : Nat → Int64) (u : FX) (hF : wp_case1 fu a1 σ f u K) : ∀ (H : Heap) (locs : List Loc) (ls : Array Slot), va_P (dC, dI) classes (wH h cy σ ++ ([(o, .inl (cy 1, 1, .inr (.inl f)))] ++ (wC g cy u.1 ++ (wl ad cy (z 0) (g 20) u.2.1 ++ (wl ad cy (z 0) (g 21) u.2.2.1 ++ (wl ad cy (z 0) (g 22) u.2.2.2.1 ++ wS g cy u.2.2.2.2)))))) H → va_D A (wH h cy σ ++ ([(o, .inl (cy 1, 1, .inr (.inl f)))] ++ (wC g cy u.1 ++ (wl ad cy (z 0) (g 20) u.2.1 ++ (wl ad cy (z 0) (g 21) u.2.2.1 ++ (wl ad cy (z 0) (g 22) u.2.2.2.1 ++ wS g cy u.2.2.2.2)))))) → va_S A s.heap H locs → lv_has ls 9 [(0, .ref b), (1, .ref (h 16)), (2, .ref (g 0)), (3, .ref o), (4, .int (nI i))] → W p l e9 room_1 s m #[Value.ref b] below meth c H locs k0 n0 Q (F0 m 286 ls []) := by
  intro H locs ls hP hD hS hl
  have hx := hC.1
  have hb := hC.2.1
  have hml := hC.2.2.2.1
  have hown := hC.2.2.2.2.1
  have hts := hC.2.2.2.2.2.1
  unfold wp_case1 at hF
  refine lv_aload_n hx hb dL_law_286 rfl (lv_at hl 1 rfl) ?_
  refine lv_aload_n hx hb dL_law_287 rfl (lv_at hl 0 rfl) ?_
  refine lv_iload hx hb dL_law_288 (lv_at hl 4 rfl) ?_
  refine lv_iconst (v := 1) hx hb dL_law_290 (by decide) ?_
  refine lv_iadd hx hb dL_law_291 ?_
  refine va_sld hx hb hX hbl hbA hS hi1 dL_law_292 ?_
  rw [hx1]
  refine lv_aload_n hx hb dL_law_293 rfl (lv_at hl 3 rfl) ?_
  refine lwWrap (x := wO h cy o σ f) (wn := fun (u : SX × (Nat → Int64)) => wO h cy o u.1 u.2) (As := [.ref (h 16), .int a1, .ref o]) (rest := []) (fpA _ _ _) hC hK hXS hXZ hN hP hD hS hA (m_L_drill l hl9 dC dI h cy sa o _ fu σ f a1 _ hF) k_L_drill q499 ⟨rfl, rfl⟩ ⟨Nat.le_of_ble_eq_true rfl, Nat.le_of_ble_eq_true rfl⟩ hl.1 rfl rfl (Nat.le_of_ble_eq_true rfl) dL_law_294 ⟨by show _ ≤ 603072; omega, by show _ ≤ 7211114; omega⟩ (fun r294 v9 H1 locs hF hP1 hD1 hS => ?_)
  obtain ⟨s294, f294⟩ := v9
  have hP := va_P.perm (fpA _ _ _).symm hP1
  have hD := va_D.perm (fpA _ _ _).symm hD1
  generalize H1 = H at hP hS ⊢
  have hP : va_P (dC, dI) classes (wH h cy s294 ++ ([(o, .inl (cy 1, 1, .inr (.inl f294)))] ++ (wC g cy u.1 ++ (wl ad cy (z 0) (g 20) u.2.1 ++ (wl ad cy (z 0) (g 21) u.2.2.1 ++ (wl ad cy (z 0) (g 22) u.2.2.2.1 ++ wS g cy u.2.2.2.2)))))) H := hP
  have hD : va_D A (wH h cy s294 ++ ([(o, .inl (cy 1, 1, .inr (.inl f294)))] ++ (wC g cy u.1 ++ (wl ad cy (z 0) (g 20) u.2.1 ++ (wl ad cy (z 0) (g 21) u.2.2.1 ++ (wl ad cy (z 0) (g 22) u.2.2.2.1 ++ wS g cy u.2.2.2.2)))))) := hD
  refine lv_istore (lv' := [(5, .int r294), (0, .ref b), (1, .ref (h 16)), (2, .ref (g 0)), (3, .ref o), (4, .int (nI i))]) hx hb dL_law_297 hl (by decide) rfl (fun ls hl => ?_)
  refine lv_aload_n hx hb dL_law_299 rfl (lv_at hl 3 rfl) ?_
  refine lv_aload_n hx hb dL_law_300 rfl (lv_at hl 1 rfl) ?_
  refine lv_iload hx hb dL_law_301 (lv_at hl 5 rfl) ?_
  refine lv_iconst (v := 1) hx hb dL_law_303 (by decide) ?_
  refine lv_iadd hx hb dL_law_304 ?_
  refine va_sld hx hb hX hbl hbA hS hi1 dL_law_305 ?_
  rw [hx1]
  refine cfVi (x := wC g cy u.1 ++ (wl ad cy (z 0) (g 20) u.2.1 ++ (wl ad cy (z 0) (g 21) u.2.2.1 ++ (wl ad cy (z 0) (g 22) u.2.2.2.1 ++ wS g cy u.2.2.2.2)))) (As := [.int a1]) (rest := []) (fpF _ _ _) hC hK hP hD hZ hvk hS hA rfl (m_X4_drill l dC dI g cy z ad _ fu u a1 _ hF) k_X4_drill q1126 ⟨rfl, rfl⟩ ⟨Nat.le_of_ble_eq_true rfl, Nat.le_of_ble_eq_true rfl⟩ hl.1 rfl rfl (Nat.le_of_ble_eq_true rfl) dL_law_306 ⟨by show _ ≤ 603072; omega, by show _ ≤ 7211114; omega⟩ (fun r306 s306 H1 locs hF hP1 hD1 hS => ?_)
  have hP := va_P.perm (fpF _ _ _).symm hP1
  have hD := va_D.perm (fpF _ _ _).symm hD1
  generalize H1 = H at hP hS ⊢
  have hP : va_P (dC, dI) classes (wH h cy s294 ++ ([(o, .inl (cy 1, 1, .inr (.inl f294)))] ++ (wC g cy s306.1 ++ (wl ad cy (z 0) (g 20) s306.2.1 ++ (wl ad cy (z 0) (g 21) s306.2.2.1 ++ (wl ad cy (z 0) (g 22) s306.2.2.2.1 ++ wS g cy s306.2.2.2.2)))))) H := hP
  have hD : va_D A (wH h cy s294 ++ ([(o, .inl (cy 1, 1, .inr (.inl f294)))] ++ (wC g cy s306.1 ++ (wl ad cy (z 0) (g 20) s306.2.1 ++ (wl ad cy (z 0) (g 21) s306.2.2.1 ++ (wl ad cy (z 0) (g 22) s306.2.2.2.1 ++ wS g cy s306.2.2.2.2)))))) := hD
  refine lv_istore (lv' := [(6, .int r306), (5, .int r294), (0, .ref b), (1, .ref (h 16)), (2, .ref (g 0)), (3, .ref o), (4, .int (nI i))]) hx hb dL_law_309 hl (by decide) rfl (fun ls hl => ?_)
  refine lv_aload_n hx hb dL_law_311 rfl (lv_at hl 4 rfl) ?_
  have hPc := fw_get (fp2 _ _ _ _) hP
  refine cpVi (q0 := 0) (As := []) (rest := []) hC hK hPc rfl rfl (m_X4_thrown l dC dI g cy s306.1 _ hF) k_X4_thrown q1009 ⟨rfl, rfl⟩ ⟨Nat.le_of_ble_eq_true rfl, Nat.le_of_ble_eq_true rfl⟩ hl.1 rfl rfl (Nat.le_of_ble_eq_true rfl) dL_law_312 ⟨by show _ ≤ 603072; omega, by show _ ≤ 7211114; omega⟩ (fun r312 hF => ?_)
  refine lv_iload hx hb dL_law_315 (lv_at hl 1 rfl) ?_
  refine lv_icmp_eq (tgt := 322) hx hb dL_law_317 (by decide) (fun cz => ?_) (fun cz => ?_)
  · have hF := hF.1 cz
    refine lv_iload hx hb dL_law_322 (lv_at hl 1 rfl) ?_
    refine lv_if_ne (tgt := 339) hx hb dL_law_324 (by decide) (fun cz => ?_) (fun cz => ?_)
    · have hF := hF.1 cz
      refine lv_goto (tgt := 1951) hx hb dL_law_339 (by decide) ?_
      refine W.widen (k := k0 + 30) (n := n0 + 480) (by omega) (by omega) ?_
      exact hJ _ _ _ hF _ _ _ hP hD hS (lv_sub hl [2, 3, 4, 5, 6] rfl)
    · have hF := hF.2 cz
      refine lv_aload_n hx hb dL_law_327 rfl (lv_at hl 5 rfl) ?_
      refine lv_iconst (v := 0) hx hb dL_law_328 (by decide) ?_
      refine va_lald hx hb hK.1 hP 21 1 rfl rfl (show vp_in 0 1 from vp_in_nI (n := 0) (by omega) (by omega)) dL_law_329 ?_
      refine lv_iload hx hb dL_law_330 (lv_at hl 0 rfl) ?_
      refine lv_i2l hx hb dL_law_332 rfl ?_
      refine W.lcmp hx hb dL_law_333 ?_
      refine lv_if_eq (tgt := 339) hx hb dL_law_334 (by decide) (fun cz => ?_) (fun cz => ?_)
      · have hF := hF.1 cz
        refine lv_goto (tgt := 1951) hx hb dL_law_339 (by decide) ?_
        refine W.widen (k := k0 + 30) (n := n0 + 480) (by omega) (by omega) ?_
        exact hJ _ _ _ hF _ _ _ hP hD hS (lv_sub hl [2, 3, 4, 5, 6] rfl)
      · have hF := hF.2 cz
        refine lv_iconst (v := 0) hx hb dL_law_337 (by decide) ?_
        exact hF.elim
  · have hF := hF.2 cz
    refine lv_iconst (v := 0) hx hb dL_law_320 (by decide) ?_
    exact hF.elim
def wp_case2 (fu : Nat) (a1 : Int32) (σ : SX) (f : Nat → Int64) (u : FX) (K : SX → (Nat → Int64) → FX → Prop) : Prop := (wp_L_fill fu σ f a1 (fun r350 s350 f350 => (wp_X4_fill fu u a1 (fun r362 s362 => (wp_X4_thrown s362.1 (fun r368 => ((r368 = r350 → ((¬ r350 = 0 → (K s350 f350 s362)) ∧ (r350 = 0 → (((lg_cmp (f350 (0 : Int32).toNatClampNeg) r362.toInt64) = 0 → (K s350 f350 s362)) ∧ (¬ (lg_cmp (f350 (0 : Int32).toNatClampNeg) r362.toInt64) = 0 → False))))) ∧ (¬ r368 = r350 → False))))))))
set_option maxHeartbeats 4000000 in
set_option maxRecDepth 100000 in
theorem m_case2 {p : Program} {e9 : Env} {s : State} {m : MethodId} {below : List Frame} {meth : Method} {c : Code} (l : Launch) (hl9 : l.stackTraces = false) {dC : Nat → ClassId} {dI : Nat → Nat → Nat} {h g : Nat → Nat} {cy : Nat → ClassId} {sa z ad : Nat → Nat} {o b L fu i k0 n0 : Nat} {xs : Nat → Int32} {A : Nat → Prop} {Q : State → Prop} {a0 a1 a2 : Int32}
  (hC : Cx p s m #[Value.ref b] meth c RL code 9 ret) (hK : kwX dC dI cy s) (hXS : XS sa s) (hXZ : XZ A s s.heap) (hN : NCL s) (hZ : ZF z ad A s s.heap) (hvk : vk_R "PegshoreHouseModel" 92 "std" (z 4) s) (hX : va_X b L xs s s.heap) (hbl : b < s.heap.size) (hbA : ¬ A b) (hA : ∀ q : Nat, s.heap.size ≤ q → A q)
  (hi1 : vp_in (nI i + 1) L) (hi2 : vp_in (nI i + 2) L) (hx1 : xs (nI i + 1).toNatClampNeg = a1) (hx2 : xs (nI i + 2).toNatClampNeg = a2) (hk0 : k0 + 30 ≤ 603072) (hn0 : n0 + 480 ≤ 7211114)
  (K : SX → (Nat → Int64) → FX → Prop) (hJ : ∀ σ f u, K σ f u → ∀ (H : Heap) (locs : List Loc) (ls : Array Slot), va_P (dC, dI) classes (wH h cy σ ++ ([(o, .inl (cy 1, 1, .inr (.inl f)))] ++ (wC g cy u.1 ++ (wl ad cy (z 0) (g 20) u.2.1 ++ (wl ad cy (z 0) (g 21) u.2.2.1 ++ (wl ad cy (z 0) (g 22) u.2.2.2.1 ++ wS g cy u.2.2.2.2)))))) H → va_D A (wH h cy σ ++ ([(o, .inl (cy 1, 1, .inr (.inl f)))] ++ (wC g cy u.1 ++ (wl ad cy (z 0) (g 20) u.2.1 ++ (wl ad cy (z 0) (g 21) u.2.2.1 ++ (wl ad cy (z 0) (g 22) u.2.2.2.1 ++ wS g cy u.2.2.2.2)))))) → va_S A s.heap H locs → lv_has ls 9 [(0, .ref b), (1, .ref (h 16)), (2, .ref (g 0)), (3, .ref o), (4, .int (nI i))] → W p l e9 room_1 s m #[Value.ref b] below meth c H locs (k0 + 30) (n0 + 480) Q (F0 m 1951 ls [])) (σ : SX) (f : Nat → Int64) (u : FX) (hF : wp_case2 fu a1 σ f u K) : ∀ (H : Heap) (locs : List Loc) (ls : Array Slot), va_P (dC, dI) classes (wH h cy σ ++ ([(o, .inl (cy 1, 1, .inr (.inl f)))] ++ (wC g cy u.1 ++ (wl ad cy (z 0) (g 20) u.2.1 ++ (wl ad cy (z 0) (g 21) u.2.2.1 ++ (wl ad cy (z 0) (g 22) u.2.2.2.1 ++ wS g cy u.2.2.2.2)))))) H → va_D A (wH h cy σ ++ ([(o, .inl (cy 1, 1, .inr (.inl f)))] ++ (wC g cy u.1 ++ (wl ad cy (z 0) (g 20) u.2.1 ++ (wl ad cy (z 0) (g 21) u.2.2.1 ++ (wl ad cy (z 0) (g 22) u.2.2.2.1 ++ wS g cy u.2.2.2.2)))))) → va_S A s.heap H locs → lv_has ls 9 [(0, .ref b), (1, .ref (h 16)), (2, .ref (g 0)), (3, .ref o), (4, .int (nI i))] → W p l e9 room_1 s m #[Value.ref b] below meth c H locs k0 n0 Q (F0 m 342 ls []) := by
  intro H locs ls hP hD hS hl
  have hx := hC.1
  have hb := hC.2.1
  have hml := hC.2.2.2.1
  have hown := hC.2.2.2.2.1
  have hts := hC.2.2.2.2.2.1
  unfold wp_case2 at hF
  refine lv_aload_n hx hb dL_law_342 rfl (lv_at hl 1 rfl) ?_
  refine lv_aload_n hx hb dL_law_343 rfl (lv_at hl 0 rfl) ?_
  refine lv_iload hx hb dL_law_344 (lv_at hl 4 rfl) ?_
  refine lv_iconst (v := 1) hx hb dL_law_346 (by decide) ?_
  refine lv_iadd hx hb dL_law_347 ?_
  refine va_sld hx hb hX hbl hbA hS hi1 dL_law_348 ?_
  rw [hx1]
  refine lv_aload_n hx hb dL_law_349 rfl (lv_at hl 3 rfl) ?_
  refine lwWrap (x := wO h cy o σ f) (wn := fun (u : SX × (Nat → Int64)) => wO h cy o u.1 u.2) (As := [.ref (h 16), .int a1, .ref o]) (rest := []) (fpA _ _ _) hC hK hXS hXZ hN hP hD hS hA (m_L_fill l hl9 dC dI h cy sa o _ fu σ f a1 _ hF) k_L_fill q554 ⟨rfl, rfl⟩ ⟨Nat.le_of_ble_eq_true rfl, Nat.le_of_ble_eq_true rfl⟩ hl.1 rfl rfl (Nat.le_of_ble_eq_true rfl) dL_law_350 ⟨by show _ ≤ 603072; omega, by show _ ≤ 7211114; omega⟩ (fun r350 v9 H1 locs hF hP1 hD1 hS => ?_)
  obtain ⟨s350, f350⟩ := v9
  have hP := va_P.perm (fpA _ _ _).symm hP1
  have hD := va_D.perm (fpA _ _ _).symm hD1
  generalize H1 = H at hP hS ⊢
  have hP : va_P (dC, dI) classes (wH h cy s350 ++ ([(o, .inl (cy 1, 1, .inr (.inl f350)))] ++ (wC g cy u.1 ++ (wl ad cy (z 0) (g 20) u.2.1 ++ (wl ad cy (z 0) (g 21) u.2.2.1 ++ (wl ad cy (z 0) (g 22) u.2.2.2.1 ++ wS g cy u.2.2.2.2)))))) H := hP
  have hD : va_D A (wH h cy s350 ++ ([(o, .inl (cy 1, 1, .inr (.inl f350)))] ++ (wC g cy u.1 ++ (wl ad cy (z 0) (g 20) u.2.1 ++ (wl ad cy (z 0) (g 21) u.2.2.1 ++ (wl ad cy (z 0) (g 22) u.2.2.2.1 ++ wS g cy u.2.2.2.2)))))) := hD
  refine lv_istore (lv' := [(5, .int r350), (0, .ref b), (1, .ref (h 16)), (2, .ref (g 0)), (3, .ref o), (4, .int (nI i))]) hx hb dL_law_353 hl (by decide) rfl (fun ls hl => ?_)
  refine lv_aload_n hx hb dL_law_355 rfl (lv_at hl 3 rfl) ?_
  refine lv_aload_n hx hb dL_law_356 rfl (lv_at hl 1 rfl) ?_
  refine lv_iload hx hb dL_law_357 (lv_at hl 5 rfl) ?_
  refine lv_iconst (v := 1) hx hb dL_law_359 (by decide) ?_
  refine lv_iadd hx hb dL_law_360 ?_
  refine va_sld hx hb hX hbl hbA hS hi1 dL_law_361 ?_
  rw [hx1]
  refine cfVi (x := wC g cy u.1 ++ (wl ad cy (z 0) (g 20) u.2.1 ++ (wl ad cy (z 0) (g 21) u.2.2.1 ++ (wl ad cy (z 0) (g 22) u.2.2.2.1 ++ wS g cy u.2.2.2.2)))) (As := [.int a1]) (rest := []) (fpF _ _ _) hC hK hP hD hZ hvk hS hA rfl (m_X4_fill l dC dI g cy z ad _ fu u a1 _ hF) k_X4_fill q1144 ⟨rfl, rfl⟩ ⟨Nat.le_of_ble_eq_true rfl, Nat.le_of_ble_eq_true rfl⟩ hl.1 rfl rfl (Nat.le_of_ble_eq_true rfl) dL_law_362 ⟨by show _ ≤ 603072; omega, by show _ ≤ 7211114; omega⟩ (fun r362 s362 H1 locs hF hP1 hD1 hS => ?_)
  have hP := va_P.perm (fpF _ _ _).symm hP1
  have hD := va_D.perm (fpF _ _ _).symm hD1
  generalize H1 = H at hP hS ⊢
  have hP : va_P (dC, dI) classes (wH h cy s350 ++ ([(o, .inl (cy 1, 1, .inr (.inl f350)))] ++ (wC g cy s362.1 ++ (wl ad cy (z 0) (g 20) s362.2.1 ++ (wl ad cy (z 0) (g 21) s362.2.2.1 ++ (wl ad cy (z 0) (g 22) s362.2.2.2.1 ++ wS g cy s362.2.2.2.2)))))) H := hP
  have hD : va_D A (wH h cy s350 ++ ([(o, .inl (cy 1, 1, .inr (.inl f350)))] ++ (wC g cy s362.1 ++ (wl ad cy (z 0) (g 20) s362.2.1 ++ (wl ad cy (z 0) (g 21) s362.2.2.1 ++ (wl ad cy (z 0) (g 22) s362.2.2.2.1 ++ wS g cy s362.2.2.2.2)))))) := hD
  refine lv_istore (lv' := [(6, .int r362), (5, .int r350), (0, .ref b), (1, .ref (h 16)), (2, .ref (g 0)), (3, .ref o), (4, .int (nI i))]) hx hb dL_law_365 hl (by decide) rfl (fun ls hl => ?_)
  refine lv_aload_n hx hb dL_law_367 rfl (lv_at hl 4 rfl) ?_
  have hPc := fw_get (fp2 _ _ _ _) hP
  refine cpVi (q0 := 0) (As := []) (rest := []) hC hK hPc rfl rfl (m_X4_thrown l dC dI g cy s362.1 _ hF) k_X4_thrown q1009 ⟨rfl, rfl⟩ ⟨Nat.le_of_ble_eq_true rfl, Nat.le_of_ble_eq_true rfl⟩ hl.1 rfl rfl (Nat.le_of_ble_eq_true rfl) dL_law_368 ⟨by show _ ≤ 603072; omega, by show _ ≤ 7211114; omega⟩ (fun r368 hF => ?_)
  refine lv_iload hx hb dL_law_371 (lv_at hl 1 rfl) ?_
  refine lv_icmp_eq (tgt := 378) hx hb dL_law_373 (by decide) (fun cz => ?_) (fun cz => ?_)
  · have hF := hF.1 cz
    refine lv_iload hx hb dL_law_378 (lv_at hl 1 rfl) ?_
    refine lv_if_ne (tgt := 395) hx hb dL_law_380 (by decide) (fun cz => ?_) (fun cz => ?_)
    · have hF := hF.1 cz
      refine lv_goto (tgt := 1951) hx hb dL_law_395 (by decide) ?_
      refine W.widen (k := k0 + 30) (n := n0 + 480) (by omega) (by omega) ?_
      exact hJ _ _ _ hF _ _ _ hP hD hS (lv_sub hl [2, 3, 4, 5, 6] rfl)
    · have hF := hF.2 cz
      refine lv_aload_n hx hb dL_law_383 rfl (lv_at hl 5 rfl) ?_
      refine lv_iconst (v := 0) hx hb dL_law_384 (by decide) ?_
      refine va_lald hx hb hK.1 hP 21 1 rfl rfl (show vp_in 0 1 from vp_in_nI (n := 0) (by omega) (by omega)) dL_law_385 ?_
      refine lv_iload hx hb dL_law_386 (lv_at hl 0 rfl) ?_
      refine lv_i2l hx hb dL_law_388 rfl ?_
      refine W.lcmp hx hb dL_law_389 ?_
      refine lv_if_eq (tgt := 395) hx hb dL_law_390 (by decide) (fun cz => ?_) (fun cz => ?_)
      · have hF := hF.1 cz
        refine lv_goto (tgt := 1951) hx hb dL_law_395 (by decide) ?_
        refine W.widen (k := k0 + 30) (n := n0 + 480) (by omega) (by omega) ?_
        exact hJ _ _ _ hF _ _ _ hP hD hS (lv_sub hl [2, 3, 4, 5, 6] rfl)
      · have hF := hF.2 cz
        refine lv_iconst (v := 0) hx hb dL_law_393 (by decide) ?_
        exact hF.elim
  · have hF := hF.2 cz
    refine lv_iconst (v := 0) hx hb dL_law_376 (by decide) ?_
    exact hF.elim
def wp_case3 (fu : Nat) (a1 : Int32) (σ : SX) (f : Nat → Int64) (u : FX) (K : SX → (Nat → Int64) → FX → Prop) : Prop := (wp_L_hole σ f a1 (fun r406 s406 f406 => (wp_X4_hole fu u.1 a1 (fun r418 s418 => (wp_X4_thrown ((s418, u.2).1) (fun r424 => ((r424 = r406 → ((¬ r406 = 0 → (K s406 f406 (s418, u.2))) ∧ (r406 = 0 → (((lg_cmp (f406 (0 : Int32).toNatClampNeg) r418.toInt64) = 0 → (K s406 f406 (s418, u.2))) ∧ (¬ (lg_cmp (f406 (0 : Int32).toNatClampNeg) r418.toInt64) = 0 → False))))) ∧ (¬ r424 = r406 → False))))))))
set_option maxHeartbeats 4000000 in
set_option maxRecDepth 100000 in
theorem m_case3 {p : Program} {e9 : Env} {s : State} {m : MethodId} {below : List Frame} {meth : Method} {c : Code} (l : Launch) (hl9 : l.stackTraces = false) {dC : Nat → ClassId} {dI : Nat → Nat → Nat} {h g : Nat → Nat} {cy : Nat → ClassId} {sa z ad : Nat → Nat} {o b L fu i k0 n0 : Nat} {xs : Nat → Int32} {A : Nat → Prop} {Q : State → Prop} {a0 a1 a2 : Int32}
  (hC : Cx p s m #[Value.ref b] meth c RL code 9 ret) (hK : kwX dC dI cy s) (hXS : XS sa s) (hXZ : XZ A s s.heap) (hN : NCL s) (hZ : ZF z ad A s s.heap) (hvk : vk_R "PegshoreHouseModel" 92 "std" (z 4) s) (hX : va_X b L xs s s.heap) (hbl : b < s.heap.size) (hbA : ¬ A b) (hA : ∀ q : Nat, s.heap.size ≤ q → A q)
  (hi1 : vp_in (nI i + 1) L) (hi2 : vp_in (nI i + 2) L) (hx1 : xs (nI i + 1).toNatClampNeg = a1) (hx2 : xs (nI i + 2).toNatClampNeg = a2) (hk0 : k0 + 30 ≤ 603072) (hn0 : n0 + 480 ≤ 7211114)
  (K : SX → (Nat → Int64) → FX → Prop) (hJ : ∀ σ f u, K σ f u → ∀ (H : Heap) (locs : List Loc) (ls : Array Slot), va_P (dC, dI) classes (wH h cy σ ++ ([(o, .inl (cy 1, 1, .inr (.inl f)))] ++ (wC g cy u.1 ++ (wl ad cy (z 0) (g 20) u.2.1 ++ (wl ad cy (z 0) (g 21) u.2.2.1 ++ (wl ad cy (z 0) (g 22) u.2.2.2.1 ++ wS g cy u.2.2.2.2)))))) H → va_D A (wH h cy σ ++ ([(o, .inl (cy 1, 1, .inr (.inl f)))] ++ (wC g cy u.1 ++ (wl ad cy (z 0) (g 20) u.2.1 ++ (wl ad cy (z 0) (g 21) u.2.2.1 ++ (wl ad cy (z 0) (g 22) u.2.2.2.1 ++ wS g cy u.2.2.2.2)))))) → va_S A s.heap H locs → lv_has ls 9 [(0, .ref b), (1, .ref (h 16)), (2, .ref (g 0)), (3, .ref o), (4, .int (nI i))] → W p l e9 room_1 s m #[Value.ref b] below meth c H locs (k0 + 30) (n0 + 480) Q (F0 m 1951 ls [])) (σ : SX) (f : Nat → Int64) (u : FX) (hF : wp_case3 fu a1 σ f u K) : ∀ (H : Heap) (locs : List Loc) (ls : Array Slot), va_P (dC, dI) classes (wH h cy σ ++ ([(o, .inl (cy 1, 1, .inr (.inl f)))] ++ (wC g cy u.1 ++ (wl ad cy (z 0) (g 20) u.2.1 ++ (wl ad cy (z 0) (g 21) u.2.2.1 ++ (wl ad cy (z 0) (g 22) u.2.2.2.1 ++ wS g cy u.2.2.2.2)))))) H → va_D A (wH h cy σ ++ ([(o, .inl (cy 1, 1, .inr (.inl f)))] ++ (wC g cy u.1 ++ (wl ad cy (z 0) (g 20) u.2.1 ++ (wl ad cy (z 0) (g 21) u.2.2.1 ++ (wl ad cy (z 0) (g 22) u.2.2.2.1 ++ wS g cy u.2.2.2.2)))))) → va_S A s.heap H locs → lv_has ls 9 [(0, .ref b), (1, .ref (h 16)), (2, .ref (g 0)), (3, .ref o), (4, .int (nI i))] → W p l e9 room_1 s m #[Value.ref b] below meth c H locs k0 n0 Q (F0 m 398 ls []) := by
  intro H locs ls hP hD hS hl
  have hx := hC.1
  have hb := hC.2.1
  have hml := hC.2.2.2.1
  have hown := hC.2.2.2.2.1
  have hts := hC.2.2.2.2.2.1
  unfold wp_case3 at hF
  refine lv_aload_n hx hb dL_law_398 rfl (lv_at hl 1 rfl) ?_
  refine lv_aload_n hx hb dL_law_399 rfl (lv_at hl 0 rfl) ?_
  refine lv_iload hx hb dL_law_400 (lv_at hl 4 rfl) ?_
  refine lv_iconst (v := 1) hx hb dL_law_402 (by decide) ?_
  refine lv_iadd hx hb dL_law_403 ?_
  refine va_sld hx hb hX hbl hbA hS hi1 dL_law_404 ?_
  rw [hx1]
  refine lv_aload_n hx hb dL_law_405 rfl (lv_at hl 3 rfl) ?_
  refine lwWrap (x := wO h cy o σ f) (wn := fun (u : SX × (Nat → Int64)) => wO h cy o u.1 u.2) (As := [.ref (h 16), .int a1, .ref o]) (rest := []) (fpA _ _ _) hC hK hXS hXZ hN hP hD hS hA (m_L_hole l hl9 dC dI h cy sa o _ σ f a1 _ hF) k_L_hole q566 ⟨rfl, rfl⟩ ⟨Nat.le_of_ble_eq_true rfl, Nat.le_of_ble_eq_true rfl⟩ hl.1 rfl rfl (Nat.le_of_ble_eq_true rfl) dL_law_406 ⟨by show _ ≤ 603072; omega, by show _ ≤ 7211114; omega⟩ (fun r406 v9 H1 locs hF hP1 hD1 hS => ?_)
  obtain ⟨s406, f406⟩ := v9
  have hP := va_P.perm (fpA _ _ _).symm hP1
  have hD := va_D.perm (fpA _ _ _).symm hD1
  generalize H1 = H at hP hS ⊢
  have hP : va_P (dC, dI) classes (wH h cy s406 ++ ([(o, .inl (cy 1, 1, .inr (.inl f406)))] ++ (wC g cy u.1 ++ (wl ad cy (z 0) (g 20) u.2.1 ++ (wl ad cy (z 0) (g 21) u.2.2.1 ++ (wl ad cy (z 0) (g 22) u.2.2.2.1 ++ wS g cy u.2.2.2.2)))))) H := hP
  have hD : va_D A (wH h cy s406 ++ ([(o, .inl (cy 1, 1, .inr (.inl f406)))] ++ (wC g cy u.1 ++ (wl ad cy (z 0) (g 20) u.2.1 ++ (wl ad cy (z 0) (g 21) u.2.2.1 ++ (wl ad cy (z 0) (g 22) u.2.2.2.1 ++ wS g cy u.2.2.2.2)))))) := hD
  refine lv_istore (lv' := [(5, .int r406), (0, .ref b), (1, .ref (h 16)), (2, .ref (g 0)), (3, .ref o), (4, .int (nI i))]) hx hb dL_law_409 hl (by decide) rfl (fun ls hl => ?_)
  refine lv_aload_n hx hb dL_law_411 rfl (lv_at hl 3 rfl) ?_
  refine lv_aload_n hx hb dL_law_412 rfl (lv_at hl 1 rfl) ?_
  refine lv_iload hx hb dL_law_413 (lv_at hl 5 rfl) ?_
  refine lv_iconst (v := 1) hx hb dL_law_415 (by decide) ?_
  refine lv_iadd hx hb dL_law_416 ?_
  refine va_sld hx hb hX hbl hbA hS hi1 dL_law_417 ?_
  rw [hx1]
  have hPc := fw_get (fp2 _ _ _ _) hP
  have hDc := fw_getD (fp2 _ _ _ _) hD
  have hFc := fw_free (fp2 _ _ _ _) hD hS hA
  refine cwVi (q0 := 0) (As := [.int a1]) (rest := []) hC hK hPc hDc rfl rfl hS hFc (m_X4_hole l dC dI g cy _ fu u.1 a1 _ hF) k_X4_hole q1151 ⟨rfl, rfl⟩ ⟨Nat.le_of_ble_eq_true rfl, Nat.le_of_ble_eq_true rfl⟩ hl.1 rfl rfl (Nat.le_of_ble_eq_true rfl) dL_law_418 ⟨by show _ ≤ 603072; omega, by show _ ≤ 7211114; omega⟩ (fun r418 s418 H1 locs hF hP9 hD9 hk1 hS => ?_)
  obtain ⟨hP1, hD1⟩ := fw_join (fp2 _ _ _ _) hP hD hk1 hFc hP9 hD9
  have hP := va_P.perm (fp2 _ _ _ _).symm hP1
  have hD := va_D.perm (fp2 _ _ _ _).symm hD1
  generalize H1 = H at hP hS ⊢
  have hP : va_P (dC, dI) classes (wH h cy s406 ++ ([(o, .inl (cy 1, 1, .inr (.inl f406)))] ++ (wC g cy (s418, u.2).1 ++ (wl ad cy (z 0) (g 20) (s418, u.2).2.1 ++ (wl ad cy (z 0) (g 21) (s418, u.2).2.2.1 ++ (wl ad cy (z 0) (g 22) (s418, u.2).2.2.2.1 ++ wS g cy (s418, u.2).2.2.2.2)))))) H := hP
  have hD : va_D A (wH h cy s406 ++ ([(o, .inl (cy 1, 1, .inr (.inl f406)))] ++ (wC g cy (s418, u.2).1 ++ (wl ad cy (z 0) (g 20) (s418, u.2).2.1 ++ (wl ad cy (z 0) (g 21) (s418, u.2).2.2.1 ++ (wl ad cy (z 0) (g 22) (s418, u.2).2.2.2.1 ++ wS g cy (s418, u.2).2.2.2.2)))))) := hD
  refine lv_istore (lv' := [(6, .int r418), (5, .int r406), (0, .ref b), (1, .ref (h 16)), (2, .ref (g 0)), (3, .ref o), (4, .int (nI i))]) hx hb dL_law_421 hl (by decide) rfl (fun ls hl => ?_)
  refine lv_aload_n hx hb dL_law_423 rfl (lv_at hl 4 rfl) ?_
  have hPc := fw_get (fp2 _ _ _ _) hP
  refine cpVi (q0 := 0) (As := []) (rest := []) hC hK hPc rfl rfl (m_X4_thrown l dC dI g cy ((s418, u.2).1) _ hF) k_X4_thrown q1009 ⟨rfl, rfl⟩ ⟨Nat.le_of_ble_eq_true rfl, Nat.le_of_ble_eq_true rfl⟩ hl.1 rfl rfl (Nat.le_of_ble_eq_true rfl) dL_law_424 ⟨by show _ ≤ 603072; omega, by show _ ≤ 7211114; omega⟩ (fun r424 hF => ?_)
  refine lv_iload hx hb dL_law_427 (lv_at hl 1 rfl) ?_
  refine lv_icmp_eq (tgt := 434) hx hb dL_law_429 (by decide) (fun cz => ?_) (fun cz => ?_)
  · have hF := hF.1 cz
    refine lv_iload hx hb dL_law_434 (lv_at hl 1 rfl) ?_
    refine lv_if_ne (tgt := 451) hx hb dL_law_436 (by decide) (fun cz => ?_) (fun cz => ?_)
    · have hF := hF.1 cz
      refine lv_goto (tgt := 1951) hx hb dL_law_451 (by decide) ?_
      refine W.widen (k := k0 + 30) (n := n0 + 480) (by omega) (by omega) ?_
      exact hJ _ _ _ hF _ _ _ hP hD hS (lv_sub hl [2, 3, 4, 5, 6] rfl)
    · have hF := hF.2 cz
      refine lv_aload_n hx hb dL_law_439 rfl (lv_at hl 5 rfl) ?_
      refine lv_iconst (v := 0) hx hb dL_law_440 (by decide) ?_
      refine va_lald hx hb hK.1 hP 21 1 rfl rfl (show vp_in 0 1 from vp_in_nI (n := 0) (by omega) (by omega)) dL_law_441 ?_
      refine lv_iload hx hb dL_law_442 (lv_at hl 0 rfl) ?_
      refine lv_i2l hx hb dL_law_444 rfl ?_
      refine W.lcmp hx hb dL_law_445 ?_
      refine lv_if_eq (tgt := 451) hx hb dL_law_446 (by decide) (fun cz => ?_) (fun cz => ?_)
      · have hF := hF.1 cz
        refine lv_goto (tgt := 1951) hx hb dL_law_451 (by decide) ?_
        refine W.widen (k := k0 + 30) (n := n0 + 480) (by omega) (by omega) ?_
        exact hJ _ _ _ hF _ _ _ hP hD hS (lv_sub hl [2, 3, 4, 5, 6] rfl)
      · have hF := hF.2 cz
        refine lv_iconst (v := 0) hx hb dL_law_449 (by decide) ?_
        exact hF.elim
  · have hF := hF.2 cz
    refine lv_iconst (v := 0) hx hb dL_law_432 (by decide) ?_
    exact hF.elim
def wp_case4 (a1 : Int32) (σ : SX) (f : Nat → Int64) (u : FX) (K : SX → (Nat → Int64) → FX → Prop) : Prop := (wp_L_cell σ f a1 (fun r462 s462 f462 => (wp_X4_cell u.1 a1 (fun r474 s474 => (wp_X4_thrown ((s474, u.2).1) (fun r480 => ((r480 = r462 → ((¬ r462 = 0 → (K s462 f462 (s474, u.2))) ∧ (r462 = 0 → (((lg_cmp (f462 (0 : Int32).toNatClampNeg) r474.toInt64) = 0 → (K s462 f462 (s474, u.2))) ∧ (¬ (lg_cmp (f462 (0 : Int32).toNatClampNeg) r474.toInt64) = 0 → False))))) ∧ (¬ r480 = r462 → False))))))))
set_option maxHeartbeats 4000000 in
set_option maxRecDepth 100000 in
theorem m_case4 {p : Program} {e9 : Env} {s : State} {m : MethodId} {below : List Frame} {meth : Method} {c : Code} (l : Launch) (hl9 : l.stackTraces = false) {dC : Nat → ClassId} {dI : Nat → Nat → Nat} {h g : Nat → Nat} {cy : Nat → ClassId} {sa z ad : Nat → Nat} {o b L fu i k0 n0 : Nat} {xs : Nat → Int32} {A : Nat → Prop} {Q : State → Prop} {a0 a1 a2 : Int32}
  (hC : Cx p s m #[Value.ref b] meth c RL code 9 ret) (hK : kwX dC dI cy s) (hXS : XS sa s) (hXZ : XZ A s s.heap) (hN : NCL s) (hZ : ZF z ad A s s.heap) (hvk : vk_R "PegshoreHouseModel" 92 "std" (z 4) s) (hX : va_X b L xs s s.heap) (hbl : b < s.heap.size) (hbA : ¬ A b) (hA : ∀ q : Nat, s.heap.size ≤ q → A q)
  (hi1 : vp_in (nI i + 1) L) (hi2 : vp_in (nI i + 2) L) (hx1 : xs (nI i + 1).toNatClampNeg = a1) (hx2 : xs (nI i + 2).toNatClampNeg = a2) (hk0 : k0 + 30 ≤ 603072) (hn0 : n0 + 480 ≤ 7211114)
  (K : SX → (Nat → Int64) → FX → Prop) (hJ : ∀ σ f u, K σ f u → ∀ (H : Heap) (locs : List Loc) (ls : Array Slot), va_P (dC, dI) classes (wH h cy σ ++ ([(o, .inl (cy 1, 1, .inr (.inl f)))] ++ (wC g cy u.1 ++ (wl ad cy (z 0) (g 20) u.2.1 ++ (wl ad cy (z 0) (g 21) u.2.2.1 ++ (wl ad cy (z 0) (g 22) u.2.2.2.1 ++ wS g cy u.2.2.2.2)))))) H → va_D A (wH h cy σ ++ ([(o, .inl (cy 1, 1, .inr (.inl f)))] ++ (wC g cy u.1 ++ (wl ad cy (z 0) (g 20) u.2.1 ++ (wl ad cy (z 0) (g 21) u.2.2.1 ++ (wl ad cy (z 0) (g 22) u.2.2.2.1 ++ wS g cy u.2.2.2.2)))))) → va_S A s.heap H locs → lv_has ls 9 [(0, .ref b), (1, .ref (h 16)), (2, .ref (g 0)), (3, .ref o), (4, .int (nI i))] → W p l e9 room_1 s m #[Value.ref b] below meth c H locs (k0 + 30) (n0 + 480) Q (F0 m 1951 ls [])) (σ : SX) (f : Nat → Int64) (u : FX) (hF : wp_case4 a1 σ f u K) : ∀ (H : Heap) (locs : List Loc) (ls : Array Slot), va_P (dC, dI) classes (wH h cy σ ++ ([(o, .inl (cy 1, 1, .inr (.inl f)))] ++ (wC g cy u.1 ++ (wl ad cy (z 0) (g 20) u.2.1 ++ (wl ad cy (z 0) (g 21) u.2.2.1 ++ (wl ad cy (z 0) (g 22) u.2.2.2.1 ++ wS g cy u.2.2.2.2)))))) H → va_D A (wH h cy σ ++ ([(o, .inl (cy 1, 1, .inr (.inl f)))] ++ (wC g cy u.1 ++ (wl ad cy (z 0) (g 20) u.2.1 ++ (wl ad cy (z 0) (g 21) u.2.2.1 ++ (wl ad cy (z 0) (g 22) u.2.2.2.1 ++ wS g cy u.2.2.2.2)))))) → va_S A s.heap H locs → lv_has ls 9 [(0, .ref b), (1, .ref (h 16)), (2, .ref (g 0)), (3, .ref o), (4, .int (nI i))] → W p l e9 room_1 s m #[Value.ref b] below meth c H locs k0 n0 Q (F0 m 454 ls []) := by
  intro H locs ls hP hD hS hl
  have hx := hC.1
  have hb := hC.2.1
  have hml := hC.2.2.2.1
  have hown := hC.2.2.2.2.1
  have hts := hC.2.2.2.2.2.1
  unfold wp_case4 at hF
  refine lv_aload_n hx hb dL_law_454 rfl (lv_at hl 1 rfl) ?_
  refine lv_aload_n hx hb dL_law_455 rfl (lv_at hl 0 rfl) ?_
  refine lv_iload hx hb dL_law_456 (lv_at hl 4 rfl) ?_
  refine lv_iconst (v := 1) hx hb dL_law_458 (by decide) ?_
  refine lv_iadd hx hb dL_law_459 ?_
  refine va_sld hx hb hX hbl hbA hS hi1 dL_law_460 ?_
  rw [hx1]
  refine lv_aload_n hx hb dL_law_461 rfl (lv_at hl 3 rfl) ?_
  refine lwWrap (x := wO h cy o σ f) (wn := fun (u : SX × (Nat → Int64)) => wO h cy o u.1 u.2) (As := [.ref (h 16), .int a1, .ref o]) (rest := []) (fpA _ _ _) hC hK hXS hXZ hN hP hD hS hA (m_L_cell l hl9 dC dI h cy sa o _ σ f a1 _ hF) k_L_cell q589 ⟨rfl, rfl⟩ ⟨Nat.le_of_ble_eq_true rfl, Nat.le_of_ble_eq_true rfl⟩ hl.1 rfl rfl (Nat.le_of_ble_eq_true rfl) dL_law_462 ⟨by show _ ≤ 603072; omega, by show _ ≤ 7211114; omega⟩ (fun r462 v9 H1 locs hF hP1 hD1 hS => ?_)
  obtain ⟨s462, f462⟩ := v9
  have hP := va_P.perm (fpA _ _ _).symm hP1
  have hD := va_D.perm (fpA _ _ _).symm hD1
  generalize H1 = H at hP hS ⊢
  have hP : va_P (dC, dI) classes (wH h cy s462 ++ ([(o, .inl (cy 1, 1, .inr (.inl f462)))] ++ (wC g cy u.1 ++ (wl ad cy (z 0) (g 20) u.2.1 ++ (wl ad cy (z 0) (g 21) u.2.2.1 ++ (wl ad cy (z 0) (g 22) u.2.2.2.1 ++ wS g cy u.2.2.2.2)))))) H := hP
  have hD : va_D A (wH h cy s462 ++ ([(o, .inl (cy 1, 1, .inr (.inl f462)))] ++ (wC g cy u.1 ++ (wl ad cy (z 0) (g 20) u.2.1 ++ (wl ad cy (z 0) (g 21) u.2.2.1 ++ (wl ad cy (z 0) (g 22) u.2.2.2.1 ++ wS g cy u.2.2.2.2)))))) := hD
  refine lv_istore (lv' := [(5, .int r462), (0, .ref b), (1, .ref (h 16)), (2, .ref (g 0)), (3, .ref o), (4, .int (nI i))]) hx hb dL_law_465 hl (by decide) rfl (fun ls hl => ?_)
  refine lv_aload_n hx hb dL_law_467 rfl (lv_at hl 3 rfl) ?_
  refine lv_aload_n hx hb dL_law_468 rfl (lv_at hl 1 rfl) ?_
  refine lv_iload hx hb dL_law_469 (lv_at hl 5 rfl) ?_
  refine lv_iconst (v := 1) hx hb dL_law_471 (by decide) ?_
  refine lv_iadd hx hb dL_law_472 ?_
  refine va_sld hx hb hX hbl hbA hS hi1 dL_law_473 ?_
  rw [hx1]
  have hPc := fw_get (fp2 _ _ _ _) hP
  have hDc := fw_getD (fp2 _ _ _ _) hD
  have hFc := fw_free (fp2 _ _ _ _) hD hS hA
  refine cwVi (q0 := 0) (As := [.int a1]) (rest := []) hC hK hPc hDc rfl rfl hS hFc (m_X4_cell l dC dI g cy _ u.1 a1 _ hF) k_X4_cell q1155 ⟨rfl, rfl⟩ ⟨Nat.le_of_ble_eq_true rfl, Nat.le_of_ble_eq_true rfl⟩ hl.1 rfl rfl (Nat.le_of_ble_eq_true rfl) dL_law_474 ⟨by show _ ≤ 603072; omega, by show _ ≤ 7211114; omega⟩ (fun r474 s474 H1 locs hF hP9 hD9 hk1 hS => ?_)
  obtain ⟨hP1, hD1⟩ := fw_join (fp2 _ _ _ _) hP hD hk1 hFc hP9 hD9
  have hP := va_P.perm (fp2 _ _ _ _).symm hP1
  have hD := va_D.perm (fp2 _ _ _ _).symm hD1
  generalize H1 = H at hP hS ⊢
  have hP : va_P (dC, dI) classes (wH h cy s462 ++ ([(o, .inl (cy 1, 1, .inr (.inl f462)))] ++ (wC g cy (s474, u.2).1 ++ (wl ad cy (z 0) (g 20) (s474, u.2).2.1 ++ (wl ad cy (z 0) (g 21) (s474, u.2).2.2.1 ++ (wl ad cy (z 0) (g 22) (s474, u.2).2.2.2.1 ++ wS g cy (s474, u.2).2.2.2.2)))))) H := hP
  have hD : va_D A (wH h cy s462 ++ ([(o, .inl (cy 1, 1, .inr (.inl f462)))] ++ (wC g cy (s474, u.2).1 ++ (wl ad cy (z 0) (g 20) (s474, u.2).2.1 ++ (wl ad cy (z 0) (g 21) (s474, u.2).2.2.1 ++ (wl ad cy (z 0) (g 22) (s474, u.2).2.2.2.1 ++ wS g cy (s474, u.2).2.2.2.2)))))) := hD
  refine lv_istore (lv' := [(6, .int r474), (5, .int r462), (0, .ref b), (1, .ref (h 16)), (2, .ref (g 0)), (3, .ref o), (4, .int (nI i))]) hx hb dL_law_477 hl (by decide) rfl (fun ls hl => ?_)
  refine lv_aload_n hx hb dL_law_479 rfl (lv_at hl 4 rfl) ?_
  have hPc := fw_get (fp2 _ _ _ _) hP
  refine cpVi (q0 := 0) (As := []) (rest := []) hC hK hPc rfl rfl (m_X4_thrown l dC dI g cy ((s474, u.2).1) _ hF) k_X4_thrown q1009 ⟨rfl, rfl⟩ ⟨Nat.le_of_ble_eq_true rfl, Nat.le_of_ble_eq_true rfl⟩ hl.1 rfl rfl (Nat.le_of_ble_eq_true rfl) dL_law_480 ⟨by show _ ≤ 603072; omega, by show _ ≤ 7211114; omega⟩ (fun r480 hF => ?_)
  refine lv_iload hx hb dL_law_483 (lv_at hl 1 rfl) ?_
  refine lv_icmp_eq (tgt := 490) hx hb dL_law_485 (by decide) (fun cz => ?_) (fun cz => ?_)
  · have hF := hF.1 cz
    refine lv_iload hx hb dL_law_490 (lv_at hl 1 rfl) ?_
    refine lv_if_ne (tgt := 507) hx hb dL_law_492 (by decide) (fun cz => ?_) (fun cz => ?_)
    · have hF := hF.1 cz
      refine lv_goto (tgt := 1951) hx hb dL_law_507 (by decide) ?_
      refine W.widen (k := k0 + 30) (n := n0 + 480) (by omega) (by omega) ?_
      exact hJ _ _ _ hF _ _ _ hP hD hS (lv_sub hl [2, 3, 4, 5, 6] rfl)
    · have hF := hF.2 cz
      refine lv_aload_n hx hb dL_law_495 rfl (lv_at hl 5 rfl) ?_
      refine lv_iconst (v := 0) hx hb dL_law_496 (by decide) ?_
      refine va_lald hx hb hK.1 hP 21 1 rfl rfl (show vp_in 0 1 from vp_in_nI (n := 0) (by omega) (by omega)) dL_law_497 ?_
      refine lv_iload hx hb dL_law_498 (lv_at hl 0 rfl) ?_
      refine lv_i2l hx hb dL_law_500 rfl ?_
      refine W.lcmp hx hb dL_law_501 ?_
      refine lv_if_eq (tgt := 507) hx hb dL_law_502 (by decide) (fun cz => ?_) (fun cz => ?_)
      · have hF := hF.1 cz
        refine lv_goto (tgt := 1951) hx hb dL_law_507 (by decide) ?_
        refine W.widen (k := k0 + 30) (n := n0 + 480) (by omega) (by omega) ?_
        exact hJ _ _ _ hF _ _ _ hP hD hS (lv_sub hl [2, 3, 4, 5, 6] rfl)
      · have hF := hF.2 cz
        refine lv_iconst (v := 0) hx hb dL_law_505 (by decide) ?_
        exact hF.elim
  · have hF := hF.2 cz
    refine lv_iconst (v := 0) hx hb dL_law_488 (by decide) ?_
    exact hF.elim
def wp_case5 (σ : SX) (f : Nat → Int64) (u : FX) (K : SX → (Nat → Int64) → FX → Prop) : Prop := (wp_X3_lines σ (fun r511 => (wp_X4_lines u.1 (fun r515 s515 => ((r511 = r515 → (K σ f (s515, u.2))) ∧ (¬ r511 = r515 → False))))))
set_option maxHeartbeats 4000000 in
set_option maxRecDepth 100000 in
theorem m_case5 {p : Program} {e9 : Env} {s : State} {m : MethodId} {below : List Frame} {meth : Method} {c : Code} (l : Launch) (hl9 : l.stackTraces = false) {dC : Nat → ClassId} {dI : Nat → Nat → Nat} {h g : Nat → Nat} {cy : Nat → ClassId} {sa z ad : Nat → Nat} {o b L fu i k0 n0 : Nat} {xs : Nat → Int32} {A : Nat → Prop} {Q : State → Prop} {a0 a1 a2 : Int32}
  (hC : Cx p s m #[Value.ref b] meth c RL code 9 ret) (hK : kwX dC dI cy s) (hXS : XS sa s) (hXZ : XZ A s s.heap) (hN : NCL s) (hZ : ZF z ad A s s.heap) (hvk : vk_R "PegshoreHouseModel" 92 "std" (z 4) s) (hX : va_X b L xs s s.heap) (hbl : b < s.heap.size) (hbA : ¬ A b) (hA : ∀ q : Nat, s.heap.size ≤ q → A q)
  (hi1 : vp_in (nI i + 1) L) (hi2 : vp_in (nI i + 2) L) (hx1 : xs (nI i + 1).toNatClampNeg = a1) (hx2 : xs (nI i + 2).toNatClampNeg = a2) (hk0 : k0 + 30 ≤ 603072) (hn0 : n0 + 480 ≤ 7211114)
  (K : SX → (Nat → Int64) → FX → Prop) (hJ : ∀ σ f u, K σ f u → ∀ (H : Heap) (locs : List Loc) (ls : Array Slot), va_P (dC, dI) classes (wH h cy σ ++ ([(o, .inl (cy 1, 1, .inr (.inl f)))] ++ (wC g cy u.1 ++ (wl ad cy (z 0) (g 20) u.2.1 ++ (wl ad cy (z 0) (g 21) u.2.2.1 ++ (wl ad cy (z 0) (g 22) u.2.2.2.1 ++ wS g cy u.2.2.2.2)))))) H → va_D A (wH h cy σ ++ ([(o, .inl (cy 1, 1, .inr (.inl f)))] ++ (wC g cy u.1 ++ (wl ad cy (z 0) (g 20) u.2.1 ++ (wl ad cy (z 0) (g 21) u.2.2.1 ++ (wl ad cy (z 0) (g 22) u.2.2.2.1 ++ wS g cy u.2.2.2.2)))))) → va_S A s.heap H locs → lv_has ls 9 [(0, .ref b), (1, .ref (h 16)), (2, .ref (g 0)), (3, .ref o), (4, .int (nI i))] → W p l e9 room_1 s m #[Value.ref b] below meth c H locs (k0 + 30) (n0 + 480) Q (F0 m 1951 ls [])) (σ : SX) (f : Nat → Int64) (u : FX) (hF : wp_case5 σ f u K) : ∀ (H : Heap) (locs : List Loc) (ls : Array Slot), va_P (dC, dI) classes (wH h cy σ ++ ([(o, .inl (cy 1, 1, .inr (.inl f)))] ++ (wC g cy u.1 ++ (wl ad cy (z 0) (g 20) u.2.1 ++ (wl ad cy (z 0) (g 21) u.2.2.1 ++ (wl ad cy (z 0) (g 22) u.2.2.2.1 ++ wS g cy u.2.2.2.2)))))) H → va_D A (wH h cy σ ++ ([(o, .inl (cy 1, 1, .inr (.inl f)))] ++ (wC g cy u.1 ++ (wl ad cy (z 0) (g 20) u.2.1 ++ (wl ad cy (z 0) (g 21) u.2.2.1 ++ (wl ad cy (z 0) (g 22) u.2.2.2.1 ++ wS g cy u.2.2.2.2)))))) → va_S A s.heap H locs → lv_has ls 9 [(0, .ref b), (1, .ref (h 16)), (2, .ref (g 0)), (3, .ref o), (4, .int (nI i))] → W p l e9 room_1 s m #[Value.ref b] below meth c H locs k0 n0 Q (F0 m 510 ls []) := by
  intro H locs ls hP hD hS hl
  have hx := hC.1
  have hb := hC.2.1
  have hml := hC.2.2.2.1
  have hown := hC.2.2.2.2.1
  have hts := hC.2.2.2.2.2.1
  unfold wp_case5 at hF
  refine lv_aload_n hx hb dL_law_510 rfl (lv_at hl 1 rfl) ?_
  have hPc := fw_get (fp0 _ _) hP
  refine cpVi (q0 := 16) (As := []) (rest := []) hC hK hPc rfl rfl (m_X3_lines l dC dI h cy σ _ hF) k_X3_lines q160 ⟨rfl, rfl⟩ ⟨Nat.le_of_ble_eq_true rfl, Nat.le_of_ble_eq_true rfl⟩ hl.1 rfl rfl (Nat.le_of_ble_eq_true rfl) dL_law_511 ⟨by show _ ≤ 603072; omega, by show _ ≤ 7211114; omega⟩ (fun r511 hF => ?_)
  refine lv_aload_n hx hb dL_law_514 rfl (lv_at hl 2 rfl) ?_
  have hPc := fw_get (fp2 _ _ _ _) hP
  have hDc := fw_getD (fp2 _ _ _ _) hD
  have hFc := fw_free (fp2 _ _ _ _) hD hS hA
  refine cwVi (q0 := 0) (As := []) (rest := [.int r511]) hC hK hPc hDc rfl rfl hS hFc (m_X4_lines l dC dI g cy _ u.1 _ hF) k_X4_lines q1163 ⟨rfl, rfl⟩ ⟨Nat.le_of_ble_eq_true rfl, Nat.le_of_ble_eq_true rfl⟩ hl.1 rfl rfl (Nat.le_of_ble_eq_true rfl) dL_law_515 ⟨by show _ ≤ 603072; omega, by show _ ≤ 7211114; omega⟩ (fun r515 s515 H1 locs hF hP9 hD9 hk1 hS => ?_)
  obtain ⟨hP1, hD1⟩ := fw_join (fp2 _ _ _ _) hP hD hk1 hFc hP9 hD9
  have hP := va_P.perm (fp2 _ _ _ _).symm hP1
  have hD := va_D.perm (fp2 _ _ _ _).symm hD1
  generalize H1 = H at hP hS ⊢
  have hP : va_P (dC, dI) classes (wH h cy σ ++ ([(o, .inl (cy 1, 1, .inr (.inl f)))] ++ (wC g cy (s515, u.2).1 ++ (wl ad cy (z 0) (g 20) (s515, u.2).2.1 ++ (wl ad cy (z 0) (g 21) (s515, u.2).2.2.1 ++ (wl ad cy (z 0) (g 22) (s515, u.2).2.2.2.1 ++ wS g cy (s515, u.2).2.2.2.2)))))) H := hP
  have hD : va_D A (wH h cy σ ++ ([(o, .inl (cy 1, 1, .inr (.inl f)))] ++ (wC g cy (s515, u.2).1 ++ (wl ad cy (z 0) (g 20) (s515, u.2).2.1 ++ (wl ad cy (z 0) (g 21) (s515, u.2).2.2.1 ++ (wl ad cy (z 0) (g 22) (s515, u.2).2.2.2.1 ++ wS g cy (s515, u.2).2.2.2.2)))))) := hD
  refine lv_icmp_eq (tgt := 1951) hx hb dL_law_518 (by decide) (fun cz => ?_) (fun cz => ?_)
  · have hF := hF.1 cz
    refine W.widen (k := k0 + 30) (n := n0 + 480) (by omega) (by omega) ?_
    exact hJ _ _ _ hF _ _ _ hP hD hS (lv_sub hl [0, 1, 2, 3, 4] rfl)
  · have hF := hF.2 cz
    refine lv_iconst (v := 0) hx hb dL_law_521 (by decide) ?_
    exact hF.elim
def wp_case6 (fu : Nat) (σ : SX) (f : Nat → Int64) (u : FX) (K : SX → (Nat → Int64) → FX → Prop) : Prop := (wp_X3_symmetries fu σ (fun r524 => (wp_X4_symmetries fu u.1 (fun r528 s528 => ((r524 = r528 → (K σ f (s528, u.2))) ∧ (¬ r524 = r528 → False))))))
set_option maxHeartbeats 4000000 in
set_option maxRecDepth 100000 in
theorem m_case6 {p : Program} {e9 : Env} {s : State} {m : MethodId} {below : List Frame} {meth : Method} {c : Code} (l : Launch) (hl9 : l.stackTraces = false) {dC : Nat → ClassId} {dI : Nat → Nat → Nat} {h g : Nat → Nat} {cy : Nat → ClassId} {sa z ad : Nat → Nat} {o b L fu i k0 n0 : Nat} {xs : Nat → Int32} {A : Nat → Prop} {Q : State → Prop} {a0 a1 a2 : Int32}
  (hC : Cx p s m #[Value.ref b] meth c RL code 9 ret) (hK : kwX dC dI cy s) (hXS : XS sa s) (hXZ : XZ A s s.heap) (hN : NCL s) (hZ : ZF z ad A s s.heap) (hvk : vk_R "PegshoreHouseModel" 92 "std" (z 4) s) (hX : va_X b L xs s s.heap) (hbl : b < s.heap.size) (hbA : ¬ A b) (hA : ∀ q : Nat, s.heap.size ≤ q → A q)
  (hi1 : vp_in (nI i + 1) L) (hi2 : vp_in (nI i + 2) L) (hx1 : xs (nI i + 1).toNatClampNeg = a1) (hx2 : xs (nI i + 2).toNatClampNeg = a2) (hk0 : k0 + 30 ≤ 603072) (hn0 : n0 + 480 ≤ 7211114)
  (K : SX → (Nat → Int64) → FX → Prop) (hJ : ∀ σ f u, K σ f u → ∀ (H : Heap) (locs : List Loc) (ls : Array Slot), va_P (dC, dI) classes (wH h cy σ ++ ([(o, .inl (cy 1, 1, .inr (.inl f)))] ++ (wC g cy u.1 ++ (wl ad cy (z 0) (g 20) u.2.1 ++ (wl ad cy (z 0) (g 21) u.2.2.1 ++ (wl ad cy (z 0) (g 22) u.2.2.2.1 ++ wS g cy u.2.2.2.2)))))) H → va_D A (wH h cy σ ++ ([(o, .inl (cy 1, 1, .inr (.inl f)))] ++ (wC g cy u.1 ++ (wl ad cy (z 0) (g 20) u.2.1 ++ (wl ad cy (z 0) (g 21) u.2.2.1 ++ (wl ad cy (z 0) (g 22) u.2.2.2.1 ++ wS g cy u.2.2.2.2)))))) → va_S A s.heap H locs → lv_has ls 9 [(0, .ref b), (1, .ref (h 16)), (2, .ref (g 0)), (3, .ref o), (4, .int (nI i))] → W p l e9 room_1 s m #[Value.ref b] below meth c H locs (k0 + 30) (n0 + 480) Q (F0 m 1951 ls [])) (σ : SX) (f : Nat → Int64) (u : FX) (hF : wp_case6 fu σ f u K) : ∀ (H : Heap) (locs : List Loc) (ls : Array Slot), va_P (dC, dI) classes (wH h cy σ ++ ([(o, .inl (cy 1, 1, .inr (.inl f)))] ++ (wC g cy u.1 ++ (wl ad cy (z 0) (g 20) u.2.1 ++ (wl ad cy (z 0) (g 21) u.2.2.1 ++ (wl ad cy (z 0) (g 22) u.2.2.2.1 ++ wS g cy u.2.2.2.2)))))) H → va_D A (wH h cy σ ++ ([(o, .inl (cy 1, 1, .inr (.inl f)))] ++ (wC g cy u.1 ++ (wl ad cy (z 0) (g 20) u.2.1 ++ (wl ad cy (z 0) (g 21) u.2.2.1 ++ (wl ad cy (z 0) (g 22) u.2.2.2.1 ++ wS g cy u.2.2.2.2)))))) → va_S A s.heap H locs → lv_has ls 9 [(0, .ref b), (1, .ref (h 16)), (2, .ref (g 0)), (3, .ref o), (4, .int (nI i))] → W p l e9 room_1 s m #[Value.ref b] below meth c H locs k0 n0 Q (F0 m 523 ls []) := by
  intro H locs ls hP hD hS hl
  have hx := hC.1
  have hb := hC.2.1
  have hml := hC.2.2.2.1
  have hown := hC.2.2.2.2.1
  have hts := hC.2.2.2.2.2.1
  unfold wp_case6 at hF
  refine lv_aload_n hx hb dL_law_523 rfl (lv_at hl 1 rfl) ?_
  have hPc := fw_get (fp0 _ _) hP
  refine cpVi (q0 := 16) (As := []) (rest := []) hC hK hPc rfl rfl (m_X3_symmetries l dC dI h cy fu σ _ hF) k_X3_symmetries q172 ⟨rfl, rfl⟩ ⟨Nat.le_of_ble_eq_true rfl, Nat.le_of_ble_eq_true rfl⟩ hl.1 rfl rfl (Nat.le_of_ble_eq_true rfl) dL_law_524 ⟨by show _ ≤ 603072; omega, by show _ ≤ 7211114; omega⟩ (fun r524 hF => ?_)
  refine lv_aload_n hx hb dL_law_527 rfl (lv_at hl 2 rfl) ?_
  have hPc := fw_get (fp2 _ _ _ _) hP
  have hDc := fw_getD (fp2 _ _ _ _) hD
  have hFc := fw_free (fp2 _ _ _ _) hD hS hA
  refine cwVi (q0 := 0) (As := []) (rest := [.int r524]) hC hK hPc hDc rfl rfl hS hFc (m_X4_symmetries l dC dI g cy _ fu u.1 _ hF) k_X4_symmetries q1167 ⟨rfl, rfl⟩ ⟨Nat.le_of_ble_eq_true rfl, Nat.le_of_ble_eq_true rfl⟩ hl.1 rfl rfl (Nat.le_of_ble_eq_true rfl) dL_law_528 ⟨by show _ ≤ 603072; omega, by show _ ≤ 7211114; omega⟩ (fun r528 s528 H1 locs hF hP9 hD9 hk1 hS => ?_)
  obtain ⟨hP1, hD1⟩ := fw_join (fp2 _ _ _ _) hP hD hk1 hFc hP9 hD9
  have hP := va_P.perm (fp2 _ _ _ _).symm hP1
  have hD := va_D.perm (fp2 _ _ _ _).symm hD1
  generalize H1 = H at hP hS ⊢
  have hP : va_P (dC, dI) classes (wH h cy σ ++ ([(o, .inl (cy 1, 1, .inr (.inl f)))] ++ (wC g cy (s528, u.2).1 ++ (wl ad cy (z 0) (g 20) (s528, u.2).2.1 ++ (wl ad cy (z 0) (g 21) (s528, u.2).2.2.1 ++ (wl ad cy (z 0) (g 22) (s528, u.2).2.2.2.1 ++ wS g cy (s528, u.2).2.2.2.2)))))) H := hP
  have hD : va_D A (wH h cy σ ++ ([(o, .inl (cy 1, 1, .inr (.inl f)))] ++ (wC g cy (s528, u.2).1 ++ (wl ad cy (z 0) (g 20) (s528, u.2).2.1 ++ (wl ad cy (z 0) (g 21) (s528, u.2).2.2.1 ++ (wl ad cy (z 0) (g 22) (s528, u.2).2.2.2.1 ++ wS g cy (s528, u.2).2.2.2.2)))))) := hD
  refine lv_icmp_eq (tgt := 1951) hx hb dL_law_531 (by decide) (fun cz => ?_) (fun cz => ?_)
  · have hF := hF.1 cz
    refine W.widen (k := k0 + 30) (n := n0 + 480) (by omega) (by omega) ?_
    exact hJ _ _ _ hF _ _ _ hP hD hS (lv_sub hl [0, 1, 2, 3, 4] rfl)
  · have hF := hF.2 cz
    refine lv_iconst (v := 0) hx hb dL_law_534 (by decide) ?_
    exact hF.elim
def wp_case7 (a1 : Int32) (σ : SX) (f : Nat → Int64) (u : FX) (K : SX → (Nat → Int64) → FX → Prop) : Prop := (wp_L_put σ f a1 (fun r544 s544 f544 => (wp_X4_put u a1 (fun r556 s556 => (wp_X4_thrown s556.1 (fun r562 => ((r562 = r544 → ((¬ r544 = 0 → (K s544 f544 s556)) ∧ (r544 = 0 → (((lg_cmp (f544 (0 : Int32).toNatClampNeg) r556.toInt64) = 0 → (K s544 f544 s556)) ∧ (¬ (lg_cmp (f544 (0 : Int32).toNatClampNeg) r556.toInt64) = 0 → False))))) ∧ (¬ r562 = r544 → False))))))))
set_option maxHeartbeats 4000000 in
set_option maxRecDepth 100000 in
theorem m_case7 {p : Program} {e9 : Env} {s : State} {m : MethodId} {below : List Frame} {meth : Method} {c : Code} (l : Launch) (hl9 : l.stackTraces = false) {dC : Nat → ClassId} {dI : Nat → Nat → Nat} {h g : Nat → Nat} {cy : Nat → ClassId} {sa z ad : Nat → Nat} {o b L fu i k0 n0 : Nat} {xs : Nat → Int32} {A : Nat → Prop} {Q : State → Prop} {a0 a1 a2 : Int32}
  (hC : Cx p s m #[Value.ref b] meth c RL code 9 ret) (hK : kwX dC dI cy s) (hXS : XS sa s) (hXZ : XZ A s s.heap) (hN : NCL s) (hZ : ZF z ad A s s.heap) (hvk : vk_R "PegshoreHouseModel" 92 "std" (z 4) s) (hX : va_X b L xs s s.heap) (hbl : b < s.heap.size) (hbA : ¬ A b) (hA : ∀ q : Nat, s.heap.size ≤ q → A q)
  (hi1 : vp_in (nI i + 1) L) (hi2 : vp_in (nI i + 2) L) (hx1 : xs (nI i + 1).toNatClampNeg = a1) (hx2 : xs (nI i + 2).toNatClampNeg = a2) (hk0 : k0 + 30 ≤ 603072) (hn0 : n0 + 480 ≤ 7211114)
  (K : SX → (Nat → Int64) → FX → Prop) (hJ : ∀ σ f u, K σ f u → ∀ (H : Heap) (locs : List Loc) (ls : Array Slot), va_P (dC, dI) classes (wH h cy σ ++ ([(o, .inl (cy 1, 1, .inr (.inl f)))] ++ (wC g cy u.1 ++ (wl ad cy (z 0) (g 20) u.2.1 ++ (wl ad cy (z 0) (g 21) u.2.2.1 ++ (wl ad cy (z 0) (g 22) u.2.2.2.1 ++ wS g cy u.2.2.2.2)))))) H → va_D A (wH h cy σ ++ ([(o, .inl (cy 1, 1, .inr (.inl f)))] ++ (wC g cy u.1 ++ (wl ad cy (z 0) (g 20) u.2.1 ++ (wl ad cy (z 0) (g 21) u.2.2.1 ++ (wl ad cy (z 0) (g 22) u.2.2.2.1 ++ wS g cy u.2.2.2.2)))))) → va_S A s.heap H locs → lv_has ls 9 [(0, .ref b), (1, .ref (h 16)), (2, .ref (g 0)), (3, .ref o), (4, .int (nI i))] → W p l e9 room_1 s m #[Value.ref b] below meth c H locs (k0 + 30) (n0 + 480) Q (F0 m 1951 ls [])) (σ : SX) (f : Nat → Int64) (u : FX) (hF : wp_case7 a1 σ f u K) : ∀ (H : Heap) (locs : List Loc) (ls : Array Slot), va_P (dC, dI) classes (wH h cy σ ++ ([(o, .inl (cy 1, 1, .inr (.inl f)))] ++ (wC g cy u.1 ++ (wl ad cy (z 0) (g 20) u.2.1 ++ (wl ad cy (z 0) (g 21) u.2.2.1 ++ (wl ad cy (z 0) (g 22) u.2.2.2.1 ++ wS g cy u.2.2.2.2)))))) H → va_D A (wH h cy σ ++ ([(o, .inl (cy 1, 1, .inr (.inl f)))] ++ (wC g cy u.1 ++ (wl ad cy (z 0) (g 20) u.2.1 ++ (wl ad cy (z 0) (g 21) u.2.2.1 ++ (wl ad cy (z 0) (g 22) u.2.2.2.1 ++ wS g cy u.2.2.2.2)))))) → va_S A s.heap H locs → lv_has ls 9 [(0, .ref b), (1, .ref (h 16)), (2, .ref (g 0)), (3, .ref o), (4, .int (nI i))] → W p l e9 room_1 s m #[Value.ref b] below meth c H locs k0 n0 Q (F0 m 536 ls []) := by
  intro H locs ls hP hD hS hl
  have hx := hC.1
  have hb := hC.2.1
  have hml := hC.2.2.2.1
  have hown := hC.2.2.2.2.1
  have hts := hC.2.2.2.2.2.1
  unfold wp_case7 at hF
  refine lv_aload_n hx hb dL_law_536 rfl (lv_at hl 1 rfl) ?_
  refine lv_aload_n hx hb dL_law_537 rfl (lv_at hl 0 rfl) ?_
  refine lv_iload hx hb dL_law_538 (lv_at hl 4 rfl) ?_
  refine lv_iconst (v := 1) hx hb dL_law_540 (by decide) ?_
  refine lv_iadd hx hb dL_law_541 ?_
  refine va_sld hx hb hX hbl hbA hS hi1 dL_law_542 ?_
  rw [hx1]
  refine lv_aload_n hx hb dL_law_543 rfl (lv_at hl 3 rfl) ?_
  refine lwWrap (x := wO h cy o σ f) (wn := fun (u : SX × (Nat → Int64)) => wO h cy o u.1 u.2) (As := [.ref (h 16), .int a1, .ref o]) (rest := []) (fpA _ _ _) hC hK hXS hXZ hN hP hD hS hA (m_L_put l hl9 dC dI h cy sa o _ σ f a1 _ hF) k_L_put q637 ⟨rfl, rfl⟩ ⟨Nat.le_of_ble_eq_true rfl, Nat.le_of_ble_eq_true rfl⟩ hl.1 rfl rfl (Nat.le_of_ble_eq_true rfl) dL_law_544 ⟨by show _ ≤ 603072; omega, by show _ ≤ 7211114; omega⟩ (fun r544 v9 H1 locs hF hP1 hD1 hS => ?_)
  obtain ⟨s544, f544⟩ := v9
  have hP := va_P.perm (fpA _ _ _).symm hP1
  have hD := va_D.perm (fpA _ _ _).symm hD1
  generalize H1 = H at hP hS ⊢
  have hP : va_P (dC, dI) classes (wH h cy s544 ++ ([(o, .inl (cy 1, 1, .inr (.inl f544)))] ++ (wC g cy u.1 ++ (wl ad cy (z 0) (g 20) u.2.1 ++ (wl ad cy (z 0) (g 21) u.2.2.1 ++ (wl ad cy (z 0) (g 22) u.2.2.2.1 ++ wS g cy u.2.2.2.2)))))) H := hP
  have hD : va_D A (wH h cy s544 ++ ([(o, .inl (cy 1, 1, .inr (.inl f544)))] ++ (wC g cy u.1 ++ (wl ad cy (z 0) (g 20) u.2.1 ++ (wl ad cy (z 0) (g 21) u.2.2.1 ++ (wl ad cy (z 0) (g 22) u.2.2.2.1 ++ wS g cy u.2.2.2.2)))))) := hD
  refine lv_istore (lv' := [(5, .int r544), (0, .ref b), (1, .ref (h 16)), (2, .ref (g 0)), (3, .ref o), (4, .int (nI i))]) hx hb dL_law_547 hl (by decide) rfl (fun ls hl => ?_)
  refine lv_aload_n hx hb dL_law_549 rfl (lv_at hl 3 rfl) ?_
  refine lv_aload_n hx hb dL_law_550 rfl (lv_at hl 1 rfl) ?_
  refine lv_iload hx hb dL_law_551 (lv_at hl 5 rfl) ?_
  refine lv_iconst (v := 1) hx hb dL_law_553 (by decide) ?_
  refine lv_iadd hx hb dL_law_554 ?_
  refine va_sld hx hb hX hbl hbA hS hi1 dL_law_555 ?_
  rw [hx1]
  refine cfVi (x := wC g cy u.1 ++ (wl ad cy (z 0) (g 20) u.2.1 ++ (wl ad cy (z 0) (g 21) u.2.2.1 ++ (wl ad cy (z 0) (g 22) u.2.2.2.1 ++ wS g cy u.2.2.2.2)))) (As := [.int a1]) (rest := []) (fpF _ _ _) hC hK hP hD hZ hvk hS hA rfl (m_X4_put l dC dI g cy z ad _ u a1 _ hF) k_X4_put q1198 ⟨rfl, rfl⟩ ⟨Nat.le_of_ble_eq_true rfl, Nat.le_of_ble_eq_true rfl⟩ hl.1 rfl rfl (Nat.le_of_ble_eq_true rfl) dL_law_556 ⟨by show _ ≤ 603072; omega, by show _ ≤ 7211114; omega⟩ (fun r556 s556 H1 locs hF hP1 hD1 hS => ?_)
  have hP := va_P.perm (fpF _ _ _).symm hP1
  have hD := va_D.perm (fpF _ _ _).symm hD1
  generalize H1 = H at hP hS ⊢
  have hP : va_P (dC, dI) classes (wH h cy s544 ++ ([(o, .inl (cy 1, 1, .inr (.inl f544)))] ++ (wC g cy s556.1 ++ (wl ad cy (z 0) (g 20) s556.2.1 ++ (wl ad cy (z 0) (g 21) s556.2.2.1 ++ (wl ad cy (z 0) (g 22) s556.2.2.2.1 ++ wS g cy s556.2.2.2.2)))))) H := hP
  have hD : va_D A (wH h cy s544 ++ ([(o, .inl (cy 1, 1, .inr (.inl f544)))] ++ (wC g cy s556.1 ++ (wl ad cy (z 0) (g 20) s556.2.1 ++ (wl ad cy (z 0) (g 21) s556.2.2.1 ++ (wl ad cy (z 0) (g 22) s556.2.2.2.1 ++ wS g cy s556.2.2.2.2)))))) := hD
  refine lv_istore (lv' := [(6, .int r556), (5, .int r544), (0, .ref b), (1, .ref (h 16)), (2, .ref (g 0)), (3, .ref o), (4, .int (nI i))]) hx hb dL_law_559 hl (by decide) rfl (fun ls hl => ?_)
  refine lv_aload_n hx hb dL_law_561 rfl (lv_at hl 4 rfl) ?_
  have hPc := fw_get (fp2 _ _ _ _) hP
  refine cpVi (q0 := 0) (As := []) (rest := []) hC hK hPc rfl rfl (m_X4_thrown l dC dI g cy s556.1 _ hF) k_X4_thrown q1009 ⟨rfl, rfl⟩ ⟨Nat.le_of_ble_eq_true rfl, Nat.le_of_ble_eq_true rfl⟩ hl.1 rfl rfl (Nat.le_of_ble_eq_true rfl) dL_law_562 ⟨by show _ ≤ 603072; omega, by show _ ≤ 7211114; omega⟩ (fun r562 hF => ?_)
  refine lv_iload hx hb dL_law_565 (lv_at hl 1 rfl) ?_
  refine lv_icmp_eq (tgt := 572) hx hb dL_law_567 (by decide) (fun cz => ?_) (fun cz => ?_)
  · have hF := hF.1 cz
    refine lv_iload hx hb dL_law_572 (lv_at hl 1 rfl) ?_
    refine lv_if_ne (tgt := 589) hx hb dL_law_574 (by decide) (fun cz => ?_) (fun cz => ?_)
    · have hF := hF.1 cz
      refine lv_goto (tgt := 1951) hx hb dL_law_589 (by decide) ?_
      refine W.widen (k := k0 + 30) (n := n0 + 480) (by omega) (by omega) ?_
      exact hJ _ _ _ hF _ _ _ hP hD hS (lv_sub hl [2, 3, 4, 5, 6] rfl)
    · have hF := hF.2 cz
      refine lv_aload_n hx hb dL_law_577 rfl (lv_at hl 5 rfl) ?_
      refine lv_iconst (v := 0) hx hb dL_law_578 (by decide) ?_
      refine va_lald hx hb hK.1 hP 21 1 rfl rfl (show vp_in 0 1 from vp_in_nI (n := 0) (by omega) (by omega)) dL_law_579 ?_
      refine lv_iload hx hb dL_law_580 (lv_at hl 0 rfl) ?_
      refine lv_i2l hx hb dL_law_582 rfl ?_
      refine W.lcmp hx hb dL_law_583 ?_
      refine lv_if_eq (tgt := 589) hx hb dL_law_584 (by decide) (fun cz => ?_) (fun cz => ?_)
      · have hF := hF.1 cz
        refine lv_goto (tgt := 1951) hx hb dL_law_589 (by decide) ?_
        refine W.widen (k := k0 + 30) (n := n0 + 480) (by omega) (by omega) ?_
        exact hJ _ _ _ hF _ _ _ hP hD hS (lv_sub hl [2, 3, 4, 5, 6] rfl)
      · have hF := hF.2 cz
        refine lv_iconst (v := 0) hx hb dL_law_587 (by decide) ?_
        exact hF.elim
  · have hF := hF.2 cz
    refine lv_iconst (v := 0) hx hb dL_law_570 (by decide) ?_
    exact hF.elim
def wp_case8 (σ : SX) (f : Nat → Int64) (u : FX) (K : SX → (Nat → Int64) → FX → Prop) : Prop := (wp_X3_now σ (fun r593 => (wp_X4_now u.1 (fun r597 s597 => ((r593 = r597 → (K σ f (s597, u.2))) ∧ (¬ r593 = r597 → False))))))
set_option maxHeartbeats 4000000 in
set_option maxRecDepth 100000 in
theorem m_case8 {p : Program} {e9 : Env} {s : State} {m : MethodId} {below : List Frame} {meth : Method} {c : Code} (l : Launch) (hl9 : l.stackTraces = false) {dC : Nat → ClassId} {dI : Nat → Nat → Nat} {h g : Nat → Nat} {cy : Nat → ClassId} {sa z ad : Nat → Nat} {o b L fu i k0 n0 : Nat} {xs : Nat → Int32} {A : Nat → Prop} {Q : State → Prop} {a0 a1 a2 : Int32}
  (hC : Cx p s m #[Value.ref b] meth c RL code 9 ret) (hK : kwX dC dI cy s) (hXS : XS sa s) (hXZ : XZ A s s.heap) (hN : NCL s) (hZ : ZF z ad A s s.heap) (hvk : vk_R "PegshoreHouseModel" 92 "std" (z 4) s) (hX : va_X b L xs s s.heap) (hbl : b < s.heap.size) (hbA : ¬ A b) (hA : ∀ q : Nat, s.heap.size ≤ q → A q)
  (hi1 : vp_in (nI i + 1) L) (hi2 : vp_in (nI i + 2) L) (hx1 : xs (nI i + 1).toNatClampNeg = a1) (hx2 : xs (nI i + 2).toNatClampNeg = a2) (hk0 : k0 + 30 ≤ 603072) (hn0 : n0 + 480 ≤ 7211114)
  (K : SX → (Nat → Int64) → FX → Prop) (hJ : ∀ σ f u, K σ f u → ∀ (H : Heap) (locs : List Loc) (ls : Array Slot), va_P (dC, dI) classes (wH h cy σ ++ ([(o, .inl (cy 1, 1, .inr (.inl f)))] ++ (wC g cy u.1 ++ (wl ad cy (z 0) (g 20) u.2.1 ++ (wl ad cy (z 0) (g 21) u.2.2.1 ++ (wl ad cy (z 0) (g 22) u.2.2.2.1 ++ wS g cy u.2.2.2.2)))))) H → va_D A (wH h cy σ ++ ([(o, .inl (cy 1, 1, .inr (.inl f)))] ++ (wC g cy u.1 ++ (wl ad cy (z 0) (g 20) u.2.1 ++ (wl ad cy (z 0) (g 21) u.2.2.1 ++ (wl ad cy (z 0) (g 22) u.2.2.2.1 ++ wS g cy u.2.2.2.2)))))) → va_S A s.heap H locs → lv_has ls 9 [(0, .ref b), (1, .ref (h 16)), (2, .ref (g 0)), (3, .ref o), (4, .int (nI i))] → W p l e9 room_1 s m #[Value.ref b] below meth c H locs (k0 + 30) (n0 + 480) Q (F0 m 1951 ls [])) (σ : SX) (f : Nat → Int64) (u : FX) (hF : wp_case8 σ f u K) : ∀ (H : Heap) (locs : List Loc) (ls : Array Slot), va_P (dC, dI) classes (wH h cy σ ++ ([(o, .inl (cy 1, 1, .inr (.inl f)))] ++ (wC g cy u.1 ++ (wl ad cy (z 0) (g 20) u.2.1 ++ (wl ad cy (z 0) (g 21) u.2.2.1 ++ (wl ad cy (z 0) (g 22) u.2.2.2.1 ++ wS g cy u.2.2.2.2)))))) H → va_D A (wH h cy σ ++ ([(o, .inl (cy 1, 1, .inr (.inl f)))] ++ (wC g cy u.1 ++ (wl ad cy (z 0) (g 20) u.2.1 ++ (wl ad cy (z 0) (g 21) u.2.2.1 ++ (wl ad cy (z 0) (g 22) u.2.2.2.1 ++ wS g cy u.2.2.2.2)))))) → va_S A s.heap H locs → lv_has ls 9 [(0, .ref b), (1, .ref (h 16)), (2, .ref (g 0)), (3, .ref o), (4, .int (nI i))] → W p l e9 room_1 s m #[Value.ref b] below meth c H locs k0 n0 Q (F0 m 592 ls []) := by
  intro H locs ls hP hD hS hl
  have hx := hC.1
  have hb := hC.2.1
  have hml := hC.2.2.2.1
  have hown := hC.2.2.2.2.1
  have hts := hC.2.2.2.2.2.1
  unfold wp_case8 at hF
  refine lv_aload_n hx hb dL_law_592 rfl (lv_at hl 1 rfl) ?_
  have hPc := fw_get (fp0 _ _) hP
  refine cpVi (q0 := 16) (As := []) (rest := []) hC hK hPc rfl rfl (m_X3_now l dC dI h cy σ _ hF) k_X3_now q202 ⟨rfl, rfl⟩ ⟨Nat.le_of_ble_eq_true rfl, Nat.le_of_ble_eq_true rfl⟩ hl.1 rfl rfl (Nat.le_of_ble_eq_true rfl) dL_law_593 ⟨by show _ ≤ 603072; omega, by show _ ≤ 7211114; omega⟩ (fun r593 hF => ?_)
  refine lv_aload_n hx hb dL_law_596 rfl (lv_at hl 2 rfl) ?_
  have hPc := fw_get (fp2 _ _ _ _) hP
  have hDc := fw_getD (fp2 _ _ _ _) hD
  have hFc := fw_free (fp2 _ _ _ _) hD hS hA
  refine cwVi (q0 := 0) (As := []) (rest := [.int r593]) hC hK hPc hDc rfl rfl hS hFc (m_X4_now l dC dI g cy _ u.1 _ hF) k_X4_now q1202 ⟨rfl, rfl⟩ ⟨Nat.le_of_ble_eq_true rfl, Nat.le_of_ble_eq_true rfl⟩ hl.1 rfl rfl (Nat.le_of_ble_eq_true rfl) dL_law_597 ⟨by show _ ≤ 603072; omega, by show _ ≤ 7211114; omega⟩ (fun r597 s597 H1 locs hF hP9 hD9 hk1 hS => ?_)
  obtain ⟨hP1, hD1⟩ := fw_join (fp2 _ _ _ _) hP hD hk1 hFc hP9 hD9
  have hP := va_P.perm (fp2 _ _ _ _).symm hP1
  have hD := va_D.perm (fp2 _ _ _ _).symm hD1
  generalize H1 = H at hP hS ⊢
  have hP : va_P (dC, dI) classes (wH h cy σ ++ ([(o, .inl (cy 1, 1, .inr (.inl f)))] ++ (wC g cy (s597, u.2).1 ++ (wl ad cy (z 0) (g 20) (s597, u.2).2.1 ++ (wl ad cy (z 0) (g 21) (s597, u.2).2.2.1 ++ (wl ad cy (z 0) (g 22) (s597, u.2).2.2.2.1 ++ wS g cy (s597, u.2).2.2.2.2)))))) H := hP
  have hD : va_D A (wH h cy σ ++ ([(o, .inl (cy 1, 1, .inr (.inl f)))] ++ (wC g cy (s597, u.2).1 ++ (wl ad cy (z 0) (g 20) (s597, u.2).2.1 ++ (wl ad cy (z 0) (g 21) (s597, u.2).2.2.1 ++ (wl ad cy (z 0) (g 22) (s597, u.2).2.2.2.1 ++ wS g cy (s597, u.2).2.2.2.2)))))) := hD
  refine lv_icmp_eq (tgt := 1951) hx hb dL_law_600 (by decide) (fun cz => ?_) (fun cz => ?_)
  · have hF := hF.1 cz
    refine W.widen (k := k0 + 30) (n := n0 + 480) (by omega) (by omega) ?_
    exact hJ _ _ _ hF _ _ _ hP hD hS (lv_sub hl [0, 1, 2, 3, 4] rfl)
  · have hF := hF.2 cz
    refine lv_iconst (v := 0) hx hb dL_law_603 (by decide) ?_
    exact hF.elim
def wp_case9 (fu : Nat) (a1 : Int32) (a2 : Int32) (σ : SX) (f : Nat → Int64) (u : FX) (K : SX → (Nat → Int64) → FX → Prop) : Prop := (wp_L_mayJump fu σ f a1 a2 (fun r619 s619 f619 => (wp_X4_mayJump fu u.1 a1 a2 (fun r637 s637 => (wp_X4_thrown ((s637, u.2).1) (fun r643 => ((r643 = r619 → ((¬ r619 = 0 → (K s619 f619 (s637, u.2))) ∧ (r619 = 0 → ((r637 = 0 → (((lg_cmp (f619 (0 : Int32).toNatClampNeg) 0) = 0 → (K s619 f619 (s637, u.2))) ∧ (¬ (lg_cmp (f619 (0 : Int32).toNatClampNeg) 0) = 0 → False))) ∧ (¬ r637 = 0 → (((lg_cmp (f619 (0 : Int32).toNatClampNeg) 1) = 0 → (K s619 f619 (s637, u.2))) ∧ (¬ (lg_cmp (f619 (0 : Int32).toNatClampNeg) 1) = 0 → False))))))) ∧ (¬ r643 = r619 → False))))))))
set_option maxHeartbeats 4000000 in
set_option maxRecDepth 100000 in
theorem m_case9 {p : Program} {e9 : Env} {s : State} {m : MethodId} {below : List Frame} {meth : Method} {c : Code} (l : Launch) (hl9 : l.stackTraces = false) {dC : Nat → ClassId} {dI : Nat → Nat → Nat} {h g : Nat → Nat} {cy : Nat → ClassId} {sa z ad : Nat → Nat} {o b L fu i k0 n0 : Nat} {xs : Nat → Int32} {A : Nat → Prop} {Q : State → Prop} {a0 a1 a2 : Int32}
  (hC : Cx p s m #[Value.ref b] meth c RL code 9 ret) (hK : kwX dC dI cy s) (hXS : XS sa s) (hXZ : XZ A s s.heap) (hN : NCL s) (hZ : ZF z ad A s s.heap) (hvk : vk_R "PegshoreHouseModel" 92 "std" (z 4) s) (hX : va_X b L xs s s.heap) (hbl : b < s.heap.size) (hbA : ¬ A b) (hA : ∀ q : Nat, s.heap.size ≤ q → A q)
  (hi1 : vp_in (nI i + 1) L) (hi2 : vp_in (nI i + 2) L) (hx1 : xs (nI i + 1).toNatClampNeg = a1) (hx2 : xs (nI i + 2).toNatClampNeg = a2) (hk0 : k0 + 30 ≤ 603072) (hn0 : n0 + 480 ≤ 7211114)
  (K : SX → (Nat → Int64) → FX → Prop) (hJ : ∀ σ f u, K σ f u → ∀ (H : Heap) (locs : List Loc) (ls : Array Slot), va_P (dC, dI) classes (wH h cy σ ++ ([(o, .inl (cy 1, 1, .inr (.inl f)))] ++ (wC g cy u.1 ++ (wl ad cy (z 0) (g 20) u.2.1 ++ (wl ad cy (z 0) (g 21) u.2.2.1 ++ (wl ad cy (z 0) (g 22) u.2.2.2.1 ++ wS g cy u.2.2.2.2)))))) H → va_D A (wH h cy σ ++ ([(o, .inl (cy 1, 1, .inr (.inl f)))] ++ (wC g cy u.1 ++ (wl ad cy (z 0) (g 20) u.2.1 ++ (wl ad cy (z 0) (g 21) u.2.2.1 ++ (wl ad cy (z 0) (g 22) u.2.2.2.1 ++ wS g cy u.2.2.2.2)))))) → va_S A s.heap H locs → lv_has ls 9 [(0, .ref b), (1, .ref (h 16)), (2, .ref (g 0)), (3, .ref o), (4, .int (nI i))] → W p l e9 room_1 s m #[Value.ref b] below meth c H locs (k0 + 30) (n0 + 480) Q (F0 m 1951 ls [])) (σ : SX) (f : Nat → Int64) (u : FX) (hF : wp_case9 fu a1 a2 σ f u K) : ∀ (H : Heap) (locs : List Loc) (ls : Array Slot), va_P (dC, dI) classes (wH h cy σ ++ ([(o, .inl (cy 1, 1, .inr (.inl f)))] ++ (wC g cy u.1 ++ (wl ad cy (z 0) (g 20) u.2.1 ++ (wl ad cy (z 0) (g 21) u.2.2.1 ++ (wl ad cy (z 0) (g 22) u.2.2.2.1 ++ wS g cy u.2.2.2.2)))))) H → va_D A (wH h cy σ ++ ([(o, .inl (cy 1, 1, .inr (.inl f)))] ++ (wC g cy u.1 ++ (wl ad cy (z 0) (g 20) u.2.1 ++ (wl ad cy (z 0) (g 21) u.2.2.1 ++ (wl ad cy (z 0) (g 22) u.2.2.2.1 ++ wS g cy u.2.2.2.2)))))) → va_S A s.heap H locs → lv_has ls 9 [(0, .ref b), (1, .ref (h 16)), (2, .ref (g 0)), (3, .ref o), (4, .int (nI i))] → W p l e9 room_1 s m #[Value.ref b] below meth c H locs k0 n0 Q (F0 m 605 ls []) := by
  intro H locs ls hP hD hS hl
  have hx := hC.1
  have hb := hC.2.1
  have hml := hC.2.2.2.1
  have hown := hC.2.2.2.2.1
  have hts := hC.2.2.2.2.2.1
  unfold wp_case9 at hF
  refine lv_aload_n hx hb dL_law_605 rfl (lv_at hl 1 rfl) ?_
  refine lv_aload_n hx hb dL_law_606 rfl (lv_at hl 0 rfl) ?_
  refine lv_iload hx hb dL_law_607 (lv_at hl 4 rfl) ?_
  refine lv_iconst (v := 1) hx hb dL_law_609 (by decide) ?_
  refine lv_iadd hx hb dL_law_610 ?_
  refine va_sld hx hb hX hbl hbA hS hi1 dL_law_611 ?_
  rw [hx1]
  refine lv_aload_n hx hb dL_law_612 rfl (lv_at hl 0 rfl) ?_
  refine lv_iload hx hb dL_law_613 (lv_at hl 4 rfl) ?_
  refine lv_iconst (v := 2) hx hb dL_law_615 (by decide) ?_
  refine lv_iadd hx hb dL_law_616 ?_
  refine va_sld hx hb hX hbl hbA hS hi2 dL_law_617 ?_
  rw [hx2]
  refine lv_aload_n hx hb dL_law_618 rfl (lv_at hl 3 rfl) ?_
  refine lwWrap (x := wO h cy o σ f) (wn := fun (u : SX × (Nat → Int64)) => wO h cy o u.1 u.2) (As := [.ref (h 16), .int a1, .int a2, .ref o]) (rest := []) (fpA _ _ _) hC hK hXS hXZ hN hP hD hS hA (m_L_mayJump l hl9 dC dI h cy sa o _ fu σ f a1 a2 _ hF) k_L_mayJump q649 ⟨rfl, rfl⟩ ⟨Nat.le_of_ble_eq_true rfl, Nat.le_of_ble_eq_true rfl⟩ hl.1 rfl rfl (Nat.le_of_ble_eq_true rfl) dL_law_619 ⟨by show _ ≤ 603072; omega, by show _ ≤ 7211114; omega⟩ (fun r619 v9 H1 locs hF hP1 hD1 hS => ?_)
  obtain ⟨s619, f619⟩ := v9
  have hP := va_P.perm (fpA _ _ _).symm hP1
  have hD := va_D.perm (fpA _ _ _).symm hD1
  generalize H1 = H at hP hS ⊢
  have hP : va_P (dC, dI) classes (wH h cy s619 ++ ([(o, .inl (cy 1, 1, .inr (.inl f619)))] ++ (wC g cy u.1 ++ (wl ad cy (z 0) (g 20) u.2.1 ++ (wl ad cy (z 0) (g 21) u.2.2.1 ++ (wl ad cy (z 0) (g 22) u.2.2.2.1 ++ wS g cy u.2.2.2.2)))))) H := hP
  have hD : va_D A (wH h cy s619 ++ ([(o, .inl (cy 1, 1, .inr (.inl f619)))] ++ (wC g cy u.1 ++ (wl ad cy (z 0) (g 20) u.2.1 ++ (wl ad cy (z 0) (g 21) u.2.2.1 ++ (wl ad cy (z 0) (g 22) u.2.2.2.1 ++ wS g cy u.2.2.2.2)))))) := hD
  refine lv_istore (lv' := [(5, .int r619), (0, .ref b), (1, .ref (h 16)), (2, .ref (g 0)), (3, .ref o), (4, .int (nI i))]) hx hb dL_law_622 hl (by decide) rfl (fun ls hl => ?_)
  refine lv_aload_n hx hb dL_law_624 rfl (lv_at hl 3 rfl) ?_
  refine lv_aload_n hx hb dL_law_625 rfl (lv_at hl 1 rfl) ?_
  refine lv_iload hx hb dL_law_626 (lv_at hl 5 rfl) ?_
  refine lv_iconst (v := 1) hx hb dL_law_628 (by decide) ?_
  refine lv_iadd hx hb dL_law_629 ?_
  refine va_sld hx hb hX hbl hbA hS hi1 dL_law_630 ?_
  rw [hx1]
  refine lv_aload_n hx hb dL_law_631 rfl (lv_at hl 1 rfl) ?_
  refine lv_iload hx hb dL_law_632 (lv_at hl 5 rfl) ?_
  refine lv_iconst (v := 2) hx hb dL_law_634 (by decide) ?_
  refine lv_iadd hx hb dL_law_635 ?_
  refine va_sld hx hb hX hbl hbA hS hi2 dL_law_636 ?_
  rw [hx2]
  have hPc := fw_get (fp2 _ _ _ _) hP
  have hDc := fw_getD (fp2 _ _ _ _) hD
  have hFc := fw_free (fp2 _ _ _ _) hD hS hA
  refine cwVi (q0 := 0) (As := [.int a1, .int a2]) (rest := []) hC hK hPc hDc rfl rfl hS hFc (m_X4_mayJump l dC dI g cy _ fu u.1 a1 a2 _ hF) k_X4_mayJump q1206 ⟨rfl, rfl⟩ ⟨Nat.le_of_ble_eq_true rfl, Nat.le_of_ble_eq_true rfl⟩ hl.1 rfl rfl (Nat.le_of_ble_eq_true rfl) dL_law_637 ⟨by show _ ≤ 603072; omega, by show _ ≤ 7211114; omega⟩ (fun r637 s637 H1 locs hF hP9 hD9 hk1 hS => ?_)
  obtain ⟨hP1, hD1⟩ := fw_join (fp2 _ _ _ _) hP hD hk1 hFc hP9 hD9
  have hP := va_P.perm (fp2 _ _ _ _).symm hP1
  have hD := va_D.perm (fp2 _ _ _ _).symm hD1
  generalize H1 = H at hP hS ⊢
  have hP : va_P (dC, dI) classes (wH h cy s619 ++ ([(o, .inl (cy 1, 1, .inr (.inl f619)))] ++ (wC g cy (s637, u.2).1 ++ (wl ad cy (z 0) (g 20) (s637, u.2).2.1 ++ (wl ad cy (z 0) (g 21) (s637, u.2).2.2.1 ++ (wl ad cy (z 0) (g 22) (s637, u.2).2.2.2.1 ++ wS g cy (s637, u.2).2.2.2.2)))))) H := hP
  have hD : va_D A (wH h cy s619 ++ ([(o, .inl (cy 1, 1, .inr (.inl f619)))] ++ (wC g cy (s637, u.2).1 ++ (wl ad cy (z 0) (g 20) (s637, u.2).2.1 ++ (wl ad cy (z 0) (g 21) (s637, u.2).2.2.1 ++ (wl ad cy (z 0) (g 22) (s637, u.2).2.2.2.1 ++ wS g cy (s637, u.2).2.2.2.2)))))) := hD
  refine lv_istore (lv' := [(6, .int r637), (5, .int r619), (0, .ref b), (1, .ref (h 16)), (2, .ref (g 0)), (3, .ref o), (4, .int (nI i))]) hx hb dL_law_640 hl (by decide) rfl (fun ls hl => ?_)
  refine lv_aload_n hx hb dL_law_642 rfl (lv_at hl 4 rfl) ?_
  have hPc := fw_get (fp2 _ _ _ _) hP
  refine cpVi (q0 := 0) (As := []) (rest := []) hC hK hPc rfl rfl (m_X4_thrown l dC dI g cy ((s637, u.2).1) _ hF) k_X4_thrown q1009 ⟨rfl, rfl⟩ ⟨Nat.le_of_ble_eq_true rfl, Nat.le_of_ble_eq_true rfl⟩ hl.1 rfl rfl (Nat.le_of_ble_eq_true rfl) dL_law_643 ⟨by show _ ≤ 603072; omega, by show _ ≤ 7211114; omega⟩ (fun r643 hF => ?_)
  refine lv_iload hx hb dL_law_646 (lv_at hl 1 rfl) ?_
  refine lv_icmp_eq (tgt := 653) hx hb dL_law_648 (by decide) (fun cz => ?_) (fun cz => ?_)
  · have hF := hF.1 cz
    refine lv_iload hx hb dL_law_653 (lv_at hl 1 rfl) ?_
    refine lv_if_ne (tgt := 677) hx hb dL_law_655 (by decide) (fun cz => ?_) (fun cz => ?_)
    · have hF := hF.1 cz
      refine lv_goto (tgt := 1951) hx hb dL_law_677 (by decide) ?_
      refine W.widen (k := k0 + 30) (n := n0 + 480) (by omega) (by omega) ?_
      exact hJ _ _ _ hF _ _ _ hP hD hS (lv_sub hl [2, 3, 4, 5, 6] rfl)
    · have hF := hF.2 cz
      refine lv_aload_n hx hb dL_law_658 rfl (lv_at hl 5 rfl) ?_
      refine lv_iconst (v := 0) hx hb dL_law_659 (by decide) ?_
      refine va_lald hx hb hK.1 hP 21 1 rfl rfl (show vp_in 0 1 from vp_in_nI (n := 0) (by omega) (by omega)) dL_law_660 ?_
      refine lv_iload hx hb dL_law_661 (lv_at hl 0 rfl) ?_
      refine lv_if_eq (tgt := 670) hx hb dL_law_663 (by decide) (fun cz => ?_) (fun cz => ?_)
      · have hF := hF.1 cz
        refine lv_lconst (v := 0) hx hb dL_law_670 (by decide) ?_
        refine W.lcmp hx hb dL_law_671 ?_
        refine lv_if_eq (tgt := 677) hx hb dL_law_672 (by decide) (fun cz => ?_) (fun cz => ?_)
        · have hF := hF.1 cz
          refine lv_goto (tgt := 1951) hx hb dL_law_677 (by decide) ?_
          refine W.widen (k := k0 + 30) (n := n0 + 480) (by omega) (by omega) ?_
          exact hJ _ _ _ hF _ _ _ hP hD hS (lv_sub hl [2, 3, 4, 5, 6] rfl)
        · have hF := hF.2 cz
          refine lv_iconst (v := 0) hx hb dL_law_675 (by decide) ?_
          exact hF.elim
      · have hF := hF.2 cz
        refine lv_lconst (v := 1) hx hb dL_law_666 (by decide) ?_
        refine lv_goto (tgt := 671) hx hb dL_law_667 (by decide) ?_
        refine W.lcmp hx hb dL_law_671 ?_
        refine lv_if_eq (tgt := 677) hx hb dL_law_672 (by decide) (fun cz => ?_) (fun cz => ?_)
        · have hF := hF.1 cz
          refine lv_goto (tgt := 1951) hx hb dL_law_677 (by decide) ?_
          refine W.widen (k := k0 + 30) (n := n0 + 480) (by omega) (by omega) ?_
          exact hJ _ _ _ hF _ _ _ hP hD hS (lv_sub hl [2, 3, 4, 5, 6] rfl)
        · have hF := hF.2 cz
          refine lv_iconst (v := 0) hx hb dL_law_675 (by decide) ?_
          exact hF.elim
  · have hF := hF.2 cz
    refine lv_iconst (v := 0) hx hb dL_law_651 (by decide) ?_
    exact hF.elim
def wp_case10 (fu : Nat) (a1 : Int32) (a2 : Int32) (σ : SX) (f : Nat → Int64) (u : FX) (K : SX → (Nat → Int64) → FX → Prop) : Prop := (wp_L_jump fu σ f a1 a2 (fun r694 s694 f694 => (wp_X4_jump fu u a1 a2 (fun r712 s712 => (wp_X4_thrown s712.1 (fun r718 => ((r718 = r694 → ((¬ r694 = 0 → (K s694 f694 s712)) ∧ (r694 = 0 → (((lg_cmp (f694 (0 : Int32).toNatClampNeg) r712.toInt64) = 0 → (K s694 f694 s712)) ∧ (¬ (lg_cmp (f694 (0 : Int32).toNatClampNeg) r712.toInt64) = 0 → False))))) ∧ (¬ r718 = r694 → False))))))))
set_option maxHeartbeats 4000000 in
set_option maxRecDepth 100000 in
theorem m_case10 {p : Program} {e9 : Env} {s : State} {m : MethodId} {below : List Frame} {meth : Method} {c : Code} (l : Launch) (hl9 : l.stackTraces = false) {dC : Nat → ClassId} {dI : Nat → Nat → Nat} {h g : Nat → Nat} {cy : Nat → ClassId} {sa z ad : Nat → Nat} {o b L fu i k0 n0 : Nat} {xs : Nat → Int32} {A : Nat → Prop} {Q : State → Prop} {a0 a1 a2 : Int32}
  (hC : Cx p s m #[Value.ref b] meth c RL code 9 ret) (hK : kwX dC dI cy s) (hXS : XS sa s) (hXZ : XZ A s s.heap) (hN : NCL s) (hZ : ZF z ad A s s.heap) (hvk : vk_R "PegshoreHouseModel" 92 "std" (z 4) s) (hX : va_X b L xs s s.heap) (hbl : b < s.heap.size) (hbA : ¬ A b) (hA : ∀ q : Nat, s.heap.size ≤ q → A q)
  (hi1 : vp_in (nI i + 1) L) (hi2 : vp_in (nI i + 2) L) (hx1 : xs (nI i + 1).toNatClampNeg = a1) (hx2 : xs (nI i + 2).toNatClampNeg = a2) (hk0 : k0 + 30 ≤ 603072) (hn0 : n0 + 480 ≤ 7211114)
  (K : SX → (Nat → Int64) → FX → Prop) (hJ : ∀ σ f u, K σ f u → ∀ (H : Heap) (locs : List Loc) (ls : Array Slot), va_P (dC, dI) classes (wH h cy σ ++ ([(o, .inl (cy 1, 1, .inr (.inl f)))] ++ (wC g cy u.1 ++ (wl ad cy (z 0) (g 20) u.2.1 ++ (wl ad cy (z 0) (g 21) u.2.2.1 ++ (wl ad cy (z 0) (g 22) u.2.2.2.1 ++ wS g cy u.2.2.2.2)))))) H → va_D A (wH h cy σ ++ ([(o, .inl (cy 1, 1, .inr (.inl f)))] ++ (wC g cy u.1 ++ (wl ad cy (z 0) (g 20) u.2.1 ++ (wl ad cy (z 0) (g 21) u.2.2.1 ++ (wl ad cy (z 0) (g 22) u.2.2.2.1 ++ wS g cy u.2.2.2.2)))))) → va_S A s.heap H locs → lv_has ls 9 [(0, .ref b), (1, .ref (h 16)), (2, .ref (g 0)), (3, .ref o), (4, .int (nI i))] → W p l e9 room_1 s m #[Value.ref b] below meth c H locs (k0 + 30) (n0 + 480) Q (F0 m 1951 ls [])) (σ : SX) (f : Nat → Int64) (u : FX) (hF : wp_case10 fu a1 a2 σ f u K) : ∀ (H : Heap) (locs : List Loc) (ls : Array Slot), va_P (dC, dI) classes (wH h cy σ ++ ([(o, .inl (cy 1, 1, .inr (.inl f)))] ++ (wC g cy u.1 ++ (wl ad cy (z 0) (g 20) u.2.1 ++ (wl ad cy (z 0) (g 21) u.2.2.1 ++ (wl ad cy (z 0) (g 22) u.2.2.2.1 ++ wS g cy u.2.2.2.2)))))) H → va_D A (wH h cy σ ++ ([(o, .inl (cy 1, 1, .inr (.inl f)))] ++ (wC g cy u.1 ++ (wl ad cy (z 0) (g 20) u.2.1 ++ (wl ad cy (z 0) (g 21) u.2.2.1 ++ (wl ad cy (z 0) (g 22) u.2.2.2.1 ++ wS g cy u.2.2.2.2)))))) → va_S A s.heap H locs → lv_has ls 9 [(0, .ref b), (1, .ref (h 16)), (2, .ref (g 0)), (3, .ref o), (4, .int (nI i))] → W p l e9 room_1 s m #[Value.ref b] below meth c H locs k0 n0 Q (F0 m 680 ls []) := by
  intro H locs ls hP hD hS hl
  have hx := hC.1
  have hb := hC.2.1
  have hml := hC.2.2.2.1
  have hown := hC.2.2.2.2.1
  have hts := hC.2.2.2.2.2.1
  unfold wp_case10 at hF
  refine lv_aload_n hx hb dL_law_680 rfl (lv_at hl 1 rfl) ?_
  refine lv_aload_n hx hb dL_law_681 rfl (lv_at hl 0 rfl) ?_
  refine lv_iload hx hb dL_law_682 (lv_at hl 4 rfl) ?_
  refine lv_iconst (v := 1) hx hb dL_law_684 (by decide) ?_
  refine lv_iadd hx hb dL_law_685 ?_
  refine va_sld hx hb hX hbl hbA hS hi1 dL_law_686 ?_
  rw [hx1]
  refine lv_aload_n hx hb dL_law_687 rfl (lv_at hl 0 rfl) ?_
  refine lv_iload hx hb dL_law_688 (lv_at hl 4 rfl) ?_
  refine lv_iconst (v := 2) hx hb dL_law_690 (by decide) ?_
  refine lv_iadd hx hb dL_law_691 ?_
  refine va_sld hx hb hX hbl hbA hS hi2 dL_law_692 ?_
  rw [hx2]
  refine lv_aload_n hx hb dL_law_693 rfl (lv_at hl 3 rfl) ?_
  refine lwWrap (x := wO h cy o σ f) (wn := fun (u : SX × (Nat → Int64)) => wO h cy o u.1 u.2) (As := [.ref (h 16), .int a1, .int a2, .ref o]) (rest := []) (fpA _ _ _) hC hK hXS hXZ hN hP hD hS hA (m_L_jump l hl9 dC dI h cy sa o _ fu σ f a1 a2 _ hF) k_L_jump q660 ⟨rfl, rfl⟩ ⟨Nat.le_of_ble_eq_true rfl, Nat.le_of_ble_eq_true rfl⟩ hl.1 rfl rfl (Nat.le_of_ble_eq_true rfl) dL_law_694 ⟨by show _ ≤ 603072; omega, by show _ ≤ 7211114; omega⟩ (fun r694 v9 H1 locs hF hP1 hD1 hS => ?_)
  obtain ⟨s694, f694⟩ := v9
  have hP := va_P.perm (fpA _ _ _).symm hP1
  have hD := va_D.perm (fpA _ _ _).symm hD1
  generalize H1 = H at hP hS ⊢
  have hP : va_P (dC, dI) classes (wH h cy s694 ++ ([(o, .inl (cy 1, 1, .inr (.inl f694)))] ++ (wC g cy u.1 ++ (wl ad cy (z 0) (g 20) u.2.1 ++ (wl ad cy (z 0) (g 21) u.2.2.1 ++ (wl ad cy (z 0) (g 22) u.2.2.2.1 ++ wS g cy u.2.2.2.2)))))) H := hP
  have hD : va_D A (wH h cy s694 ++ ([(o, .inl (cy 1, 1, .inr (.inl f694)))] ++ (wC g cy u.1 ++ (wl ad cy (z 0) (g 20) u.2.1 ++ (wl ad cy (z 0) (g 21) u.2.2.1 ++ (wl ad cy (z 0) (g 22) u.2.2.2.1 ++ wS g cy u.2.2.2.2)))))) := hD
  refine lv_istore (lv' := [(5, .int r694), (0, .ref b), (1, .ref (h 16)), (2, .ref (g 0)), (3, .ref o), (4, .int (nI i))]) hx hb dL_law_697 hl (by decide) rfl (fun ls hl => ?_)
  refine lv_aload_n hx hb dL_law_699 rfl (lv_at hl 3 rfl) ?_
  refine lv_aload_n hx hb dL_law_700 rfl (lv_at hl 1 rfl) ?_
  refine lv_iload hx hb dL_law_701 (lv_at hl 5 rfl) ?_
  refine lv_iconst (v := 1) hx hb dL_law_703 (by decide) ?_
  refine lv_iadd hx hb dL_law_704 ?_
  refine va_sld hx hb hX hbl hbA hS hi1 dL_law_705 ?_
  rw [hx1]
  refine lv_aload_n hx hb dL_law_706 rfl (lv_at hl 1 rfl) ?_
  refine lv_iload hx hb dL_law_707 (lv_at hl 5 rfl) ?_
  refine lv_iconst (v := 2) hx hb dL_law_709 (by decide) ?_
  refine lv_iadd hx hb dL_law_710 ?_
  refine va_sld hx hb hX hbl hbA hS hi2 dL_law_711 ?_
  rw [hx2]
  refine cfVi (x := wC g cy u.1 ++ (wl ad cy (z 0) (g 20) u.2.1 ++ (wl ad cy (z 0) (g 21) u.2.2.1 ++ (wl ad cy (z 0) (g 22) u.2.2.2.1 ++ wS g cy u.2.2.2.2)))) (As := [.int a1, .int a2]) (rest := []) (fpF _ _ _) hC hK hP hD hZ hvk hS hA rfl (m_X4_jump l dC dI g cy z ad _ fu u a1 a2 _ hF) k_X4_jump q1218 ⟨rfl, rfl⟩ ⟨Nat.le_of_ble_eq_true rfl, Nat.le_of_ble_eq_true rfl⟩ hl.1 rfl rfl (Nat.le_of_ble_eq_true rfl) dL_law_712 ⟨by show _ ≤ 603072; omega, by show _ ≤ 7211114; omega⟩ (fun r712 s712 H1 locs hF hP1 hD1 hS => ?_)
  have hP := va_P.perm (fpF _ _ _).symm hP1
  have hD := va_D.perm (fpF _ _ _).symm hD1
  generalize H1 = H at hP hS ⊢
  have hP : va_P (dC, dI) classes (wH h cy s694 ++ ([(o, .inl (cy 1, 1, .inr (.inl f694)))] ++ (wC g cy s712.1 ++ (wl ad cy (z 0) (g 20) s712.2.1 ++ (wl ad cy (z 0) (g 21) s712.2.2.1 ++ (wl ad cy (z 0) (g 22) s712.2.2.2.1 ++ wS g cy s712.2.2.2.2)))))) H := hP
  have hD : va_D A (wH h cy s694 ++ ([(o, .inl (cy 1, 1, .inr (.inl f694)))] ++ (wC g cy s712.1 ++ (wl ad cy (z 0) (g 20) s712.2.1 ++ (wl ad cy (z 0) (g 21) s712.2.2.1 ++ (wl ad cy (z 0) (g 22) s712.2.2.2.1 ++ wS g cy s712.2.2.2.2)))))) := hD
  refine lv_istore (lv' := [(6, .int r712), (5, .int r694), (0, .ref b), (1, .ref (h 16)), (2, .ref (g 0)), (3, .ref o), (4, .int (nI i))]) hx hb dL_law_715 hl (by decide) rfl (fun ls hl => ?_)
  refine lv_aload_n hx hb dL_law_717 rfl (lv_at hl 4 rfl) ?_
  have hPc := fw_get (fp2 _ _ _ _) hP
  refine cpVi (q0 := 0) (As := []) (rest := []) hC hK hPc rfl rfl (m_X4_thrown l dC dI g cy s712.1 _ hF) k_X4_thrown q1009 ⟨rfl, rfl⟩ ⟨Nat.le_of_ble_eq_true rfl, Nat.le_of_ble_eq_true rfl⟩ hl.1 rfl rfl (Nat.le_of_ble_eq_true rfl) dL_law_718 ⟨by show _ ≤ 603072; omega, by show _ ≤ 7211114; omega⟩ (fun r718 hF => ?_)
  refine lv_iload hx hb dL_law_721 (lv_at hl 1 rfl) ?_
  refine lv_icmp_eq (tgt := 728) hx hb dL_law_723 (by decide) (fun cz => ?_) (fun cz => ?_)
  · have hF := hF.1 cz
    refine lv_iload hx hb dL_law_728 (lv_at hl 1 rfl) ?_
    refine lv_if_ne (tgt := 745) hx hb dL_law_730 (by decide) (fun cz => ?_) (fun cz => ?_)
    · have hF := hF.1 cz
      refine lv_goto (tgt := 1951) hx hb dL_law_745 (by decide) ?_
      refine W.widen (k := k0 + 30) (n := n0 + 480) (by omega) (by omega) ?_
      exact hJ _ _ _ hF _ _ _ hP hD hS (lv_sub hl [2, 3, 4, 5, 6] rfl)
    · have hF := hF.2 cz
      refine lv_aload_n hx hb dL_law_733 rfl (lv_at hl 5 rfl) ?_
      refine lv_iconst (v := 0) hx hb dL_law_734 (by decide) ?_
      refine va_lald hx hb hK.1 hP 21 1 rfl rfl (show vp_in 0 1 from vp_in_nI (n := 0) (by omega) (by omega)) dL_law_735 ?_
      refine lv_iload hx hb dL_law_736 (lv_at hl 0 rfl) ?_
      refine lv_i2l hx hb dL_law_738 rfl ?_
      refine W.lcmp hx hb dL_law_739 ?_
      refine lv_if_eq (tgt := 745) hx hb dL_law_740 (by decide) (fun cz => ?_) (fun cz => ?_)
      · have hF := hF.1 cz
        refine lv_goto (tgt := 1951) hx hb dL_law_745 (by decide) ?_
        refine W.widen (k := k0 + 30) (n := n0 + 480) (by omega) (by omega) ?_
        exact hJ _ _ _ hF _ _ _ hP hD hS (lv_sub hl [2, 3, 4, 5, 6] rfl)
      · have hF := hF.2 cz
        refine lv_iconst (v := 0) hx hb dL_law_743 (by decide) ?_
        exact hF.elim
  · have hF := hF.2 cz
    refine lv_iconst (v := 0) hx hb dL_law_726 (by decide) ?_
    exact hF.elim
def wp_case11 (fu : Nat) (σ : SX) (f : Nat → Int64) (u : FX) (K : SX → (Nat → Int64) → FX → Prop) : Prop := (wp_X3_jumps fu σ (fun r749 => (wp_X4_jumps fu u.1 (fun r753 s753 => ((r749 = r753 → (K σ f (s753, u.2))) ∧ (¬ r749 = r753 → False))))))
set_option maxHeartbeats 4000000 in
set_option maxRecDepth 100000 in
theorem m_case11 {p : Program} {e9 : Env} {s : State} {m : MethodId} {below : List Frame} {meth : Method} {c : Code} (l : Launch) (hl9 : l.stackTraces = false) {dC : Nat → ClassId} {dI : Nat → Nat → Nat} {h g : Nat → Nat} {cy : Nat → ClassId} {sa z ad : Nat → Nat} {o b L fu i k0 n0 : Nat} {xs : Nat → Int32} {A : Nat → Prop} {Q : State → Prop} {a0 a1 a2 : Int32}
  (hC : Cx p s m #[Value.ref b] meth c RL code 9 ret) (hK : kwX dC dI cy s) (hXS : XS sa s) (hXZ : XZ A s s.heap) (hN : NCL s) (hZ : ZF z ad A s s.heap) (hvk : vk_R "PegshoreHouseModel" 92 "std" (z 4) s) (hX : va_X b L xs s s.heap) (hbl : b < s.heap.size) (hbA : ¬ A b) (hA : ∀ q : Nat, s.heap.size ≤ q → A q)
  (hi1 : vp_in (nI i + 1) L) (hi2 : vp_in (nI i + 2) L) (hx1 : xs (nI i + 1).toNatClampNeg = a1) (hx2 : xs (nI i + 2).toNatClampNeg = a2) (hk0 : k0 + 30 ≤ 603072) (hn0 : n0 + 480 ≤ 7211114)
  (K : SX → (Nat → Int64) → FX → Prop) (hJ : ∀ σ f u, K σ f u → ∀ (H : Heap) (locs : List Loc) (ls : Array Slot), va_P (dC, dI) classes (wH h cy σ ++ ([(o, .inl (cy 1, 1, .inr (.inl f)))] ++ (wC g cy u.1 ++ (wl ad cy (z 0) (g 20) u.2.1 ++ (wl ad cy (z 0) (g 21) u.2.2.1 ++ (wl ad cy (z 0) (g 22) u.2.2.2.1 ++ wS g cy u.2.2.2.2)))))) H → va_D A (wH h cy σ ++ ([(o, .inl (cy 1, 1, .inr (.inl f)))] ++ (wC g cy u.1 ++ (wl ad cy (z 0) (g 20) u.2.1 ++ (wl ad cy (z 0) (g 21) u.2.2.1 ++ (wl ad cy (z 0) (g 22) u.2.2.2.1 ++ wS g cy u.2.2.2.2)))))) → va_S A s.heap H locs → lv_has ls 9 [(0, .ref b), (1, .ref (h 16)), (2, .ref (g 0)), (3, .ref o), (4, .int (nI i))] → W p l e9 room_1 s m #[Value.ref b] below meth c H locs (k0 + 30) (n0 + 480) Q (F0 m 1951 ls [])) (σ : SX) (f : Nat → Int64) (u : FX) (hF : wp_case11 fu σ f u K) : ∀ (H : Heap) (locs : List Loc) (ls : Array Slot), va_P (dC, dI) classes (wH h cy σ ++ ([(o, .inl (cy 1, 1, .inr (.inl f)))] ++ (wC g cy u.1 ++ (wl ad cy (z 0) (g 20) u.2.1 ++ (wl ad cy (z 0) (g 21) u.2.2.1 ++ (wl ad cy (z 0) (g 22) u.2.2.2.1 ++ wS g cy u.2.2.2.2)))))) H → va_D A (wH h cy σ ++ ([(o, .inl (cy 1, 1, .inr (.inl f)))] ++ (wC g cy u.1 ++ (wl ad cy (z 0) (g 20) u.2.1 ++ (wl ad cy (z 0) (g 21) u.2.2.1 ++ (wl ad cy (z 0) (g 22) u.2.2.2.1 ++ wS g cy u.2.2.2.2)))))) → va_S A s.heap H locs → lv_has ls 9 [(0, .ref b), (1, .ref (h 16)), (2, .ref (g 0)), (3, .ref o), (4, .int (nI i))] → W p l e9 room_1 s m #[Value.ref b] below meth c H locs k0 n0 Q (F0 m 748 ls []) := by
  intro H locs ls hP hD hS hl
  have hx := hC.1
  have hb := hC.2.1
  have hml := hC.2.2.2.1
  have hown := hC.2.2.2.2.1
  have hts := hC.2.2.2.2.2.1
  unfold wp_case11 at hF
  refine lv_aload_n hx hb dL_law_748 rfl (lv_at hl 1 rfl) ?_
  have hPc := fw_get (fp0 _ _) hP
  refine cpVi (q0 := 16) (As := []) (rest := []) hC hK hPc rfl rfl (m_X3_jumps l dC dI h cy fu σ _ hF) k_X3_jumps q206 ⟨rfl, rfl⟩ ⟨Nat.le_of_ble_eq_true rfl, Nat.le_of_ble_eq_true rfl⟩ hl.1 rfl rfl (Nat.le_of_ble_eq_true rfl) dL_law_749 ⟨by show _ ≤ 603072; omega, by show _ ≤ 7211114; omega⟩ (fun r749 hF => ?_)
  refine lv_aload_n hx hb dL_law_752 rfl (lv_at hl 2 rfl) ?_
  have hPc := fw_get (fp2 _ _ _ _) hP
  have hDc := fw_getD (fp2 _ _ _ _) hD
  have hFc := fw_free (fp2 _ _ _ _) hD hS hA
  refine cwVi (q0 := 0) (As := []) (rest := [.int r749]) hC hK hPc hDc rfl rfl hS hFc (m_X4_jumps l dC dI g cy _ fu u.1 _ hF) k_X4_jumps q1320 ⟨rfl, rfl⟩ ⟨Nat.le_of_ble_eq_true rfl, Nat.le_of_ble_eq_true rfl⟩ hl.1 rfl rfl (Nat.le_of_ble_eq_true rfl) dL_law_753 ⟨by show _ ≤ 603072; omega, by show _ ≤ 7211114; omega⟩ (fun r753 s753 H1 locs hF hP9 hD9 hk1 hS => ?_)
  obtain ⟨hP1, hD1⟩ := fw_join (fp2 _ _ _ _) hP hD hk1 hFc hP9 hD9
  have hP := va_P.perm (fp2 _ _ _ _).symm hP1
  have hD := va_D.perm (fp2 _ _ _ _).symm hD1
  generalize H1 = H at hP hS ⊢
  have hP : va_P (dC, dI) classes (wH h cy σ ++ ([(o, .inl (cy 1, 1, .inr (.inl f)))] ++ (wC g cy (s753, u.2).1 ++ (wl ad cy (z 0) (g 20) (s753, u.2).2.1 ++ (wl ad cy (z 0) (g 21) (s753, u.2).2.2.1 ++ (wl ad cy (z 0) (g 22) (s753, u.2).2.2.2.1 ++ wS g cy (s753, u.2).2.2.2.2)))))) H := hP
  have hD : va_D A (wH h cy σ ++ ([(o, .inl (cy 1, 1, .inr (.inl f)))] ++ (wC g cy (s753, u.2).1 ++ (wl ad cy (z 0) (g 20) (s753, u.2).2.1 ++ (wl ad cy (z 0) (g 21) (s753, u.2).2.2.1 ++ (wl ad cy (z 0) (g 22) (s753, u.2).2.2.2.1 ++ wS g cy (s753, u.2).2.2.2.2)))))) := hD
  refine lv_icmp_eq (tgt := 1951) hx hb dL_law_756 (by decide) (fun cz => ?_) (fun cz => ?_)
  · have hF := hF.1 cz
    refine W.widen (k := k0 + 30) (n := n0 + 480) (by omega) (by omega) ?_
    exact hJ _ _ _ hF _ _ _ hP hD hS (lv_sub hl [0, 1, 2, 3, 4] rfl)
  · have hF := hF.2 cz
    refine lv_iconst (v := 0) hx hb dL_law_759 (by decide) ?_
    exact hF.elim
def wp_case12 (fu : Nat) (a1 : Int32) (σ : SX) (f : Nat → Int64) (u : FX) (K : SX → (Nat → Int64) → FX → Prop) : Prop := (wp_L_jumpAt fu σ f a1 (fun r769 s769 f769 => (wp_X4_jumpAt fu u.1 a1 (fun r781 s781 => (wp_X4_thrown ((s781, u.2).1) (fun r787 => ((r787 = r769 → ((¬ r769 = 0 → (K s769 f769 (s781, u.2))) ∧ (r769 = 0 → (((lg_cmp (f769 (0 : Int32).toNatClampNeg) r781.toInt64) = 0 → (K s769 f769 (s781, u.2))) ∧ (¬ (lg_cmp (f769 (0 : Int32).toNatClampNeg) r781.toInt64) = 0 → False))))) ∧ (¬ r787 = r769 → False))))))))
set_option maxHeartbeats 4000000 in
set_option maxRecDepth 100000 in
theorem m_case12 {p : Program} {e9 : Env} {s : State} {m : MethodId} {below : List Frame} {meth : Method} {c : Code} (l : Launch) (hl9 : l.stackTraces = false) {dC : Nat → ClassId} {dI : Nat → Nat → Nat} {h g : Nat → Nat} {cy : Nat → ClassId} {sa z ad : Nat → Nat} {o b L fu i k0 n0 : Nat} {xs : Nat → Int32} {A : Nat → Prop} {Q : State → Prop} {a0 a1 a2 : Int32}
  (hC : Cx p s m #[Value.ref b] meth c RL code 9 ret) (hK : kwX dC dI cy s) (hXS : XS sa s) (hXZ : XZ A s s.heap) (hN : NCL s) (hZ : ZF z ad A s s.heap) (hvk : vk_R "PegshoreHouseModel" 92 "std" (z 4) s) (hX : va_X b L xs s s.heap) (hbl : b < s.heap.size) (hbA : ¬ A b) (hA : ∀ q : Nat, s.heap.size ≤ q → A q)
  (hi1 : vp_in (nI i + 1) L) (hi2 : vp_in (nI i + 2) L) (hx1 : xs (nI i + 1).toNatClampNeg = a1) (hx2 : xs (nI i + 2).toNatClampNeg = a2) (hk0 : k0 + 30 ≤ 603072) (hn0 : n0 + 480 ≤ 7211114)
  (K : SX → (Nat → Int64) → FX → Prop) (hJ : ∀ σ f u, K σ f u → ∀ (H : Heap) (locs : List Loc) (ls : Array Slot), va_P (dC, dI) classes (wH h cy σ ++ ([(o, .inl (cy 1, 1, .inr (.inl f)))] ++ (wC g cy u.1 ++ (wl ad cy (z 0) (g 20) u.2.1 ++ (wl ad cy (z 0) (g 21) u.2.2.1 ++ (wl ad cy (z 0) (g 22) u.2.2.2.1 ++ wS g cy u.2.2.2.2)))))) H → va_D A (wH h cy σ ++ ([(o, .inl (cy 1, 1, .inr (.inl f)))] ++ (wC g cy u.1 ++ (wl ad cy (z 0) (g 20) u.2.1 ++ (wl ad cy (z 0) (g 21) u.2.2.1 ++ (wl ad cy (z 0) (g 22) u.2.2.2.1 ++ wS g cy u.2.2.2.2)))))) → va_S A s.heap H locs → lv_has ls 9 [(0, .ref b), (1, .ref (h 16)), (2, .ref (g 0)), (3, .ref o), (4, .int (nI i))] → W p l e9 room_1 s m #[Value.ref b] below meth c H locs (k0 + 30) (n0 + 480) Q (F0 m 1951 ls [])) (σ : SX) (f : Nat → Int64) (u : FX) (hF : wp_case12 fu a1 σ f u K) : ∀ (H : Heap) (locs : List Loc) (ls : Array Slot), va_P (dC, dI) classes (wH h cy σ ++ ([(o, .inl (cy 1, 1, .inr (.inl f)))] ++ (wC g cy u.1 ++ (wl ad cy (z 0) (g 20) u.2.1 ++ (wl ad cy (z 0) (g 21) u.2.2.1 ++ (wl ad cy (z 0) (g 22) u.2.2.2.1 ++ wS g cy u.2.2.2.2)))))) H → va_D A (wH h cy σ ++ ([(o, .inl (cy 1, 1, .inr (.inl f)))] ++ (wC g cy u.1 ++ (wl ad cy (z 0) (g 20) u.2.1 ++ (wl ad cy (z 0) (g 21) u.2.2.1 ++ (wl ad cy (z 0) (g 22) u.2.2.2.1 ++ wS g cy u.2.2.2.2)))))) → va_S A s.heap H locs → lv_has ls 9 [(0, .ref b), (1, .ref (h 16)), (2, .ref (g 0)), (3, .ref o), (4, .int (nI i))] → W p l e9 room_1 s m #[Value.ref b] below meth c H locs k0 n0 Q (F0 m 761 ls []) := by
  intro H locs ls hP hD hS hl
  have hx := hC.1
  have hb := hC.2.1
  have hml := hC.2.2.2.1
  have hown := hC.2.2.2.2.1
  have hts := hC.2.2.2.2.2.1
  unfold wp_case12 at hF
  refine lv_aload_n hx hb dL_law_761 rfl (lv_at hl 1 rfl) ?_
  refine lv_aload_n hx hb dL_law_762 rfl (lv_at hl 0 rfl) ?_
  refine lv_iload hx hb dL_law_763 (lv_at hl 4 rfl) ?_
  refine lv_iconst (v := 1) hx hb dL_law_765 (by decide) ?_
  refine lv_iadd hx hb dL_law_766 ?_
  refine va_sld hx hb hX hbl hbA hS hi1 dL_law_767 ?_
  rw [hx1]
  refine lv_aload_n hx hb dL_law_768 rfl (lv_at hl 3 rfl) ?_
  refine lwWrap (x := wO h cy o σ f) (wn := fun (u : SX × (Nat → Int64)) => wO h cy o u.1 u.2) (As := [.ref (h 16), .int a1, .ref o]) (rest := []) (fpA _ _ _) hC hK hXS hXZ hN hP hD hS hA (m_L_jumpAt l hl9 dC dI h cy sa o _ fu σ f a1 _ hF) k_L_jumpAt q678 ⟨rfl, rfl⟩ ⟨Nat.le_of_ble_eq_true rfl, Nat.le_of_ble_eq_true rfl⟩ hl.1 rfl rfl (Nat.le_of_ble_eq_true rfl) dL_law_769 ⟨by show _ ≤ 603072; omega, by show _ ≤ 7211114; omega⟩ (fun r769 v9 H1 locs hF hP1 hD1 hS => ?_)
  obtain ⟨s769, f769⟩ := v9
  have hP := va_P.perm (fpA _ _ _).symm hP1
  have hD := va_D.perm (fpA _ _ _).symm hD1
  generalize H1 = H at hP hS ⊢
  have hP : va_P (dC, dI) classes (wH h cy s769 ++ ([(o, .inl (cy 1, 1, .inr (.inl f769)))] ++ (wC g cy u.1 ++ (wl ad cy (z 0) (g 20) u.2.1 ++ (wl ad cy (z 0) (g 21) u.2.2.1 ++ (wl ad cy (z 0) (g 22) u.2.2.2.1 ++ wS g cy u.2.2.2.2)))))) H := hP
  have hD : va_D A (wH h cy s769 ++ ([(o, .inl (cy 1, 1, .inr (.inl f769)))] ++ (wC g cy u.1 ++ (wl ad cy (z 0) (g 20) u.2.1 ++ (wl ad cy (z 0) (g 21) u.2.2.1 ++ (wl ad cy (z 0) (g 22) u.2.2.2.1 ++ wS g cy u.2.2.2.2)))))) := hD
  refine lv_istore (lv' := [(5, .int r769), (0, .ref b), (1, .ref (h 16)), (2, .ref (g 0)), (3, .ref o), (4, .int (nI i))]) hx hb dL_law_772 hl (by decide) rfl (fun ls hl => ?_)
  refine lv_aload_n hx hb dL_law_774 rfl (lv_at hl 3 rfl) ?_
  refine lv_aload_n hx hb dL_law_775 rfl (lv_at hl 1 rfl) ?_
  refine lv_iload hx hb dL_law_776 (lv_at hl 5 rfl) ?_
  refine lv_iconst (v := 1) hx hb dL_law_778 (by decide) ?_
  refine lv_iadd hx hb dL_law_779 ?_
  refine va_sld hx hb hX hbl hbA hS hi1 dL_law_780 ?_
  rw [hx1]
  have hPc := fw_get (fp2 _ _ _ _) hP
  have hDc := fw_getD (fp2 _ _ _ _) hD
  have hFc := fw_free (fp2 _ _ _ _) hD hS hA
  refine cwVi (q0 := 0) (As := [.int a1]) (rest := []) hC hK hPc hDc rfl rfl hS hFc (m_X4_jumpAt l dC dI g cy _ fu u.1 a1 _ hF) k_X4_jumpAt q1328 ⟨rfl, rfl⟩ ⟨Nat.le_of_ble_eq_true rfl, Nat.le_of_ble_eq_true rfl⟩ hl.1 rfl rfl (Nat.le_of_ble_eq_true rfl) dL_law_781 ⟨by show _ ≤ 603072; omega, by show _ ≤ 7211114; omega⟩ (fun r781 s781 H1 locs hF hP9 hD9 hk1 hS => ?_)
  obtain ⟨hP1, hD1⟩ := fw_join (fp2 _ _ _ _) hP hD hk1 hFc hP9 hD9
  have hP := va_P.perm (fp2 _ _ _ _).symm hP1
  have hD := va_D.perm (fp2 _ _ _ _).symm hD1
  generalize H1 = H at hP hS ⊢
  have hP : va_P (dC, dI) classes (wH h cy s769 ++ ([(o, .inl (cy 1, 1, .inr (.inl f769)))] ++ (wC g cy (s781, u.2).1 ++ (wl ad cy (z 0) (g 20) (s781, u.2).2.1 ++ (wl ad cy (z 0) (g 21) (s781, u.2).2.2.1 ++ (wl ad cy (z 0) (g 22) (s781, u.2).2.2.2.1 ++ wS g cy (s781, u.2).2.2.2.2)))))) H := hP
  have hD : va_D A (wH h cy s769 ++ ([(o, .inl (cy 1, 1, .inr (.inl f769)))] ++ (wC g cy (s781, u.2).1 ++ (wl ad cy (z 0) (g 20) (s781, u.2).2.1 ++ (wl ad cy (z 0) (g 21) (s781, u.2).2.2.1 ++ (wl ad cy (z 0) (g 22) (s781, u.2).2.2.2.1 ++ wS g cy (s781, u.2).2.2.2.2)))))) := hD
  refine lv_istore (lv' := [(6, .int r781), (5, .int r769), (0, .ref b), (1, .ref (h 16)), (2, .ref (g 0)), (3, .ref o), (4, .int (nI i))]) hx hb dL_law_784 hl (by decide) rfl (fun ls hl => ?_)
  refine lv_aload_n hx hb dL_law_786 rfl (lv_at hl 4 rfl) ?_
  have hPc := fw_get (fp2 _ _ _ _) hP
  refine cpVi (q0 := 0) (As := []) (rest := []) hC hK hPc rfl rfl (m_X4_thrown l dC dI g cy ((s781, u.2).1) _ hF) k_X4_thrown q1009 ⟨rfl, rfl⟩ ⟨Nat.le_of_ble_eq_true rfl, Nat.le_of_ble_eq_true rfl⟩ hl.1 rfl rfl (Nat.le_of_ble_eq_true rfl) dL_law_787 ⟨by show _ ≤ 603072; omega, by show _ ≤ 7211114; omega⟩ (fun r787 hF => ?_)
  refine lv_iload hx hb dL_law_790 (lv_at hl 1 rfl) ?_
  refine lv_icmp_eq (tgt := 797) hx hb dL_law_792 (by decide) (fun cz => ?_) (fun cz => ?_)
  · have hF := hF.1 cz
    refine lv_iload hx hb dL_law_797 (lv_at hl 1 rfl) ?_
    refine lv_if_ne (tgt := 814) hx hb dL_law_799 (by decide) (fun cz => ?_) (fun cz => ?_)
    · have hF := hF.1 cz
      refine lv_goto (tgt := 1951) hx hb dL_law_814 (by decide) ?_
      refine W.widen (k := k0 + 30) (n := n0 + 480) (by omega) (by omega) ?_
      exact hJ _ _ _ hF _ _ _ hP hD hS (lv_sub hl [2, 3, 4, 5, 6] rfl)
    · have hF := hF.2 cz
      refine lv_aload_n hx hb dL_law_802 rfl (lv_at hl 5 rfl) ?_
      refine lv_iconst (v := 0) hx hb dL_law_803 (by decide) ?_
      refine va_lald hx hb hK.1 hP 21 1 rfl rfl (show vp_in 0 1 from vp_in_nI (n := 0) (by omega) (by omega)) dL_law_804 ?_
      refine lv_iload hx hb dL_law_805 (lv_at hl 0 rfl) ?_
      refine lv_i2l hx hb dL_law_807 rfl ?_
      refine W.lcmp hx hb dL_law_808 ?_
      refine lv_if_eq (tgt := 814) hx hb dL_law_809 (by decide) (fun cz => ?_) (fun cz => ?_)
      · have hF := hF.1 cz
        refine lv_goto (tgt := 1951) hx hb dL_law_814 (by decide) ?_
        refine W.widen (k := k0 + 30) (n := n0 + 480) (by omega) (by omega) ?_
        exact hJ _ _ _ hF _ _ _ hP hD hS (lv_sub hl [2, 3, 4, 5, 6] rfl)
      · have hF := hF.2 cz
        refine lv_iconst (v := 0) hx hb dL_law_812 (by decide) ?_
        exact hF.elim
  · have hF := hF.2 cz
    refine lv_iconst (v := 0) hx hb dL_law_795 (by decide) ?_
    exact hF.elim
def wp_case13 (fu : Nat) (σ : SX) (f : Nat → Int64) (u : FX) (K : SX → (Nat → Int64) → FX → Prop) : Prop := (wp_L_takeBack fu σ f (fun r819 s819 f819 => (wp_X4_takeBack u (fun r825 s825 => (wp_X4_thrown s825.1 (fun r831 => ((r831 = r819 → ((¬ r819 = 0 → (K s819 f819 s825)) ∧ (r819 = 0 → (((lg_cmp (f819 (0 : Int32).toNatClampNeg) r825.toInt64) = 0 → (K s819 f819 s825)) ∧ (¬ (lg_cmp (f819 (0 : Int32).toNatClampNeg) r825.toInt64) = 0 → False))))) ∧ (¬ r831 = r819 → False))))))))
set_option maxHeartbeats 4000000 in
set_option maxRecDepth 100000 in
theorem m_case13 {p : Program} {e9 : Env} {s : State} {m : MethodId} {below : List Frame} {meth : Method} {c : Code} (l : Launch) (hl9 : l.stackTraces = false) {dC : Nat → ClassId} {dI : Nat → Nat → Nat} {h g : Nat → Nat} {cy : Nat → ClassId} {sa z ad : Nat → Nat} {o b L fu i k0 n0 : Nat} {xs : Nat → Int32} {A : Nat → Prop} {Q : State → Prop} {a0 a1 a2 : Int32}
  (hC : Cx p s m #[Value.ref b] meth c RL code 9 ret) (hK : kwX dC dI cy s) (hXS : XS sa s) (hXZ : XZ A s s.heap) (hN : NCL s) (hZ : ZF z ad A s s.heap) (hvk : vk_R "PegshoreHouseModel" 92 "std" (z 4) s) (hX : va_X b L xs s s.heap) (hbl : b < s.heap.size) (hbA : ¬ A b) (hA : ∀ q : Nat, s.heap.size ≤ q → A q)
  (hi1 : vp_in (nI i + 1) L) (hi2 : vp_in (nI i + 2) L) (hx1 : xs (nI i + 1).toNatClampNeg = a1) (hx2 : xs (nI i + 2).toNatClampNeg = a2) (hk0 : k0 + 30 ≤ 603072) (hn0 : n0 + 480 ≤ 7211114)
  (K : SX → (Nat → Int64) → FX → Prop) (hJ : ∀ σ f u, K σ f u → ∀ (H : Heap) (locs : List Loc) (ls : Array Slot), va_P (dC, dI) classes (wH h cy σ ++ ([(o, .inl (cy 1, 1, .inr (.inl f)))] ++ (wC g cy u.1 ++ (wl ad cy (z 0) (g 20) u.2.1 ++ (wl ad cy (z 0) (g 21) u.2.2.1 ++ (wl ad cy (z 0) (g 22) u.2.2.2.1 ++ wS g cy u.2.2.2.2)))))) H → va_D A (wH h cy σ ++ ([(o, .inl (cy 1, 1, .inr (.inl f)))] ++ (wC g cy u.1 ++ (wl ad cy (z 0) (g 20) u.2.1 ++ (wl ad cy (z 0) (g 21) u.2.2.1 ++ (wl ad cy (z 0) (g 22) u.2.2.2.1 ++ wS g cy u.2.2.2.2)))))) → va_S A s.heap H locs → lv_has ls 9 [(0, .ref b), (1, .ref (h 16)), (2, .ref (g 0)), (3, .ref o), (4, .int (nI i))] → W p l e9 room_1 s m #[Value.ref b] below meth c H locs (k0 + 30) (n0 + 480) Q (F0 m 1951 ls [])) (σ : SX) (f : Nat → Int64) (u : FX) (hF : wp_case13 fu σ f u K) : ∀ (H : Heap) (locs : List Loc) (ls : Array Slot), va_P (dC, dI) classes (wH h cy σ ++ ([(o, .inl (cy 1, 1, .inr (.inl f)))] ++ (wC g cy u.1 ++ (wl ad cy (z 0) (g 20) u.2.1 ++ (wl ad cy (z 0) (g 21) u.2.2.1 ++ (wl ad cy (z 0) (g 22) u.2.2.2.1 ++ wS g cy u.2.2.2.2)))))) H → va_D A (wH h cy σ ++ ([(o, .inl (cy 1, 1, .inr (.inl f)))] ++ (wC g cy u.1 ++ (wl ad cy (z 0) (g 20) u.2.1 ++ (wl ad cy (z 0) (g 21) u.2.2.1 ++ (wl ad cy (z 0) (g 22) u.2.2.2.1 ++ wS g cy u.2.2.2.2)))))) → va_S A s.heap H locs → lv_has ls 9 [(0, .ref b), (1, .ref (h 16)), (2, .ref (g 0)), (3, .ref o), (4, .int (nI i))] → W p l e9 room_1 s m #[Value.ref b] below meth c H locs k0 n0 Q (F0 m 817 ls []) := by
  intro H locs ls hP hD hS hl
  have hx := hC.1
  have hb := hC.2.1
  have hml := hC.2.2.2.1
  have hown := hC.2.2.2.2.1
  have hts := hC.2.2.2.2.2.1
  unfold wp_case13 at hF
  refine lv_aload_n hx hb dL_law_817 rfl (lv_at hl 1 rfl) ?_
  refine lv_aload_n hx hb dL_law_818 rfl (lv_at hl 3 rfl) ?_
  refine lwWrap (x := wO h cy o σ f) (wn := fun (u : SX × (Nat → Int64)) => wO h cy o u.1 u.2) (As := [.ref (h 16), .ref o]) (rest := []) (fpA _ _ _) hC hK hXS hXZ hN hP hD hS hA (m_L_takeBack l hl9 dC dI h cy sa o _ fu σ f _ hF) k_L_takeBack q690 ⟨rfl, rfl⟩ ⟨Nat.le_of_ble_eq_true rfl, Nat.le_of_ble_eq_true rfl⟩ hl.1 rfl rfl (Nat.le_of_ble_eq_true rfl) dL_law_819 ⟨by show _ ≤ 603072; omega, by show _ ≤ 7211114; omega⟩ (fun r819 v9 H1 locs hF hP1 hD1 hS => ?_)
  obtain ⟨s819, f819⟩ := v9
  have hP := va_P.perm (fpA _ _ _).symm hP1
  have hD := va_D.perm (fpA _ _ _).symm hD1
  generalize H1 = H at hP hS ⊢
  have hP : va_P (dC, dI) classes (wH h cy s819 ++ ([(o, .inl (cy 1, 1, .inr (.inl f819)))] ++ (wC g cy u.1 ++ (wl ad cy (z 0) (g 20) u.2.1 ++ (wl ad cy (z 0) (g 21) u.2.2.1 ++ (wl ad cy (z 0) (g 22) u.2.2.2.1 ++ wS g cy u.2.2.2.2)))))) H := hP
  have hD : va_D A (wH h cy s819 ++ ([(o, .inl (cy 1, 1, .inr (.inl f819)))] ++ (wC g cy u.1 ++ (wl ad cy (z 0) (g 20) u.2.1 ++ (wl ad cy (z 0) (g 21) u.2.2.1 ++ (wl ad cy (z 0) (g 22) u.2.2.2.1 ++ wS g cy u.2.2.2.2)))))) := hD
  refine lv_istore (lv' := [(5, .int r819), (0, .ref b), (1, .ref (h 16)), (2, .ref (g 0)), (3, .ref o), (4, .int (nI i))]) hx hb dL_law_822 hl (by decide) rfl (fun ls hl => ?_)
  refine lv_aload_n hx hb dL_law_824 rfl (lv_at hl 3 rfl) ?_
  refine cfVi (x := wC g cy u.1 ++ (wl ad cy (z 0) (g 20) u.2.1 ++ (wl ad cy (z 0) (g 21) u.2.2.1 ++ (wl ad cy (z 0) (g 22) u.2.2.2.1 ++ wS g cy u.2.2.2.2)))) (As := []) (rest := []) (fpF _ _ _) hC hK hP hD hZ hvk hS hA rfl (m_X4_takeBack l dC dI g cy z ad _ u _ hF) k_X4_takeBack q1336 ⟨rfl, rfl⟩ ⟨Nat.le_of_ble_eq_true rfl, Nat.le_of_ble_eq_true rfl⟩ hl.1 rfl rfl (Nat.le_of_ble_eq_true rfl) dL_law_825 ⟨by show _ ≤ 603072; omega, by show _ ≤ 7211114; omega⟩ (fun r825 s825 H1 locs hF hP1 hD1 hS => ?_)
  have hP := va_P.perm (fpF _ _ _).symm hP1
  have hD := va_D.perm (fpF _ _ _).symm hD1
  generalize H1 = H at hP hS ⊢
  have hP : va_P (dC, dI) classes (wH h cy s819 ++ ([(o, .inl (cy 1, 1, .inr (.inl f819)))] ++ (wC g cy s825.1 ++ (wl ad cy (z 0) (g 20) s825.2.1 ++ (wl ad cy (z 0) (g 21) s825.2.2.1 ++ (wl ad cy (z 0) (g 22) s825.2.2.2.1 ++ wS g cy s825.2.2.2.2)))))) H := hP
  have hD : va_D A (wH h cy s819 ++ ([(o, .inl (cy 1, 1, .inr (.inl f819)))] ++ (wC g cy s825.1 ++ (wl ad cy (z 0) (g 20) s825.2.1 ++ (wl ad cy (z 0) (g 21) s825.2.2.1 ++ (wl ad cy (z 0) (g 22) s825.2.2.2.1 ++ wS g cy s825.2.2.2.2)))))) := hD
  refine lv_istore (lv' := [(6, .int r825), (5, .int r819), (0, .ref b), (1, .ref (h 16)), (2, .ref (g 0)), (3, .ref o), (4, .int (nI i))]) hx hb dL_law_828 hl (by decide) rfl (fun ls hl => ?_)
  refine lv_aload_n hx hb dL_law_830 rfl (lv_at hl 4 rfl) ?_
  have hPc := fw_get (fp2 _ _ _ _) hP
  refine cpVi (q0 := 0) (As := []) (rest := []) hC hK hPc rfl rfl (m_X4_thrown l dC dI g cy s825.1 _ hF) k_X4_thrown q1009 ⟨rfl, rfl⟩ ⟨Nat.le_of_ble_eq_true rfl, Nat.le_of_ble_eq_true rfl⟩ hl.1 rfl rfl (Nat.le_of_ble_eq_true rfl) dL_law_831 ⟨by show _ ≤ 603072; omega, by show _ ≤ 7211114; omega⟩ (fun r831 hF => ?_)
  refine lv_iload hx hb dL_law_834 (lv_at hl 1 rfl) ?_
  refine lv_icmp_eq (tgt := 841) hx hb dL_law_836 (by decide) (fun cz => ?_) (fun cz => ?_)
  · have hF := hF.1 cz
    refine lv_iload hx hb dL_law_841 (lv_at hl 1 rfl) ?_
    refine lv_if_ne (tgt := 858) hx hb dL_law_843 (by decide) (fun cz => ?_) (fun cz => ?_)
    · have hF := hF.1 cz
      refine lv_goto (tgt := 1951) hx hb dL_law_858 (by decide) ?_
      refine W.widen (k := k0 + 30) (n := n0 + 480) (by omega) (by omega) ?_
      exact hJ _ _ _ hF _ _ _ hP hD hS (lv_sub hl [2, 3, 4, 5, 6] rfl)
    · have hF := hF.2 cz
      refine lv_aload_n hx hb dL_law_846 rfl (lv_at hl 5 rfl) ?_
      refine lv_iconst (v := 0) hx hb dL_law_847 (by decide) ?_
      refine va_lald hx hb hK.1 hP 21 1 rfl rfl (show vp_in 0 1 from vp_in_nI (n := 0) (by omega) (by omega)) dL_law_848 ?_
      refine lv_iload hx hb dL_law_849 (lv_at hl 0 rfl) ?_
      refine lv_i2l hx hb dL_law_851 rfl ?_
      refine W.lcmp hx hb dL_law_852 ?_
      refine lv_if_eq (tgt := 858) hx hb dL_law_853 (by decide) (fun cz => ?_) (fun cz => ?_)
      · have hF := hF.1 cz
        refine lv_goto (tgt := 1951) hx hb dL_law_858 (by decide) ?_
        refine W.widen (k := k0 + 30) (n := n0 + 480) (by omega) (by omega) ?_
        exact hJ _ _ _ hF _ _ _ hP hD hS (lv_sub hl [2, 3, 4, 5, 6] rfl)
      · have hF := hF.2 cz
        refine lv_iconst (v := 0) hx hb dL_law_856 (by decide) ?_
        exact hF.elim
  · have hF := hF.2 cz
    refine lv_iconst (v := 0) hx hb dL_law_839 (by decide) ?_
    exact hF.elim
def wp_case14 (σ : SX) (f : Nat → Int64) (u : FX) (K : SX → (Nat → Int64) → FX → Prop) : Prop := (wp_X3_made σ (fun r862 => (wp_X4_made u (fun r866 s866 => ((r862 = r866 → (K σ f s866)) ∧ (¬ r862 = r866 → False))))))
set_option maxHeartbeats 4000000 in
set_option maxRecDepth 100000 in
theorem m_case14 {p : Program} {e9 : Env} {s : State} {m : MethodId} {below : List Frame} {meth : Method} {c : Code} (l : Launch) (hl9 : l.stackTraces = false) {dC : Nat → ClassId} {dI : Nat → Nat → Nat} {h g : Nat → Nat} {cy : Nat → ClassId} {sa z ad : Nat → Nat} {o b L fu i k0 n0 : Nat} {xs : Nat → Int32} {A : Nat → Prop} {Q : State → Prop} {a0 a1 a2 : Int32}
  (hC : Cx p s m #[Value.ref b] meth c RL code 9 ret) (hK : kwX dC dI cy s) (hXS : XS sa s) (hXZ : XZ A s s.heap) (hN : NCL s) (hZ : ZF z ad A s s.heap) (hvk : vk_R "PegshoreHouseModel" 92 "std" (z 4) s) (hX : va_X b L xs s s.heap) (hbl : b < s.heap.size) (hbA : ¬ A b) (hA : ∀ q : Nat, s.heap.size ≤ q → A q)
  (hi1 : vp_in (nI i + 1) L) (hi2 : vp_in (nI i + 2) L) (hx1 : xs (nI i + 1).toNatClampNeg = a1) (hx2 : xs (nI i + 2).toNatClampNeg = a2) (hk0 : k0 + 30 ≤ 603072) (hn0 : n0 + 480 ≤ 7211114)
  (K : SX → (Nat → Int64) → FX → Prop) (hJ : ∀ σ f u, K σ f u → ∀ (H : Heap) (locs : List Loc) (ls : Array Slot), va_P (dC, dI) classes (wH h cy σ ++ ([(o, .inl (cy 1, 1, .inr (.inl f)))] ++ (wC g cy u.1 ++ (wl ad cy (z 0) (g 20) u.2.1 ++ (wl ad cy (z 0) (g 21) u.2.2.1 ++ (wl ad cy (z 0) (g 22) u.2.2.2.1 ++ wS g cy u.2.2.2.2)))))) H → va_D A (wH h cy σ ++ ([(o, .inl (cy 1, 1, .inr (.inl f)))] ++ (wC g cy u.1 ++ (wl ad cy (z 0) (g 20) u.2.1 ++ (wl ad cy (z 0) (g 21) u.2.2.1 ++ (wl ad cy (z 0) (g 22) u.2.2.2.1 ++ wS g cy u.2.2.2.2)))))) → va_S A s.heap H locs → lv_has ls 9 [(0, .ref b), (1, .ref (h 16)), (2, .ref (g 0)), (3, .ref o), (4, .int (nI i))] → W p l e9 room_1 s m #[Value.ref b] below meth c H locs (k0 + 30) (n0 + 480) Q (F0 m 1951 ls [])) (σ : SX) (f : Nat → Int64) (u : FX) (hF : wp_case14 σ f u K) : ∀ (H : Heap) (locs : List Loc) (ls : Array Slot), va_P (dC, dI) classes (wH h cy σ ++ ([(o, .inl (cy 1, 1, .inr (.inl f)))] ++ (wC g cy u.1 ++ (wl ad cy (z 0) (g 20) u.2.1 ++ (wl ad cy (z 0) (g 21) u.2.2.1 ++ (wl ad cy (z 0) (g 22) u.2.2.2.1 ++ wS g cy u.2.2.2.2)))))) H → va_D A (wH h cy σ ++ ([(o, .inl (cy 1, 1, .inr (.inl f)))] ++ (wC g cy u.1 ++ (wl ad cy (z 0) (g 20) u.2.1 ++ (wl ad cy (z 0) (g 21) u.2.2.1 ++ (wl ad cy (z 0) (g 22) u.2.2.2.1 ++ wS g cy u.2.2.2.2)))))) → va_S A s.heap H locs → lv_has ls 9 [(0, .ref b), (1, .ref (h 16)), (2, .ref (g 0)), (3, .ref o), (4, .int (nI i))] → W p l e9 room_1 s m #[Value.ref b] below meth c H locs k0 n0 Q (F0 m 861 ls []) := by
  intro H locs ls hP hD hS hl
  have hx := hC.1
  have hb := hC.2.1
  have hml := hC.2.2.2.1
  have hown := hC.2.2.2.2.1
  have hts := hC.2.2.2.2.2.1
  unfold wp_case14 at hF
  refine lv_aload_n hx hb dL_law_861 rfl (lv_at hl 1 rfl) ?_
  have hPc := fw_get (fp0 _ _) hP
  refine cpVi (q0 := 16) (As := []) (rest := []) hC hK hPc rfl rfl (m_X3_made l dC dI h cy σ _ hF) k_X3_made q218 ⟨rfl, rfl⟩ ⟨Nat.le_of_ble_eq_true rfl, Nat.le_of_ble_eq_true rfl⟩ hl.1 rfl rfl (Nat.le_of_ble_eq_true rfl) dL_law_862 ⟨by show _ ≤ 603072; omega, by show _ ≤ 7211114; omega⟩ (fun r862 hF => ?_)
  refine lv_aload_n hx hb dL_law_865 rfl (lv_at hl 2 rfl) ?_
  refine cfVi (x := wC g cy u.1 ++ (wl ad cy (z 0) (g 20) u.2.1 ++ (wl ad cy (z 0) (g 21) u.2.2.1 ++ (wl ad cy (z 0) (g 22) u.2.2.2.1 ++ wS g cy u.2.2.2.2)))) (As := []) (rest := [.int r862]) (fpF _ _ _) hC hK hP hD hZ hvk hS hA rfl (m_X4_made l dC dI g cy z ad _ u _ hF) k_X4_made q1381 ⟨rfl, rfl⟩ ⟨Nat.le_of_ble_eq_true rfl, Nat.le_of_ble_eq_true rfl⟩ hl.1 rfl rfl (Nat.le_of_ble_eq_true rfl) dL_law_866 ⟨by show _ ≤ 603072; omega, by show _ ≤ 7211114; omega⟩ (fun r866 s866 H1 locs hF hP1 hD1 hS => ?_)
  have hP := va_P.perm (fpF _ _ _).symm hP1
  have hD := va_D.perm (fpF _ _ _).symm hD1
  generalize H1 = H at hP hS ⊢
  have hP : va_P (dC, dI) classes (wH h cy σ ++ ([(o, .inl (cy 1, 1, .inr (.inl f)))] ++ (wC g cy s866.1 ++ (wl ad cy (z 0) (g 20) s866.2.1 ++ (wl ad cy (z 0) (g 21) s866.2.2.1 ++ (wl ad cy (z 0) (g 22) s866.2.2.2.1 ++ wS g cy s866.2.2.2.2)))))) H := hP
  have hD : va_D A (wH h cy σ ++ ([(o, .inl (cy 1, 1, .inr (.inl f)))] ++ (wC g cy s866.1 ++ (wl ad cy (z 0) (g 20) s866.2.1 ++ (wl ad cy (z 0) (g 21) s866.2.2.1 ++ (wl ad cy (z 0) (g 22) s866.2.2.2.1 ++ wS g cy s866.2.2.2.2)))))) := hD
  refine lv_icmp_eq (tgt := 1951) hx hb dL_law_869 (by decide) (fun cz => ?_) (fun cz => ?_)
  · have hF := hF.1 cz
    refine W.widen (k := k0 + 30) (n := n0 + 480) (by omega) (by omega) ?_
    exact hJ _ _ _ hF _ _ _ hP hD hS (lv_sub hl [0, 1, 2, 3, 4] rfl)
  · have hF := hF.2 cz
    refine lv_iconst (v := 0) hx hb dL_law_872 (by decide) ?_
    exact hF.elim
def wp_case15 (fu : Nat) (σ : SX) (f : Nat → Int64) (u : FX) (K : SX → (Nat → Int64) → FX → Prop) : Prop := (wp_X3_sweeps fu σ (fun r875 => (wp_X4_sweeps fu u (fun r879 s879 => ((r875 = r879 → (K σ f s879)) ∧ (¬ r875 = r879 → False))))))
set_option maxHeartbeats 4000000 in
set_option maxRecDepth 100000 in
theorem m_case15 {p : Program} {e9 : Env} {s : State} {m : MethodId} {below : List Frame} {meth : Method} {c : Code} (l : Launch) (hl9 : l.stackTraces = false) {dC : Nat → ClassId} {dI : Nat → Nat → Nat} {h g : Nat → Nat} {cy : Nat → ClassId} {sa z ad : Nat → Nat} {o b L fu i k0 n0 : Nat} {xs : Nat → Int32} {A : Nat → Prop} {Q : State → Prop} {a0 a1 a2 : Int32}
  (hC : Cx p s m #[Value.ref b] meth c RL code 9 ret) (hK : kwX dC dI cy s) (hXS : XS sa s) (hXZ : XZ A s s.heap) (hN : NCL s) (hZ : ZF z ad A s s.heap) (hvk : vk_R "PegshoreHouseModel" 92 "std" (z 4) s) (hX : va_X b L xs s s.heap) (hbl : b < s.heap.size) (hbA : ¬ A b) (hA : ∀ q : Nat, s.heap.size ≤ q → A q)
  (hi1 : vp_in (nI i + 1) L) (hi2 : vp_in (nI i + 2) L) (hx1 : xs (nI i + 1).toNatClampNeg = a1) (hx2 : xs (nI i + 2).toNatClampNeg = a2) (hk0 : k0 + 30 ≤ 603072) (hn0 : n0 + 480 ≤ 7211114)
  (K : SX → (Nat → Int64) → FX → Prop) (hJ : ∀ σ f u, K σ f u → ∀ (H : Heap) (locs : List Loc) (ls : Array Slot), va_P (dC, dI) classes (wH h cy σ ++ ([(o, .inl (cy 1, 1, .inr (.inl f)))] ++ (wC g cy u.1 ++ (wl ad cy (z 0) (g 20) u.2.1 ++ (wl ad cy (z 0) (g 21) u.2.2.1 ++ (wl ad cy (z 0) (g 22) u.2.2.2.1 ++ wS g cy u.2.2.2.2)))))) H → va_D A (wH h cy σ ++ ([(o, .inl (cy 1, 1, .inr (.inl f)))] ++ (wC g cy u.1 ++ (wl ad cy (z 0) (g 20) u.2.1 ++ (wl ad cy (z 0) (g 21) u.2.2.1 ++ (wl ad cy (z 0) (g 22) u.2.2.2.1 ++ wS g cy u.2.2.2.2)))))) → va_S A s.heap H locs → lv_has ls 9 [(0, .ref b), (1, .ref (h 16)), (2, .ref (g 0)), (3, .ref o), (4, .int (nI i))] → W p l e9 room_1 s m #[Value.ref b] below meth c H locs (k0 + 30) (n0 + 480) Q (F0 m 1951 ls [])) (σ : SX) (f : Nat → Int64) (u : FX) (hF : wp_case15 fu σ f u K) : ∀ (H : Heap) (locs : List Loc) (ls : Array Slot), va_P (dC, dI) classes (wH h cy σ ++ ([(o, .inl (cy 1, 1, .inr (.inl f)))] ++ (wC g cy u.1 ++ (wl ad cy (z 0) (g 20) u.2.1 ++ (wl ad cy (z 0) (g 21) u.2.2.1 ++ (wl ad cy (z 0) (g 22) u.2.2.2.1 ++ wS g cy u.2.2.2.2)))))) H → va_D A (wH h cy σ ++ ([(o, .inl (cy 1, 1, .inr (.inl f)))] ++ (wC g cy u.1 ++ (wl ad cy (z 0) (g 20) u.2.1 ++ (wl ad cy (z 0) (g 21) u.2.2.1 ++ (wl ad cy (z 0) (g 22) u.2.2.2.1 ++ wS g cy u.2.2.2.2)))))) → va_S A s.heap H locs → lv_has ls 9 [(0, .ref b), (1, .ref (h 16)), (2, .ref (g 0)), (3, .ref o), (4, .int (nI i))] → W p l e9 room_1 s m #[Value.ref b] below meth c H locs k0 n0 Q (F0 m 874 ls []) := by
  intro H locs ls hP hD hS hl
  have hx := hC.1
  have hb := hC.2.1
  have hml := hC.2.2.2.1
  have hown := hC.2.2.2.2.1
  have hts := hC.2.2.2.2.2.1
  unfold wp_case15 at hF
  refine lv_aload_n hx hb dL_law_874 rfl (lv_at hl 1 rfl) ?_
  have hPc := fw_get (fp0 _ _) hP
  refine cpVi (q0 := 16) (As := []) (rest := []) hC hK hPc rfl rfl (m_X3_sweeps l dC dI h cy fu σ _ hF) k_X3_sweeps q223 ⟨rfl, rfl⟩ ⟨Nat.le_of_ble_eq_true rfl, Nat.le_of_ble_eq_true rfl⟩ hl.1 rfl rfl (Nat.le_of_ble_eq_true rfl) dL_law_875 ⟨by show _ ≤ 603072; omega, by show _ ≤ 7211114; omega⟩ (fun r875 hF => ?_)
  refine lv_aload_n hx hb dL_law_878 rfl (lv_at hl 2 rfl) ?_
  refine cfVi (x := wC g cy u.1 ++ (wl ad cy (z 0) (g 20) u.2.1 ++ (wl ad cy (z 0) (g 21) u.2.2.1 ++ (wl ad cy (z 0) (g 22) u.2.2.2.1 ++ wS g cy u.2.2.2.2)))) (As := []) (rest := [.int r875]) (fpF _ _ _) hC hK hP hD hZ hvk hS hA rfl (m_X4_sweeps l dC dI g cy z ad _ fu u _ hF) k_X4_sweeps q1385 ⟨rfl, rfl⟩ ⟨Nat.le_of_ble_eq_true rfl, Nat.le_of_ble_eq_true rfl⟩ hl.1 rfl rfl (Nat.le_of_ble_eq_true rfl) dL_law_879 ⟨by show _ ≤ 603072; omega, by show _ ≤ 7211114; omega⟩ (fun r879 s879 H1 locs hF hP1 hD1 hS => ?_)
  have hP := va_P.perm (fpF _ _ _).symm hP1
  have hD := va_D.perm (fpF _ _ _).symm hD1
  generalize H1 = H at hP hS ⊢
  have hP : va_P (dC, dI) classes (wH h cy σ ++ ([(o, .inl (cy 1, 1, .inr (.inl f)))] ++ (wC g cy s879.1 ++ (wl ad cy (z 0) (g 20) s879.2.1 ++ (wl ad cy (z 0) (g 21) s879.2.2.1 ++ (wl ad cy (z 0) (g 22) s879.2.2.2.1 ++ wS g cy s879.2.2.2.2)))))) H := hP
  have hD : va_D A (wH h cy σ ++ ([(o, .inl (cy 1, 1, .inr (.inl f)))] ++ (wC g cy s879.1 ++ (wl ad cy (z 0) (g 20) s879.2.1 ++ (wl ad cy (z 0) (g 21) s879.2.2.1 ++ (wl ad cy (z 0) (g 22) s879.2.2.2.1 ++ wS g cy s879.2.2.2.2)))))) := hD
  refine lv_icmp_eq (tgt := 1951) hx hb dL_law_882 (by decide) (fun cz => ?_) (fun cz => ?_)
  · have hF := hF.1 cz
    refine W.widen (k := k0 + 30) (n := n0 + 480) (by omega) (by omega) ?_
    exact hJ _ _ _ hF _ _ _ hP hD hS (lv_sub hl [0, 1, 2, 3, 4] rfl)
  · have hF := hF.2 cz
    refine lv_iconst (v := 0) hx hb dL_law_885 (by decide) ?_
    exact hF.elim
def wp_case16 (fu : Nat) (a1 : Int32) (σ : SX) (f : Nat → Int64) (u : FX) (K : SX → (Nat → Int64) → FX → Prop) : Prop := (wp_L_leastForm fu σ f a1 (fun r895 s895 f895 => (wp_X4_leastForm fu u.1 a1 (fun r907 s907 => (wp_X4_thrown ((s907, u.2).1) (fun r913 => ((r913 = r895 → ((¬ r895 = 0 → (K s895 f895 (s907, u.2))) ∧ (r895 = 0 → (((lg_cmp (f895 (0 : Int32).toNatClampNeg) r907.toInt64) = 0 → (K s895 f895 (s907, u.2))) ∧ (¬ (lg_cmp (f895 (0 : Int32).toNatClampNeg) r907.toInt64) = 0 → False))))) ∧ (¬ r913 = r895 → False))))))))
set_option maxHeartbeats 4000000 in
set_option maxRecDepth 100000 in
theorem m_case16 {p : Program} {e9 : Env} {s : State} {m : MethodId} {below : List Frame} {meth : Method} {c : Code} (l : Launch) (hl9 : l.stackTraces = false) {dC : Nat → ClassId} {dI : Nat → Nat → Nat} {h g : Nat → Nat} {cy : Nat → ClassId} {sa z ad : Nat → Nat} {o b L fu i k0 n0 : Nat} {xs : Nat → Int32} {A : Nat → Prop} {Q : State → Prop} {a0 a1 a2 : Int32}
  (hC : Cx p s m #[Value.ref b] meth c RL code 9 ret) (hK : kwX dC dI cy s) (hXS : XS sa s) (hXZ : XZ A s s.heap) (hN : NCL s) (hZ : ZF z ad A s s.heap) (hvk : vk_R "PegshoreHouseModel" 92 "std" (z 4) s) (hX : va_X b L xs s s.heap) (hbl : b < s.heap.size) (hbA : ¬ A b) (hA : ∀ q : Nat, s.heap.size ≤ q → A q)
  (hi1 : vp_in (nI i + 1) L) (hi2 : vp_in (nI i + 2) L) (hx1 : xs (nI i + 1).toNatClampNeg = a1) (hx2 : xs (nI i + 2).toNatClampNeg = a2) (hk0 : k0 + 30 ≤ 603072) (hn0 : n0 + 480 ≤ 7211114)
  (K : SX → (Nat → Int64) → FX → Prop) (hJ : ∀ σ f u, K σ f u → ∀ (H : Heap) (locs : List Loc) (ls : Array Slot), va_P (dC, dI) classes (wH h cy σ ++ ([(o, .inl (cy 1, 1, .inr (.inl f)))] ++ (wC g cy u.1 ++ (wl ad cy (z 0) (g 20) u.2.1 ++ (wl ad cy (z 0) (g 21) u.2.2.1 ++ (wl ad cy (z 0) (g 22) u.2.2.2.1 ++ wS g cy u.2.2.2.2)))))) H → va_D A (wH h cy σ ++ ([(o, .inl (cy 1, 1, .inr (.inl f)))] ++ (wC g cy u.1 ++ (wl ad cy (z 0) (g 20) u.2.1 ++ (wl ad cy (z 0) (g 21) u.2.2.1 ++ (wl ad cy (z 0) (g 22) u.2.2.2.1 ++ wS g cy u.2.2.2.2)))))) → va_S A s.heap H locs → lv_has ls 9 [(0, .ref b), (1, .ref (h 16)), (2, .ref (g 0)), (3, .ref o), (4, .int (nI i))] → W p l e9 room_1 s m #[Value.ref b] below meth c H locs (k0 + 30) (n0 + 480) Q (F0 m 1951 ls [])) (σ : SX) (f : Nat → Int64) (u : FX) (hF : wp_case16 fu a1 σ f u K) : ∀ (H : Heap) (locs : List Loc) (ls : Array Slot), va_P (dC, dI) classes (wH h cy σ ++ ([(o, .inl (cy 1, 1, .inr (.inl f)))] ++ (wC g cy u.1 ++ (wl ad cy (z 0) (g 20) u.2.1 ++ (wl ad cy (z 0) (g 21) u.2.2.1 ++ (wl ad cy (z 0) (g 22) u.2.2.2.1 ++ wS g cy u.2.2.2.2)))))) H → va_D A (wH h cy σ ++ ([(o, .inl (cy 1, 1, .inr (.inl f)))] ++ (wC g cy u.1 ++ (wl ad cy (z 0) (g 20) u.2.1 ++ (wl ad cy (z 0) (g 21) u.2.2.1 ++ (wl ad cy (z 0) (g 22) u.2.2.2.1 ++ wS g cy u.2.2.2.2)))))) → va_S A s.heap H locs → lv_has ls 9 [(0, .ref b), (1, .ref (h 16)), (2, .ref (g 0)), (3, .ref o), (4, .int (nI i))] → W p l e9 room_1 s m #[Value.ref b] below meth c H locs k0 n0 Q (F0 m 887 ls []) := by
  intro H locs ls hP hD hS hl
  have hx := hC.1
  have hb := hC.2.1
  have hml := hC.2.2.2.1
  have hown := hC.2.2.2.2.1
  have hts := hC.2.2.2.2.2.1
  unfold wp_case16 at hF
  refine lv_aload_n hx hb dL_law_887 rfl (lv_at hl 1 rfl) ?_
  refine lv_aload_n hx hb dL_law_888 rfl (lv_at hl 0 rfl) ?_
  refine lv_iload hx hb dL_law_889 (lv_at hl 4 rfl) ?_
  refine lv_iconst (v := 1) hx hb dL_law_891 (by decide) ?_
  refine lv_iadd hx hb dL_law_892 ?_
  refine va_sld hx hb hX hbl hbA hS hi1 dL_law_893 ?_
  rw [hx1]
  refine lv_aload_n hx hb dL_law_894 rfl (lv_at hl 3 rfl) ?_
  refine lwWrap (x := wO h cy o σ f) (wn := fun (u : SX × (Nat → Int64)) => wO h cy o u.1 u.2) (As := [.ref (h 16), .int a1, .ref o]) (rest := []) (fpA _ _ _) hC hK hXS hXZ hN hP hD hS hA (m_L_leastForm l hl9 dC dI h cy sa o _ fu σ f a1 _ hF) k_L_leastForm q703 ⟨rfl, rfl⟩ ⟨Nat.le_of_ble_eq_true rfl, Nat.le_of_ble_eq_true rfl⟩ hl.1 rfl rfl (Nat.le_of_ble_eq_true rfl) dL_law_895 ⟨by show _ ≤ 603072; omega, by show _ ≤ 7211114; omega⟩ (fun r895 v9 H1 locs hF hP1 hD1 hS => ?_)
  obtain ⟨s895, f895⟩ := v9
  have hP := va_P.perm (fpA _ _ _).symm hP1
  have hD := va_D.perm (fpA _ _ _).symm hD1
  generalize H1 = H at hP hS ⊢
  have hP : va_P (dC, dI) classes (wH h cy s895 ++ ([(o, .inl (cy 1, 1, .inr (.inl f895)))] ++ (wC g cy u.1 ++ (wl ad cy (z 0) (g 20) u.2.1 ++ (wl ad cy (z 0) (g 21) u.2.2.1 ++ (wl ad cy (z 0) (g 22) u.2.2.2.1 ++ wS g cy u.2.2.2.2)))))) H := hP
  have hD : va_D A (wH h cy s895 ++ ([(o, .inl (cy 1, 1, .inr (.inl f895)))] ++ (wC g cy u.1 ++ (wl ad cy (z 0) (g 20) u.2.1 ++ (wl ad cy (z 0) (g 21) u.2.2.1 ++ (wl ad cy (z 0) (g 22) u.2.2.2.1 ++ wS g cy u.2.2.2.2)))))) := hD
  refine lv_istore (lv' := [(5, .int r895), (0, .ref b), (1, .ref (h 16)), (2, .ref (g 0)), (3, .ref o), (4, .int (nI i))]) hx hb dL_law_898 hl (by decide) rfl (fun ls hl => ?_)
  refine lv_aload_n hx hb dL_law_900 rfl (lv_at hl 3 rfl) ?_
  refine lv_aload_n hx hb dL_law_901 rfl (lv_at hl 1 rfl) ?_
  refine lv_iload hx hb dL_law_902 (lv_at hl 5 rfl) ?_
  refine lv_iconst (v := 1) hx hb dL_law_904 (by decide) ?_
  refine lv_iadd hx hb dL_law_905 ?_
  refine va_sld hx hb hX hbl hbA hS hi1 dL_law_906 ?_
  rw [hx1]
  have hPc := fw_get (fp2 _ _ _ _) hP
  have hDc := fw_getD (fp2 _ _ _ _) hD
  have hFc := fw_free (fp2 _ _ _ _) hD hS hA
  refine cwVi (q0 := 0) (As := [.int a1]) (rest := []) hC hK hPc hDc rfl rfl hS hFc (m_X4_leastForm l dC dI g cy _ fu u.1 a1 _ hF) k_X4_leastForm q1186 ⟨rfl, rfl⟩ ⟨Nat.le_of_ble_eq_true rfl, Nat.le_of_ble_eq_true rfl⟩ hl.1 rfl rfl (Nat.le_of_ble_eq_true rfl) dL_law_907 ⟨by show _ ≤ 603072; omega, by show _ ≤ 7211114; omega⟩ (fun r907 s907 H1 locs hF hP9 hD9 hk1 hS => ?_)
  obtain ⟨hP1, hD1⟩ := fw_join (fp2 _ _ _ _) hP hD hk1 hFc hP9 hD9
  have hP := va_P.perm (fp2 _ _ _ _).symm hP1
  have hD := va_D.perm (fp2 _ _ _ _).symm hD1
  generalize H1 = H at hP hS ⊢
  have hP : va_P (dC, dI) classes (wH h cy s895 ++ ([(o, .inl (cy 1, 1, .inr (.inl f895)))] ++ (wC g cy (s907, u.2).1 ++ (wl ad cy (z 0) (g 20) (s907, u.2).2.1 ++ (wl ad cy (z 0) (g 21) (s907, u.2).2.2.1 ++ (wl ad cy (z 0) (g 22) (s907, u.2).2.2.2.1 ++ wS g cy (s907, u.2).2.2.2.2)))))) H := hP
  have hD : va_D A (wH h cy s895 ++ ([(o, .inl (cy 1, 1, .inr (.inl f895)))] ++ (wC g cy (s907, u.2).1 ++ (wl ad cy (z 0) (g 20) (s907, u.2).2.1 ++ (wl ad cy (z 0) (g 21) (s907, u.2).2.2.1 ++ (wl ad cy (z 0) (g 22) (s907, u.2).2.2.2.1 ++ wS g cy (s907, u.2).2.2.2.2)))))) := hD
  refine lv_istore (lv' := [(6, .int r907), (5, .int r895), (0, .ref b), (1, .ref (h 16)), (2, .ref (g 0)), (3, .ref o), (4, .int (nI i))]) hx hb dL_law_910 hl (by decide) rfl (fun ls hl => ?_)
  refine lv_aload_n hx hb dL_law_912 rfl (lv_at hl 4 rfl) ?_
  have hPc := fw_get (fp2 _ _ _ _) hP
  refine cpVi (q0 := 0) (As := []) (rest := []) hC hK hPc rfl rfl (m_X4_thrown l dC dI g cy ((s907, u.2).1) _ hF) k_X4_thrown q1009 ⟨rfl, rfl⟩ ⟨Nat.le_of_ble_eq_true rfl, Nat.le_of_ble_eq_true rfl⟩ hl.1 rfl rfl (Nat.le_of_ble_eq_true rfl) dL_law_913 ⟨by show _ ≤ 603072; omega, by show _ ≤ 7211114; omega⟩ (fun r913 hF => ?_)
  refine lv_iload hx hb dL_law_916 (lv_at hl 1 rfl) ?_
  refine lv_icmp_eq (tgt := 923) hx hb dL_law_918 (by decide) (fun cz => ?_) (fun cz => ?_)
  · have hF := hF.1 cz
    refine lv_iload hx hb dL_law_923 (lv_at hl 1 rfl) ?_
    refine lv_if_ne (tgt := 940) hx hb dL_law_925 (by decide) (fun cz => ?_) (fun cz => ?_)
    · have hF := hF.1 cz
      refine lv_goto (tgt := 1951) hx hb dL_law_940 (by decide) ?_
      refine W.widen (k := k0 + 30) (n := n0 + 480) (by omega) (by omega) ?_
      exact hJ _ _ _ hF _ _ _ hP hD hS (lv_sub hl [2, 3, 4, 5, 6] rfl)
    · have hF := hF.2 cz
      refine lv_aload_n hx hb dL_law_928 rfl (lv_at hl 5 rfl) ?_
      refine lv_iconst (v := 0) hx hb dL_law_929 (by decide) ?_
      refine va_lald hx hb hK.1 hP 21 1 rfl rfl (show vp_in 0 1 from vp_in_nI (n := 0) (by omega) (by omega)) dL_law_930 ?_
      refine lv_iload hx hb dL_law_931 (lv_at hl 0 rfl) ?_
      refine lv_i2l hx hb dL_law_933 rfl ?_
      refine W.lcmp hx hb dL_law_934 ?_
      refine lv_if_eq (tgt := 940) hx hb dL_law_935 (by decide) (fun cz => ?_) (fun cz => ?_)
      · have hF := hF.1 cz
        refine lv_goto (tgt := 1951) hx hb dL_law_940 (by decide) ?_
        refine W.widen (k := k0 + 30) (n := n0 + 480) (by omega) (by omega) ?_
        exact hJ _ _ _ hF _ _ _ hP hD hS (lv_sub hl [2, 3, 4, 5, 6] rfl)
      · have hF := hF.2 cz
        refine lv_iconst (v := 0) hx hb dL_law_938 (by decide) ?_
        exact hF.elim
  · have hF := hF.2 cz
    refine lv_iconst (v := 0) hx hb dL_law_921 (by decide) ?_
    exact hF.elim
def wp_case17 (a1 : Int32) (σ : SX) (f : Nat → Int64) (u : FX) (K : SX → (Nat → Int64) → FX → Prop) : Prop := (wp_L_setEnd σ f a1 (fun r951 s951 f951 => (wp_X4_setEnd u.1 a1 (fun r963 s963 => (wp_X4_thrown ((s963, u.2).1) (fun r969 => ((r969 = r951 → ((¬ r951 = 0 → (K s951 f951 (s963, u.2))) ∧ (r951 = 0 → (((lg_cmp (f951 (0 : Int32).toNatClampNeg) r963.toInt64) = 0 → (K s951 f951 (s963, u.2))) ∧ (¬ (lg_cmp (f951 (0 : Int32).toNatClampNeg) r963.toInt64) = 0 → False))))) ∧ (¬ r969 = r951 → False))))))))
set_option maxHeartbeats 4000000 in
set_option maxRecDepth 100000 in
theorem m_case17 {p : Program} {e9 : Env} {s : State} {m : MethodId} {below : List Frame} {meth : Method} {c : Code} (l : Launch) (hl9 : l.stackTraces = false) {dC : Nat → ClassId} {dI : Nat → Nat → Nat} {h g : Nat → Nat} {cy : Nat → ClassId} {sa z ad : Nat → Nat} {o b L fu i k0 n0 : Nat} {xs : Nat → Int32} {A : Nat → Prop} {Q : State → Prop} {a0 a1 a2 : Int32}
  (hC : Cx p s m #[Value.ref b] meth c RL code 9 ret) (hK : kwX dC dI cy s) (hXS : XS sa s) (hXZ : XZ A s s.heap) (hN : NCL s) (hZ : ZF z ad A s s.heap) (hvk : vk_R "PegshoreHouseModel" 92 "std" (z 4) s) (hX : va_X b L xs s s.heap) (hbl : b < s.heap.size) (hbA : ¬ A b) (hA : ∀ q : Nat, s.heap.size ≤ q → A q)
  (hi1 : vp_in (nI i + 1) L) (hi2 : vp_in (nI i + 2) L) (hx1 : xs (nI i + 1).toNatClampNeg = a1) (hx2 : xs (nI i + 2).toNatClampNeg = a2) (hk0 : k0 + 30 ≤ 603072) (hn0 : n0 + 480 ≤ 7211114)
  (K : SX → (Nat → Int64) → FX → Prop) (hJ : ∀ σ f u, K σ f u → ∀ (H : Heap) (locs : List Loc) (ls : Array Slot), va_P (dC, dI) classes (wH h cy σ ++ ([(o, .inl (cy 1, 1, .inr (.inl f)))] ++ (wC g cy u.1 ++ (wl ad cy (z 0) (g 20) u.2.1 ++ (wl ad cy (z 0) (g 21) u.2.2.1 ++ (wl ad cy (z 0) (g 22) u.2.2.2.1 ++ wS g cy u.2.2.2.2)))))) H → va_D A (wH h cy σ ++ ([(o, .inl (cy 1, 1, .inr (.inl f)))] ++ (wC g cy u.1 ++ (wl ad cy (z 0) (g 20) u.2.1 ++ (wl ad cy (z 0) (g 21) u.2.2.1 ++ (wl ad cy (z 0) (g 22) u.2.2.2.1 ++ wS g cy u.2.2.2.2)))))) → va_S A s.heap H locs → lv_has ls 9 [(0, .ref b), (1, .ref (h 16)), (2, .ref (g 0)), (3, .ref o), (4, .int (nI i))] → W p l e9 room_1 s m #[Value.ref b] below meth c H locs (k0 + 30) (n0 + 480) Q (F0 m 1951 ls [])) (σ : SX) (f : Nat → Int64) (u : FX) (hF : wp_case17 a1 σ f u K) : ∀ (H : Heap) (locs : List Loc) (ls : Array Slot), va_P (dC, dI) classes (wH h cy σ ++ ([(o, .inl (cy 1, 1, .inr (.inl f)))] ++ (wC g cy u.1 ++ (wl ad cy (z 0) (g 20) u.2.1 ++ (wl ad cy (z 0) (g 21) u.2.2.1 ++ (wl ad cy (z 0) (g 22) u.2.2.2.1 ++ wS g cy u.2.2.2.2)))))) H → va_D A (wH h cy σ ++ ([(o, .inl (cy 1, 1, .inr (.inl f)))] ++ (wC g cy u.1 ++ (wl ad cy (z 0) (g 20) u.2.1 ++ (wl ad cy (z 0) (g 21) u.2.2.1 ++ (wl ad cy (z 0) (g 22) u.2.2.2.1 ++ wS g cy u.2.2.2.2)))))) → va_S A s.heap H locs → lv_has ls 9 [(0, .ref b), (1, .ref (h 16)), (2, .ref (g 0)), (3, .ref o), (4, .int (nI i))] → W p l e9 room_1 s m #[Value.ref b] below meth c H locs k0 n0 Q (F0 m 943 ls []) := by
  intro H locs ls hP hD hS hl
  have hx := hC.1
  have hb := hC.2.1
  have hml := hC.2.2.2.1
  have hown := hC.2.2.2.2.1
  have hts := hC.2.2.2.2.2.1
  unfold wp_case17 at hF
  refine lv_aload_n hx hb dL_law_943 rfl (lv_at hl 1 rfl) ?_
  refine lv_aload_n hx hb dL_law_944 rfl (lv_at hl 0 rfl) ?_
  refine lv_iload hx hb dL_law_945 (lv_at hl 4 rfl) ?_
  refine lv_iconst (v := 1) hx hb dL_law_947 (by decide) ?_
  refine lv_iadd hx hb dL_law_948 ?_
  refine va_sld hx hb hX hbl hbA hS hi1 dL_law_949 ?_
  rw [hx1]
  refine lv_aload_n hx hb dL_law_950 rfl (lv_at hl 3 rfl) ?_
  refine lwWrap (x := wO h cy o σ f) (wn := fun (u : SX × (Nat → Int64)) => wO h cy o u.1 u.2) (As := [.ref (h 16), .int a1, .ref o]) (rest := []) (fpA _ _ _) hC hK hXS hXZ hN hP hD hS hA (m_L_setEnd l hl9 dC dI h cy sa o _ σ f a1 _ hF) k_L_setEnd q715 ⟨rfl, rfl⟩ ⟨Nat.le_of_ble_eq_true rfl, Nat.le_of_ble_eq_true rfl⟩ hl.1 rfl rfl (Nat.le_of_ble_eq_true rfl) dL_law_951 ⟨by show _ ≤ 603072; omega, by show _ ≤ 7211114; omega⟩ (fun r951 v9 H1 locs hF hP1 hD1 hS => ?_)
  obtain ⟨s951, f951⟩ := v9
  have hP := va_P.perm (fpA _ _ _).symm hP1
  have hD := va_D.perm (fpA _ _ _).symm hD1
  generalize H1 = H at hP hS ⊢
  have hP : va_P (dC, dI) classes (wH h cy s951 ++ ([(o, .inl (cy 1, 1, .inr (.inl f951)))] ++ (wC g cy u.1 ++ (wl ad cy (z 0) (g 20) u.2.1 ++ (wl ad cy (z 0) (g 21) u.2.2.1 ++ (wl ad cy (z 0) (g 22) u.2.2.2.1 ++ wS g cy u.2.2.2.2)))))) H := hP
  have hD : va_D A (wH h cy s951 ++ ([(o, .inl (cy 1, 1, .inr (.inl f951)))] ++ (wC g cy u.1 ++ (wl ad cy (z 0) (g 20) u.2.1 ++ (wl ad cy (z 0) (g 21) u.2.2.1 ++ (wl ad cy (z 0) (g 22) u.2.2.2.1 ++ wS g cy u.2.2.2.2)))))) := hD
  refine lv_istore (lv' := [(5, .int r951), (0, .ref b), (1, .ref (h 16)), (2, .ref (g 0)), (3, .ref o), (4, .int (nI i))]) hx hb dL_law_954 hl (by decide) rfl (fun ls hl => ?_)
  refine lv_aload_n hx hb dL_law_956 rfl (lv_at hl 3 rfl) ?_
  refine lv_aload_n hx hb dL_law_957 rfl (lv_at hl 1 rfl) ?_
  refine lv_iload hx hb dL_law_958 (lv_at hl 5 rfl) ?_
  refine lv_iconst (v := 1) hx hb dL_law_960 (by decide) ?_
  refine lv_iadd hx hb dL_law_961 ?_
  refine va_sld hx hb hX hbl hbA hS hi1 dL_law_962 ?_
  rw [hx1]
  have hPc := fw_get (fp2 _ _ _ _) hP
  have hDc := fw_getD (fp2 _ _ _ _) hD
  have hFc := fw_free (fp2 _ _ _ _) hD hS hA
  refine cwVi (q0 := 0) (As := [.int a1]) (rest := []) hC hK hPc hDc rfl rfl hS hFc (m_X4_setEnd l dC dI g cy _ u.1 a1 _ hF) k_X4_setEnd q1402 ⟨rfl, rfl⟩ ⟨Nat.le_of_ble_eq_true rfl, Nat.le_of_ble_eq_true rfl⟩ hl.1 rfl rfl (Nat.le_of_ble_eq_true rfl) dL_law_963 ⟨by show _ ≤ 603072; omega, by show _ ≤ 7211114; omega⟩ (fun r963 s963 H1 locs hF hP9 hD9 hk1 hS => ?_)
  obtain ⟨hP1, hD1⟩ := fw_join (fp2 _ _ _ _) hP hD hk1 hFc hP9 hD9
  have hP := va_P.perm (fp2 _ _ _ _).symm hP1
  have hD := va_D.perm (fp2 _ _ _ _).symm hD1
  generalize H1 = H at hP hS ⊢
  have hP : va_P (dC, dI) classes (wH h cy s951 ++ ([(o, .inl (cy 1, 1, .inr (.inl f951)))] ++ (wC g cy (s963, u.2).1 ++ (wl ad cy (z 0) (g 20) (s963, u.2).2.1 ++ (wl ad cy (z 0) (g 21) (s963, u.2).2.2.1 ++ (wl ad cy (z 0) (g 22) (s963, u.2).2.2.2.1 ++ wS g cy (s963, u.2).2.2.2.2)))))) H := hP
  have hD : va_D A (wH h cy s951 ++ ([(o, .inl (cy 1, 1, .inr (.inl f951)))] ++ (wC g cy (s963, u.2).1 ++ (wl ad cy (z 0) (g 20) (s963, u.2).2.1 ++ (wl ad cy (z 0) (g 21) (s963, u.2).2.2.1 ++ (wl ad cy (z 0) (g 22) (s963, u.2).2.2.2.1 ++ wS g cy (s963, u.2).2.2.2.2)))))) := hD
  refine lv_istore (lv' := [(6, .int r963), (5, .int r951), (0, .ref b), (1, .ref (h 16)), (2, .ref (g 0)), (3, .ref o), (4, .int (nI i))]) hx hb dL_law_966 hl (by decide) rfl (fun ls hl => ?_)
  refine lv_aload_n hx hb dL_law_968 rfl (lv_at hl 4 rfl) ?_
  have hPc := fw_get (fp2 _ _ _ _) hP
  refine cpVi (q0 := 0) (As := []) (rest := []) hC hK hPc rfl rfl (m_X4_thrown l dC dI g cy ((s963, u.2).1) _ hF) k_X4_thrown q1009 ⟨rfl, rfl⟩ ⟨Nat.le_of_ble_eq_true rfl, Nat.le_of_ble_eq_true rfl⟩ hl.1 rfl rfl (Nat.le_of_ble_eq_true rfl) dL_law_969 ⟨by show _ ≤ 603072; omega, by show _ ≤ 7211114; omega⟩ (fun r969 hF => ?_)
  refine lv_iload hx hb dL_law_972 (lv_at hl 1 rfl) ?_
  refine lv_icmp_eq (tgt := 979) hx hb dL_law_974 (by decide) (fun cz => ?_) (fun cz => ?_)
  · have hF := hF.1 cz
    refine lv_iload hx hb dL_law_979 (lv_at hl 1 rfl) ?_
    refine lv_if_ne (tgt := 996) hx hb dL_law_981 (by decide) (fun cz => ?_) (fun cz => ?_)
    · have hF := hF.1 cz
      refine lv_goto (tgt := 1951) hx hb dL_law_996 (by decide) ?_
      refine W.widen (k := k0 + 30) (n := n0 + 480) (by omega) (by omega) ?_
      exact hJ _ _ _ hF _ _ _ hP hD hS (lv_sub hl [2, 3, 4, 5, 6] rfl)
    · have hF := hF.2 cz
      refine lv_aload_n hx hb dL_law_984 rfl (lv_at hl 5 rfl) ?_
      refine lv_iconst (v := 0) hx hb dL_law_985 (by decide) ?_
      refine va_lald hx hb hK.1 hP 21 1 rfl rfl (show vp_in 0 1 from vp_in_nI (n := 0) (by omega) (by omega)) dL_law_986 ?_
      refine lv_iload hx hb dL_law_987 (lv_at hl 0 rfl) ?_
      refine lv_i2l hx hb dL_law_989 rfl ?_
      refine W.lcmp hx hb dL_law_990 ?_
      refine lv_if_eq (tgt := 996) hx hb dL_law_991 (by decide) (fun cz => ?_) (fun cz => ?_)
      · have hF := hF.1 cz
        refine lv_goto (tgt := 1951) hx hb dL_law_996 (by decide) ?_
        refine W.widen (k := k0 + 30) (n := n0 + 480) (by omega) (by omega) ?_
        exact hJ _ _ _ hF _ _ _ hP hD hS (lv_sub hl [2, 3, 4, 5, 6] rfl)
      · have hF := hF.2 cz
        refine lv_iconst (v := 0) hx hb dL_law_994 (by decide) ?_
        exact hF.elim
  · have hF := hF.2 cz
    refine lv_iconst (v := 0) hx hb dL_law_977 (by decide) ?_
    exact hF.elim
def wp_case18 (fu : Nat) (σ : SX) (f : Nat → Int64) (u : FX) (K : SX → (Nat → Int64) → FX → Prop) : Prop := (wp_X3_canEnd fu σ (fun r1000 s1000 => (wp_X4_canEnd fu u.1 (fun r1004 s1004 => ((r1000 = r1004 → (K s1000 f (s1004, u.2))) ∧ (¬ r1000 = r1004 → False))))))
set_option maxHeartbeats 4000000 in
set_option maxRecDepth 100000 in
theorem m_case18 {p : Program} {e9 : Env} {s : State} {m : MethodId} {below : List Frame} {meth : Method} {c : Code} (l : Launch) (hl9 : l.stackTraces = false) {dC : Nat → ClassId} {dI : Nat → Nat → Nat} {h g : Nat → Nat} {cy : Nat → ClassId} {sa z ad : Nat → Nat} {o b L fu i k0 n0 : Nat} {xs : Nat → Int32} {A : Nat → Prop} {Q : State → Prop} {a0 a1 a2 : Int32}
  (hC : Cx p s m #[Value.ref b] meth c RL code 9 ret) (hK : kwX dC dI cy s) (hXS : XS sa s) (hXZ : XZ A s s.heap) (hN : NCL s) (hZ : ZF z ad A s s.heap) (hvk : vk_R "PegshoreHouseModel" 92 "std" (z 4) s) (hX : va_X b L xs s s.heap) (hbl : b < s.heap.size) (hbA : ¬ A b) (hA : ∀ q : Nat, s.heap.size ≤ q → A q)
  (hi1 : vp_in (nI i + 1) L) (hi2 : vp_in (nI i + 2) L) (hx1 : xs (nI i + 1).toNatClampNeg = a1) (hx2 : xs (nI i + 2).toNatClampNeg = a2) (hk0 : k0 + 30 ≤ 603072) (hn0 : n0 + 480 ≤ 7211114)
  (K : SX → (Nat → Int64) → FX → Prop) (hJ : ∀ σ f u, K σ f u → ∀ (H : Heap) (locs : List Loc) (ls : Array Slot), va_P (dC, dI) classes (wH h cy σ ++ ([(o, .inl (cy 1, 1, .inr (.inl f)))] ++ (wC g cy u.1 ++ (wl ad cy (z 0) (g 20) u.2.1 ++ (wl ad cy (z 0) (g 21) u.2.2.1 ++ (wl ad cy (z 0) (g 22) u.2.2.2.1 ++ wS g cy u.2.2.2.2)))))) H → va_D A (wH h cy σ ++ ([(o, .inl (cy 1, 1, .inr (.inl f)))] ++ (wC g cy u.1 ++ (wl ad cy (z 0) (g 20) u.2.1 ++ (wl ad cy (z 0) (g 21) u.2.2.1 ++ (wl ad cy (z 0) (g 22) u.2.2.2.1 ++ wS g cy u.2.2.2.2)))))) → va_S A s.heap H locs → lv_has ls 9 [(0, .ref b), (1, .ref (h 16)), (2, .ref (g 0)), (3, .ref o), (4, .int (nI i))] → W p l e9 room_1 s m #[Value.ref b] below meth c H locs (k0 + 30) (n0 + 480) Q (F0 m 1951 ls [])) (σ : SX) (f : Nat → Int64) (u : FX) (hF : wp_case18 fu σ f u K) : ∀ (H : Heap) (locs : List Loc) (ls : Array Slot), va_P (dC, dI) classes (wH h cy σ ++ ([(o, .inl (cy 1, 1, .inr (.inl f)))] ++ (wC g cy u.1 ++ (wl ad cy (z 0) (g 20) u.2.1 ++ (wl ad cy (z 0) (g 21) u.2.2.1 ++ (wl ad cy (z 0) (g 22) u.2.2.2.1 ++ wS g cy u.2.2.2.2)))))) H → va_D A (wH h cy σ ++ ([(o, .inl (cy 1, 1, .inr (.inl f)))] ++ (wC g cy u.1 ++ (wl ad cy (z 0) (g 20) u.2.1 ++ (wl ad cy (z 0) (g 21) u.2.2.1 ++ (wl ad cy (z 0) (g 22) u.2.2.2.1 ++ wS g cy u.2.2.2.2)))))) → va_S A s.heap H locs → lv_has ls 9 [(0, .ref b), (1, .ref (h 16)), (2, .ref (g 0)), (3, .ref o), (4, .int (nI i))] → W p l e9 room_1 s m #[Value.ref b] below meth c H locs k0 n0 Q (F0 m 999 ls []) := by
  intro H locs ls hP hD hS hl
  have hx := hC.1
  have hb := hC.2.1
  have hml := hC.2.2.2.1
  have hown := hC.2.2.2.2.1
  have hts := hC.2.2.2.2.2.1
  unfold wp_case18 at hF
  refine lv_aload_n hx hb dL_law_999 rfl (lv_at hl 1 rfl) ?_
  have hPc := fw_get (fp0 _ _) hP
  have hDc := fw_getD (fp0 _ _) hD
  have hFc := fw_free (fp0 _ _) hD hS hA
  refine cwVi (q0 := 16) (As := []) (rest := []) hC hK hPc hDc rfl rfl hS hFc (m_X3_canEnd l dC dI h cy _ fu σ _ hF) k_X3_canEnd q228 ⟨rfl, rfl⟩ ⟨Nat.le_of_ble_eq_true rfl, Nat.le_of_ble_eq_true rfl⟩ hl.1 rfl rfl (Nat.le_of_ble_eq_true rfl) dL_law_1000 ⟨by show _ ≤ 603072; omega, by show _ ≤ 7211114; omega⟩ (fun r1000 s1000 H1 locs hF hP9 hD9 hk1 hS => ?_)
  obtain ⟨hP1, hD1⟩ := fw_join (fp0 _ _) hP hD hk1 hFc hP9 hD9
  have hP := va_P.perm (fp0 _ _).symm hP1
  have hD := va_D.perm (fp0 _ _).symm hD1
  generalize H1 = H at hP hS ⊢
  have hP : va_P (dC, dI) classes (wH h cy s1000 ++ ([(o, .inl (cy 1, 1, .inr (.inl f)))] ++ (wC g cy u.1 ++ (wl ad cy (z 0) (g 20) u.2.1 ++ (wl ad cy (z 0) (g 21) u.2.2.1 ++ (wl ad cy (z 0) (g 22) u.2.2.2.1 ++ wS g cy u.2.2.2.2)))))) H := hP
  have hD : va_D A (wH h cy s1000 ++ ([(o, .inl (cy 1, 1, .inr (.inl f)))] ++ (wC g cy u.1 ++ (wl ad cy (z 0) (g 20) u.2.1 ++ (wl ad cy (z 0) (g 21) u.2.2.1 ++ (wl ad cy (z 0) (g 22) u.2.2.2.1 ++ wS g cy u.2.2.2.2)))))) := hD
  refine lv_aload_n hx hb dL_law_1003 rfl (lv_at hl 2 rfl) ?_
  have hPc := fw_get (fp2 _ _ _ _) hP
  have hDc := fw_getD (fp2 _ _ _ _) hD
  have hFc := fw_free (fp2 _ _ _ _) hD hS hA
  refine cwVi (q0 := 0) (As := []) (rest := [.int r1000]) hC hK hPc hDc rfl rfl hS hFc (m_X4_canEnd l dC dI g cy _ fu u.1 _ hF) k_X4_canEnd q1406 ⟨rfl, rfl⟩ ⟨Nat.le_of_ble_eq_true rfl, Nat.le_of_ble_eq_true rfl⟩ hl.1 rfl rfl (Nat.le_of_ble_eq_true rfl) dL_law_1004 ⟨by show _ ≤ 603072; omega, by show _ ≤ 7211114; omega⟩ (fun r1004 s1004 H1 locs hF hP9 hD9 hk1 hS => ?_)
  obtain ⟨hP1, hD1⟩ := fw_join (fp2 _ _ _ _) hP hD hk1 hFc hP9 hD9
  have hP := va_P.perm (fp2 _ _ _ _).symm hP1
  have hD := va_D.perm (fp2 _ _ _ _).symm hD1
  generalize H1 = H at hP hS ⊢
  have hP : va_P (dC, dI) classes (wH h cy s1000 ++ ([(o, .inl (cy 1, 1, .inr (.inl f)))] ++ (wC g cy (s1004, u.2).1 ++ (wl ad cy (z 0) (g 20) (s1004, u.2).2.1 ++ (wl ad cy (z 0) (g 21) (s1004, u.2).2.2.1 ++ (wl ad cy (z 0) (g 22) (s1004, u.2).2.2.2.1 ++ wS g cy (s1004, u.2).2.2.2.2)))))) H := hP
  have hD : va_D A (wH h cy s1000 ++ ([(o, .inl (cy 1, 1, .inr (.inl f)))] ++ (wC g cy (s1004, u.2).1 ++ (wl ad cy (z 0) (g 20) (s1004, u.2).2.1 ++ (wl ad cy (z 0) (g 21) (s1004, u.2).2.2.1 ++ (wl ad cy (z 0) (g 22) (s1004, u.2).2.2.2.1 ++ wS g cy (s1004, u.2).2.2.2.2)))))) := hD
  refine lv_icmp_eq (tgt := 1951) hx hb dL_law_1007 (by decide) (fun cz => ?_) (fun cz => ?_)
  · have hF := hF.1 cz
    refine W.widen (k := k0 + 30) (n := n0 + 480) (by omega) (by omega) ?_
    exact hJ _ _ _ hF _ _ _ hP hD hS (lv_sub hl [0, 1, 2, 3, 4] rfl)
  · have hF := hF.2 cz
    refine lv_iconst (v := 0) hx hb dL_law_1010 (by decide) ?_
    exact hF.elim
def wp_case19 (fu : Nat) (σ : SX) (f : Nat → Int64) (u : FX) (K : SX → (Nat → Int64) → FX → Prop) : Prop := (wp_X3_ways fu σ (fun r1013 s1013 => (wp_X4_ways fu u.1 (fun r1017 s1017 => (((lg_cmp r1013 r1017) = 0 → (K s1013 f (s1017, u.2))) ∧ (¬ (lg_cmp r1013 r1017) = 0 → False))))))
set_option maxHeartbeats 4000000 in
set_option maxRecDepth 100000 in
theorem m_case19 {p : Program} {e9 : Env} {s : State} {m : MethodId} {below : List Frame} {meth : Method} {c : Code} (l : Launch) (hl9 : l.stackTraces = false) {dC : Nat → ClassId} {dI : Nat → Nat → Nat} {h g : Nat → Nat} {cy : Nat → ClassId} {sa z ad : Nat → Nat} {o b L fu i k0 n0 : Nat} {xs : Nat → Int32} {A : Nat → Prop} {Q : State → Prop} {a0 a1 a2 : Int32}
  (hC : Cx p s m #[Value.ref b] meth c RL code 9 ret) (hK : kwX dC dI cy s) (hXS : XS sa s) (hXZ : XZ A s s.heap) (hN : NCL s) (hZ : ZF z ad A s s.heap) (hvk : vk_R "PegshoreHouseModel" 92 "std" (z 4) s) (hX : va_X b L xs s s.heap) (hbl : b < s.heap.size) (hbA : ¬ A b) (hA : ∀ q : Nat, s.heap.size ≤ q → A q)
  (hi1 : vp_in (nI i + 1) L) (hi2 : vp_in (nI i + 2) L) (hx1 : xs (nI i + 1).toNatClampNeg = a1) (hx2 : xs (nI i + 2).toNatClampNeg = a2) (hk0 : k0 + 30 ≤ 603072) (hn0 : n0 + 480 ≤ 7211114)
  (K : SX → (Nat → Int64) → FX → Prop) (hJ : ∀ σ f u, K σ f u → ∀ (H : Heap) (locs : List Loc) (ls : Array Slot), va_P (dC, dI) classes (wH h cy σ ++ ([(o, .inl (cy 1, 1, .inr (.inl f)))] ++ (wC g cy u.1 ++ (wl ad cy (z 0) (g 20) u.2.1 ++ (wl ad cy (z 0) (g 21) u.2.2.1 ++ (wl ad cy (z 0) (g 22) u.2.2.2.1 ++ wS g cy u.2.2.2.2)))))) H → va_D A (wH h cy σ ++ ([(o, .inl (cy 1, 1, .inr (.inl f)))] ++ (wC g cy u.1 ++ (wl ad cy (z 0) (g 20) u.2.1 ++ (wl ad cy (z 0) (g 21) u.2.2.1 ++ (wl ad cy (z 0) (g 22) u.2.2.2.1 ++ wS g cy u.2.2.2.2)))))) → va_S A s.heap H locs → lv_has ls 9 [(0, .ref b), (1, .ref (h 16)), (2, .ref (g 0)), (3, .ref o), (4, .int (nI i))] → W p l e9 room_1 s m #[Value.ref b] below meth c H locs (k0 + 30) (n0 + 480) Q (F0 m 1951 ls [])) (σ : SX) (f : Nat → Int64) (u : FX) (hF : wp_case19 fu σ f u K) : ∀ (H : Heap) (locs : List Loc) (ls : Array Slot), va_P (dC, dI) classes (wH h cy σ ++ ([(o, .inl (cy 1, 1, .inr (.inl f)))] ++ (wC g cy u.1 ++ (wl ad cy (z 0) (g 20) u.2.1 ++ (wl ad cy (z 0) (g 21) u.2.2.1 ++ (wl ad cy (z 0) (g 22) u.2.2.2.1 ++ wS g cy u.2.2.2.2)))))) H → va_D A (wH h cy σ ++ ([(o, .inl (cy 1, 1, .inr (.inl f)))] ++ (wC g cy u.1 ++ (wl ad cy (z 0) (g 20) u.2.1 ++ (wl ad cy (z 0) (g 21) u.2.2.1 ++ (wl ad cy (z 0) (g 22) u.2.2.2.1 ++ wS g cy u.2.2.2.2)))))) → va_S A s.heap H locs → lv_has ls 9 [(0, .ref b), (1, .ref (h 16)), (2, .ref (g 0)), (3, .ref o), (4, .int (nI i))] → W p l e9 room_1 s m #[Value.ref b] below meth c H locs k0 n0 Q (F0 m 1012 ls []) := by
  intro H locs ls hP hD hS hl
  have hx := hC.1
  have hb := hC.2.1
  have hml := hC.2.2.2.1
  have hown := hC.2.2.2.2.1
  have hts := hC.2.2.2.2.2.1
  unfold wp_case19 at hF
  refine lv_aload_n hx hb dL_law_1012 rfl (lv_at hl 1 rfl) ?_
  have hPc := fw_get (fp0 _ _) hP
  have hDc := fw_getD (fp0 _ _) hD
  have hFc := fw_free (fp0 _ _) hD hS hA
  refine cwVl (q0 := 16) (As := []) (rest := []) hC hK hPc hDc rfl rfl hS hFc (m_X3_ways l dC dI h cy _ fu σ _ hF) k_X3_ways q264 ⟨rfl, rfl⟩ ⟨Nat.le_of_ble_eq_true rfl, Nat.le_of_ble_eq_true rfl⟩ hl.1 rfl rfl (Nat.le_of_ble_eq_true rfl) dL_law_1013 ⟨by show _ ≤ 603072; omega, by show _ ≤ 7211114; omega⟩ (fun r1013 s1013 H1 locs hF hP9 hD9 hk1 hS => ?_)
  obtain ⟨hP1, hD1⟩ := fw_join (fp0 _ _) hP hD hk1 hFc hP9 hD9
  have hP := va_P.perm (fp0 _ _).symm hP1
  have hD := va_D.perm (fp0 _ _).symm hD1
  generalize H1 = H at hP hS ⊢
  have hP : va_P (dC, dI) classes (wH h cy s1013 ++ ([(o, .inl (cy 1, 1, .inr (.inl f)))] ++ (wC g cy u.1 ++ (wl ad cy (z 0) (g 20) u.2.1 ++ (wl ad cy (z 0) (g 21) u.2.2.1 ++ (wl ad cy (z 0) (g 22) u.2.2.2.1 ++ wS g cy u.2.2.2.2)))))) H := hP
  have hD : va_D A (wH h cy s1013 ++ ([(o, .inl (cy 1, 1, .inr (.inl f)))] ++ (wC g cy u.1 ++ (wl ad cy (z 0) (g 20) u.2.1 ++ (wl ad cy (z 0) (g 21) u.2.2.1 ++ (wl ad cy (z 0) (g 22) u.2.2.2.1 ++ wS g cy u.2.2.2.2)))))) := hD
  refine lv_aload_n hx hb dL_law_1016 rfl (lv_at hl 2 rfl) ?_
  have hPc := fw_get (fp2 _ _ _ _) hP
  have hDc := fw_getD (fp2 _ _ _ _) hD
  have hFc := fw_free (fp2 _ _ _ _) hD hS hA
  refine cwVl (q0 := 0) (As := []) (rest := [.long r1013]) hC hK hPc hDc rfl rfl hS hFc (m_X4_ways l dC dI g cy _ fu u.1 _ hF) k_X4_ways q1418 ⟨rfl, rfl⟩ ⟨Nat.le_of_ble_eq_true rfl, Nat.le_of_ble_eq_true rfl⟩ hl.1 rfl rfl (Nat.le_of_ble_eq_true rfl) dL_law_1017 ⟨by show _ ≤ 603072; omega, by show _ ≤ 7211114; omega⟩ (fun r1017 s1017 H1 locs hF hP9 hD9 hk1 hS => ?_)
  obtain ⟨hP1, hD1⟩ := fw_join (fp2 _ _ _ _) hP hD hk1 hFc hP9 hD9
  have hP := va_P.perm (fp2 _ _ _ _).symm hP1
  have hD := va_D.perm (fp2 _ _ _ _).symm hD1
  generalize H1 = H at hP hS ⊢
  have hP : va_P (dC, dI) classes (wH h cy s1013 ++ ([(o, .inl (cy 1, 1, .inr (.inl f)))] ++ (wC g cy (s1017, u.2).1 ++ (wl ad cy (z 0) (g 20) (s1017, u.2).2.1 ++ (wl ad cy (z 0) (g 21) (s1017, u.2).2.2.1 ++ (wl ad cy (z 0) (g 22) (s1017, u.2).2.2.2.1 ++ wS g cy (s1017, u.2).2.2.2.2)))))) H := hP
  have hD : va_D A (wH h cy s1013 ++ ([(o, .inl (cy 1, 1, .inr (.inl f)))] ++ (wC g cy (s1017, u.2).1 ++ (wl ad cy (z 0) (g 20) (s1017, u.2).2.1 ++ (wl ad cy (z 0) (g 21) (s1017, u.2).2.2.1 ++ (wl ad cy (z 0) (g 22) (s1017, u.2).2.2.2.1 ++ wS g cy (s1017, u.2).2.2.2.2)))))) := hD
  refine W.lcmp hx hb dL_law_1020 ?_
  refine lv_if_eq (tgt := 1951) hx hb dL_law_1021 (by decide) (fun cz => ?_) (fun cz => ?_)
  · have hF := hF.1 cz
    refine W.widen (k := k0 + 30) (n := n0 + 480) (by omega) (by omega) ?_
    exact hJ _ _ _ hF _ _ _ hP hD hS (lv_sub hl [0, 1, 2, 3, 4] rfl)
  · have hF := hF.2 cz
    refine lv_iconst (v := 0) hx hb dL_law_1024 (by decide) ?_
    exact hF.elim
def wp_case20 (fu : Nat) (σ : SX) (f : Nat → Int64) (u : FX) (K : SX → (Nat → Int64) → FX → Prop) : Prop := (wp_L_hint fu σ f (fun r1028 s1028 f1028 => (wp_X4_hint fu u.1 (fun r1034 s1034 => (wp_X4_thrown ((s1034, u.2).1) (fun r1040 => ((r1040 = r1028 → ((¬ r1028 = 0 → (K s1028 f1028 (s1034, u.2))) ∧ (r1028 = 0 → (((lg_cmp (f1028 (0 : Int32).toNatClampNeg) r1034.toInt64) = 0 → (K s1028 f1028 (s1034, u.2))) ∧ (¬ (lg_cmp (f1028 (0 : Int32).toNatClampNeg) r1034.toInt64) = 0 → False))))) ∧ (¬ r1040 = r1028 → False))))))))
set_option maxHeartbeats 4000000 in
set_option maxRecDepth 100000 in
theorem m_case20 {p : Program} {e9 : Env} {s : State} {m : MethodId} {below : List Frame} {meth : Method} {c : Code} (l : Launch) (hl9 : l.stackTraces = false) {dC : Nat → ClassId} {dI : Nat → Nat → Nat} {h g : Nat → Nat} {cy : Nat → ClassId} {sa z ad : Nat → Nat} {o b L fu i k0 n0 : Nat} {xs : Nat → Int32} {A : Nat → Prop} {Q : State → Prop} {a0 a1 a2 : Int32}
  (hC : Cx p s m #[Value.ref b] meth c RL code 9 ret) (hK : kwX dC dI cy s) (hXS : XS sa s) (hXZ : XZ A s s.heap) (hN : NCL s) (hZ : ZF z ad A s s.heap) (hvk : vk_R "PegshoreHouseModel" 92 "std" (z 4) s) (hX : va_X b L xs s s.heap) (hbl : b < s.heap.size) (hbA : ¬ A b) (hA : ∀ q : Nat, s.heap.size ≤ q → A q)
  (hi1 : vp_in (nI i + 1) L) (hi2 : vp_in (nI i + 2) L) (hx1 : xs (nI i + 1).toNatClampNeg = a1) (hx2 : xs (nI i + 2).toNatClampNeg = a2) (hk0 : k0 + 30 ≤ 603072) (hn0 : n0 + 480 ≤ 7211114)
  (K : SX → (Nat → Int64) → FX → Prop) (hJ : ∀ σ f u, K σ f u → ∀ (H : Heap) (locs : List Loc) (ls : Array Slot), va_P (dC, dI) classes (wH h cy σ ++ ([(o, .inl (cy 1, 1, .inr (.inl f)))] ++ (wC g cy u.1 ++ (wl ad cy (z 0) (g 20) u.2.1 ++ (wl ad cy (z 0) (g 21) u.2.2.1 ++ (wl ad cy (z 0) (g 22) u.2.2.2.1 ++ wS g cy u.2.2.2.2)))))) H → va_D A (wH h cy σ ++ ([(o, .inl (cy 1, 1, .inr (.inl f)))] ++ (wC g cy u.1 ++ (wl ad cy (z 0) (g 20) u.2.1 ++ (wl ad cy (z 0) (g 21) u.2.2.1 ++ (wl ad cy (z 0) (g 22) u.2.2.2.1 ++ wS g cy u.2.2.2.2)))))) → va_S A s.heap H locs → lv_has ls 9 [(0, .ref b), (1, .ref (h 16)), (2, .ref (g 0)), (3, .ref o), (4, .int (nI i))] → W p l e9 room_1 s m #[Value.ref b] below meth c H locs (k0 + 30) (n0 + 480) Q (F0 m 1951 ls [])) (σ : SX) (f : Nat → Int64) (u : FX) (hF : wp_case20 fu σ f u K) : ∀ (H : Heap) (locs : List Loc) (ls : Array Slot), va_P (dC, dI) classes (wH h cy σ ++ ([(o, .inl (cy 1, 1, .inr (.inl f)))] ++ (wC g cy u.1 ++ (wl ad cy (z 0) (g 20) u.2.1 ++ (wl ad cy (z 0) (g 21) u.2.2.1 ++ (wl ad cy (z 0) (g 22) u.2.2.2.1 ++ wS g cy u.2.2.2.2)))))) H → va_D A (wH h cy σ ++ ([(o, .inl (cy 1, 1, .inr (.inl f)))] ++ (wC g cy u.1 ++ (wl ad cy (z 0) (g 20) u.2.1 ++ (wl ad cy (z 0) (g 21) u.2.2.1 ++ (wl ad cy (z 0) (g 22) u.2.2.2.1 ++ wS g cy u.2.2.2.2)))))) → va_S A s.heap H locs → lv_has ls 9 [(0, .ref b), (1, .ref (h 16)), (2, .ref (g 0)), (3, .ref o), (4, .int (nI i))] → W p l e9 room_1 s m #[Value.ref b] below meth c H locs k0 n0 Q (F0 m 1026 ls []) := by
  intro H locs ls hP hD hS hl
  have hx := hC.1
  have hb := hC.2.1
  have hml := hC.2.2.2.1
  have hown := hC.2.2.2.2.1
  have hts := hC.2.2.2.2.2.1
  unfold wp_case20 at hF
  refine lv_aload_n hx hb dL_law_1026 rfl (lv_at hl 1 rfl) ?_
  refine lv_aload_n hx hb dL_law_1027 rfl (lv_at hl 3 rfl) ?_
  refine lwWrap (x := wO h cy o σ f) (wn := fun (u : SX × (Nat → Int64)) => wO h cy o u.1 u.2) (As := [.ref (h 16), .ref o]) (rest := []) (fpA _ _ _) hC hK hXS hXZ hN hP hD hS hA (m_L_hint l hl9 dC dI h cy sa o _ fu σ f _ hF) k_L_hint q722 ⟨rfl, rfl⟩ ⟨Nat.le_of_ble_eq_true rfl, Nat.le_of_ble_eq_true rfl⟩ hl.1 rfl rfl (Nat.le_of_ble_eq_true rfl) dL_law_1028 ⟨by show _ ≤ 603072; omega, by show _ ≤ 7211114; omega⟩ (fun r1028 v9 H1 locs hF hP1 hD1 hS => ?_)
  obtain ⟨s1028, f1028⟩ := v9
  have hP := va_P.perm (fpA _ _ _).symm hP1
  have hD := va_D.perm (fpA _ _ _).symm hD1
  generalize H1 = H at hP hS ⊢
  have hP : va_P (dC, dI) classes (wH h cy s1028 ++ ([(o, .inl (cy 1, 1, .inr (.inl f1028)))] ++ (wC g cy u.1 ++ (wl ad cy (z 0) (g 20) u.2.1 ++ (wl ad cy (z 0) (g 21) u.2.2.1 ++ (wl ad cy (z 0) (g 22) u.2.2.2.1 ++ wS g cy u.2.2.2.2)))))) H := hP
  have hD : va_D A (wH h cy s1028 ++ ([(o, .inl (cy 1, 1, .inr (.inl f1028)))] ++ (wC g cy u.1 ++ (wl ad cy (z 0) (g 20) u.2.1 ++ (wl ad cy (z 0) (g 21) u.2.2.1 ++ (wl ad cy (z 0) (g 22) u.2.2.2.1 ++ wS g cy u.2.2.2.2)))))) := hD
  refine lv_istore (lv' := [(5, .int r1028), (0, .ref b), (1, .ref (h 16)), (2, .ref (g 0)), (3, .ref o), (4, .int (nI i))]) hx hb dL_law_1031 hl (by decide) rfl (fun ls hl => ?_)
  refine lv_aload_n hx hb dL_law_1033 rfl (lv_at hl 3 rfl) ?_
  have hPc := fw_get (fp2 _ _ _ _) hP
  have hDc := fw_getD (fp2 _ _ _ _) hD
  have hFc := fw_free (fp2 _ _ _ _) hD hS hA
  refine cwVi (q0 := 0) (As := []) (rest := []) hC hK hPc hDc rfl rfl hS hFc (m_X4_hint l dC dI g cy _ fu u.1 _ hF) k_X4_hint q1422 ⟨rfl, rfl⟩ ⟨Nat.le_of_ble_eq_true rfl, Nat.le_of_ble_eq_true rfl⟩ hl.1 rfl rfl (Nat.le_of_ble_eq_true rfl) dL_law_1034 ⟨by show _ ≤ 603072; omega, by show _ ≤ 7211114; omega⟩ (fun r1034 s1034 H1 locs hF hP9 hD9 hk1 hS => ?_)
  obtain ⟨hP1, hD1⟩ := fw_join (fp2 _ _ _ _) hP hD hk1 hFc hP9 hD9
  have hP := va_P.perm (fp2 _ _ _ _).symm hP1
  have hD := va_D.perm (fp2 _ _ _ _).symm hD1
  generalize H1 = H at hP hS ⊢
  have hP : va_P (dC, dI) classes (wH h cy s1028 ++ ([(o, .inl (cy 1, 1, .inr (.inl f1028)))] ++ (wC g cy (s1034, u.2).1 ++ (wl ad cy (z 0) (g 20) (s1034, u.2).2.1 ++ (wl ad cy (z 0) (g 21) (s1034, u.2).2.2.1 ++ (wl ad cy (z 0) (g 22) (s1034, u.2).2.2.2.1 ++ wS g cy (s1034, u.2).2.2.2.2)))))) H := hP
  have hD : va_D A (wH h cy s1028 ++ ([(o, .inl (cy 1, 1, .inr (.inl f1028)))] ++ (wC g cy (s1034, u.2).1 ++ (wl ad cy (z 0) (g 20) (s1034, u.2).2.1 ++ (wl ad cy (z 0) (g 21) (s1034, u.2).2.2.1 ++ (wl ad cy (z 0) (g 22) (s1034, u.2).2.2.2.1 ++ wS g cy (s1034, u.2).2.2.2.2)))))) := hD
  refine lv_istore (lv' := [(6, .int r1034), (5, .int r1028), (0, .ref b), (1, .ref (h 16)), (2, .ref (g 0)), (3, .ref o), (4, .int (nI i))]) hx hb dL_law_1037 hl (by decide) rfl (fun ls hl => ?_)
  refine lv_aload_n hx hb dL_law_1039 rfl (lv_at hl 4 rfl) ?_
  have hPc := fw_get (fp2 _ _ _ _) hP
  refine cpVi (q0 := 0) (As := []) (rest := []) hC hK hPc rfl rfl (m_X4_thrown l dC dI g cy ((s1034, u.2).1) _ hF) k_X4_thrown q1009 ⟨rfl, rfl⟩ ⟨Nat.le_of_ble_eq_true rfl, Nat.le_of_ble_eq_true rfl⟩ hl.1 rfl rfl (Nat.le_of_ble_eq_true rfl) dL_law_1040 ⟨by show _ ≤ 603072; omega, by show _ ≤ 7211114; omega⟩ (fun r1040 hF => ?_)
  refine lv_iload hx hb dL_law_1043 (lv_at hl 1 rfl) ?_
  refine lv_icmp_eq (tgt := 1050) hx hb dL_law_1045 (by decide) (fun cz => ?_) (fun cz => ?_)
  · have hF := hF.1 cz
    refine lv_iload hx hb dL_law_1050 (lv_at hl 1 rfl) ?_
    refine lv_if_ne (tgt := 1067) hx hb dL_law_1052 (by decide) (fun cz => ?_) (fun cz => ?_)
    · have hF := hF.1 cz
      refine lv_goto (tgt := 1951) hx hb dL_law_1067 (by decide) ?_
      refine W.widen (k := k0 + 30) (n := n0 + 480) (by omega) (by omega) ?_
      exact hJ _ _ _ hF _ _ _ hP hD hS (lv_sub hl [2, 3, 4, 5, 6] rfl)
    · have hF := hF.2 cz
      refine lv_aload_n hx hb dL_law_1055 rfl (lv_at hl 5 rfl) ?_
      refine lv_iconst (v := 0) hx hb dL_law_1056 (by decide) ?_
      refine va_lald hx hb hK.1 hP 21 1 rfl rfl (show vp_in 0 1 from vp_in_nI (n := 0) (by omega) (by omega)) dL_law_1057 ?_
      refine lv_iload hx hb dL_law_1058 (lv_at hl 0 rfl) ?_
      refine lv_i2l hx hb dL_law_1060 rfl ?_
      refine W.lcmp hx hb dL_law_1061 ?_
      refine lv_if_eq (tgt := 1067) hx hb dL_law_1062 (by decide) (fun cz => ?_) (fun cz => ?_)
      · have hF := hF.1 cz
        refine lv_goto (tgt := 1951) hx hb dL_law_1067 (by decide) ?_
        refine W.widen (k := k0 + 30) (n := n0 + 480) (by omega) (by omega) ?_
        exact hJ _ _ _ hF _ _ _ hP hD hS (lv_sub hl [2, 3, 4, 5, 6] rfl)
      · have hF := hF.2 cz
        refine lv_iconst (v := 0) hx hb dL_law_1065 (by decide) ?_
        exact hF.elim
  · have hF := hF.2 cz
    refine lv_iconst (v := 0) hx hb dL_law_1048 (by decide) ?_
    exact hF.elim
def wp_case21 (fu : Nat) (a1 : Int32) (a2 : Int32) (σ : SX) (f : Nat → Int64) (u : FX) (K : SX → (Nat → Int64) → FX → Prop) : Prop := (wp_L_loses fu σ f a1 a2 (fun r1084 s1084 f1084 => (wp_X4_loses fu u.1 a1 a2 (fun r1102 s1102 => (wp_X4_thrown ((s1102, u.2).1) (fun r1108 => ((r1108 = r1084 → ((¬ r1084 = 0 → (K s1084 f1084 (s1102, u.2))) ∧ (r1084 = 0 → ((r1102 = 0 → (((lg_cmp (f1084 (0 : Int32).toNatClampNeg) 0) = 0 → (K s1084 f1084 (s1102, u.2))) ∧ (¬ (lg_cmp (f1084 (0 : Int32).toNatClampNeg) 0) = 0 → False))) ∧ (¬ r1102 = 0 → (((lg_cmp (f1084 (0 : Int32).toNatClampNeg) 1) = 0 → (K s1084 f1084 (s1102, u.2))) ∧ (¬ (lg_cmp (f1084 (0 : Int32).toNatClampNeg) 1) = 0 → False))))))) ∧ (¬ r1108 = r1084 → False))))))))
set_option maxHeartbeats 4000000 in
set_option maxRecDepth 100000 in
theorem m_case21 {p : Program} {e9 : Env} {s : State} {m : MethodId} {below : List Frame} {meth : Method} {c : Code} (l : Launch) (hl9 : l.stackTraces = false) {dC : Nat → ClassId} {dI : Nat → Nat → Nat} {h g : Nat → Nat} {cy : Nat → ClassId} {sa z ad : Nat → Nat} {o b L fu i k0 n0 : Nat} {xs : Nat → Int32} {A : Nat → Prop} {Q : State → Prop} {a0 a1 a2 : Int32}
  (hC : Cx p s m #[Value.ref b] meth c RL code 9 ret) (hK : kwX dC dI cy s) (hXS : XS sa s) (hXZ : XZ A s s.heap) (hN : NCL s) (hZ : ZF z ad A s s.heap) (hvk : vk_R "PegshoreHouseModel" 92 "std" (z 4) s) (hX : va_X b L xs s s.heap) (hbl : b < s.heap.size) (hbA : ¬ A b) (hA : ∀ q : Nat, s.heap.size ≤ q → A q)
  (hi1 : vp_in (nI i + 1) L) (hi2 : vp_in (nI i + 2) L) (hx1 : xs (nI i + 1).toNatClampNeg = a1) (hx2 : xs (nI i + 2).toNatClampNeg = a2) (hk0 : k0 + 30 ≤ 603072) (hn0 : n0 + 480 ≤ 7211114)
  (K : SX → (Nat → Int64) → FX → Prop) (hJ : ∀ σ f u, K σ f u → ∀ (H : Heap) (locs : List Loc) (ls : Array Slot), va_P (dC, dI) classes (wH h cy σ ++ ([(o, .inl (cy 1, 1, .inr (.inl f)))] ++ (wC g cy u.1 ++ (wl ad cy (z 0) (g 20) u.2.1 ++ (wl ad cy (z 0) (g 21) u.2.2.1 ++ (wl ad cy (z 0) (g 22) u.2.2.2.1 ++ wS g cy u.2.2.2.2)))))) H → va_D A (wH h cy σ ++ ([(o, .inl (cy 1, 1, .inr (.inl f)))] ++ (wC g cy u.1 ++ (wl ad cy (z 0) (g 20) u.2.1 ++ (wl ad cy (z 0) (g 21) u.2.2.1 ++ (wl ad cy (z 0) (g 22) u.2.2.2.1 ++ wS g cy u.2.2.2.2)))))) → va_S A s.heap H locs → lv_has ls 9 [(0, .ref b), (1, .ref (h 16)), (2, .ref (g 0)), (3, .ref o), (4, .int (nI i))] → W p l e9 room_1 s m #[Value.ref b] below meth c H locs (k0 + 30) (n0 + 480) Q (F0 m 1951 ls [])) (σ : SX) (f : Nat → Int64) (u : FX) (hF : wp_case21 fu a1 a2 σ f u K) : ∀ (H : Heap) (locs : List Loc) (ls : Array Slot), va_P (dC, dI) classes (wH h cy σ ++ ([(o, .inl (cy 1, 1, .inr (.inl f)))] ++ (wC g cy u.1 ++ (wl ad cy (z 0) (g 20) u.2.1 ++ (wl ad cy (z 0) (g 21) u.2.2.1 ++ (wl ad cy (z 0) (g 22) u.2.2.2.1 ++ wS g cy u.2.2.2.2)))))) H → va_D A (wH h cy σ ++ ([(o, .inl (cy 1, 1, .inr (.inl f)))] ++ (wC g cy u.1 ++ (wl ad cy (z 0) (g 20) u.2.1 ++ (wl ad cy (z 0) (g 21) u.2.2.1 ++ (wl ad cy (z 0) (g 22) u.2.2.2.1 ++ wS g cy u.2.2.2.2)))))) → va_S A s.heap H locs → lv_has ls 9 [(0, .ref b), (1, .ref (h 16)), (2, .ref (g 0)), (3, .ref o), (4, .int (nI i))] → W p l e9 room_1 s m #[Value.ref b] below meth c H locs k0 n0 Q (F0 m 1070 ls []) := by
  intro H locs ls hP hD hS hl
  have hx := hC.1
  have hb := hC.2.1
  have hml := hC.2.2.2.1
  have hown := hC.2.2.2.2.1
  have hts := hC.2.2.2.2.2.1
  unfold wp_case21 at hF
  refine lv_aload_n hx hb dL_law_1070 rfl (lv_at hl 1 rfl) ?_
  refine lv_aload_n hx hb dL_law_1071 rfl (lv_at hl 0 rfl) ?_
  refine lv_iload hx hb dL_law_1072 (lv_at hl 4 rfl) ?_
  refine lv_iconst (v := 1) hx hb dL_law_1074 (by decide) ?_
  refine lv_iadd hx hb dL_law_1075 ?_
  refine va_sld hx hb hX hbl hbA hS hi1 dL_law_1076 ?_
  rw [hx1]
  refine lv_aload_n hx hb dL_law_1077 rfl (lv_at hl 0 rfl) ?_
  refine lv_iload hx hb dL_law_1078 (lv_at hl 4 rfl) ?_
  refine lv_iconst (v := 2) hx hb dL_law_1080 (by decide) ?_
  refine lv_iadd hx hb dL_law_1081 ?_
  refine va_sld hx hb hX hbl hbA hS hi2 dL_law_1082 ?_
  rw [hx2]
  refine lv_aload_n hx hb dL_law_1083 rfl (lv_at hl 3 rfl) ?_
  refine lwWrap (x := wO h cy o σ f) (wn := fun (u : SX × (Nat → Int64)) => wO h cy o u.1 u.2) (As := [.ref (h 16), .int a1, .int a2, .ref o]) (rest := []) (fpA _ _ _) hC hK hXS hXZ hN hP hD hS hA (m_L_loses l hl9 dC dI h cy sa o _ fu σ f a1 a2 _ hF) k_L_loses q742 ⟨rfl, rfl⟩ ⟨Nat.le_of_ble_eq_true rfl, Nat.le_of_ble_eq_true rfl⟩ hl.1 rfl rfl (Nat.le_of_ble_eq_true rfl) dL_law_1084 ⟨by show _ ≤ 603072; omega, by show _ ≤ 7211114; omega⟩ (fun r1084 v9 H1 locs hF hP1 hD1 hS => ?_)
  obtain ⟨s1084, f1084⟩ := v9
  have hP := va_P.perm (fpA _ _ _).symm hP1
  have hD := va_D.perm (fpA _ _ _).symm hD1
  generalize H1 = H at hP hS ⊢
  have hP : va_P (dC, dI) classes (wH h cy s1084 ++ ([(o, .inl (cy 1, 1, .inr (.inl f1084)))] ++ (wC g cy u.1 ++ (wl ad cy (z 0) (g 20) u.2.1 ++ (wl ad cy (z 0) (g 21) u.2.2.1 ++ (wl ad cy (z 0) (g 22) u.2.2.2.1 ++ wS g cy u.2.2.2.2)))))) H := hP
  have hD : va_D A (wH h cy s1084 ++ ([(o, .inl (cy 1, 1, .inr (.inl f1084)))] ++ (wC g cy u.1 ++ (wl ad cy (z 0) (g 20) u.2.1 ++ (wl ad cy (z 0) (g 21) u.2.2.1 ++ (wl ad cy (z 0) (g 22) u.2.2.2.1 ++ wS g cy u.2.2.2.2)))))) := hD
  refine lv_istore (lv' := [(5, .int r1084), (0, .ref b), (1, .ref (h 16)), (2, .ref (g 0)), (3, .ref o), (4, .int (nI i))]) hx hb dL_law_1087 hl (by decide) rfl (fun ls hl => ?_)
  refine lv_aload_n hx hb dL_law_1089 rfl (lv_at hl 3 rfl) ?_
  refine lv_aload_n hx hb dL_law_1090 rfl (lv_at hl 1 rfl) ?_
  refine lv_iload hx hb dL_law_1091 (lv_at hl 5 rfl) ?_
  refine lv_iconst (v := 1) hx hb dL_law_1093 (by decide) ?_
  refine lv_iadd hx hb dL_law_1094 ?_
  refine va_sld hx hb hX hbl hbA hS hi1 dL_law_1095 ?_
  rw [hx1]
  refine lv_aload_n hx hb dL_law_1096 rfl (lv_at hl 1 rfl) ?_
  refine lv_iload hx hb dL_law_1097 (lv_at hl 5 rfl) ?_
  refine lv_iconst (v := 2) hx hb dL_law_1099 (by decide) ?_
  refine lv_iadd hx hb dL_law_1100 ?_
  refine va_sld hx hb hX hbl hbA hS hi2 dL_law_1101 ?_
  rw [hx2]
  have hPc := fw_get (fp2 _ _ _ _) hP
  have hDc := fw_getD (fp2 _ _ _ _) hD
  have hFc := fw_free (fp2 _ _ _ _) hD hS hA
  refine cwVi (q0 := 0) (As := [.int a1, .int a2]) (rest := []) hC hK hPc hDc rfl rfl hS hFc (m_X4_loses l dC dI g cy _ fu u.1 a1 a2 _ hF) k_X4_loses q1426 ⟨rfl, rfl⟩ ⟨Nat.le_of_ble_eq_true rfl, Nat.le_of_ble_eq_true rfl⟩ hl.1 rfl rfl (Nat.le_of_ble_eq_true rfl) dL_law_1102 ⟨by show _ ≤ 603072; omega, by show _ ≤ 7211114; omega⟩ (fun r1102 s1102 H1 locs hF hP9 hD9 hk1 hS => ?_)
  obtain ⟨hP1, hD1⟩ := fw_join (fp2 _ _ _ _) hP hD hk1 hFc hP9 hD9
  have hP := va_P.perm (fp2 _ _ _ _).symm hP1
  have hD := va_D.perm (fp2 _ _ _ _).symm hD1
  generalize H1 = H at hP hS ⊢
  have hP : va_P (dC, dI) classes (wH h cy s1084 ++ ([(o, .inl (cy 1, 1, .inr (.inl f1084)))] ++ (wC g cy (s1102, u.2).1 ++ (wl ad cy (z 0) (g 20) (s1102, u.2).2.1 ++ (wl ad cy (z 0) (g 21) (s1102, u.2).2.2.1 ++ (wl ad cy (z 0) (g 22) (s1102, u.2).2.2.2.1 ++ wS g cy (s1102, u.2).2.2.2.2)))))) H := hP
  have hD : va_D A (wH h cy s1084 ++ ([(o, .inl (cy 1, 1, .inr (.inl f1084)))] ++ (wC g cy (s1102, u.2).1 ++ (wl ad cy (z 0) (g 20) (s1102, u.2).2.1 ++ (wl ad cy (z 0) (g 21) (s1102, u.2).2.2.1 ++ (wl ad cy (z 0) (g 22) (s1102, u.2).2.2.2.1 ++ wS g cy (s1102, u.2).2.2.2.2)))))) := hD
  refine lv_istore (lv' := [(6, .int r1102), (5, .int r1084), (0, .ref b), (1, .ref (h 16)), (2, .ref (g 0)), (3, .ref o), (4, .int (nI i))]) hx hb dL_law_1105 hl (by decide) rfl (fun ls hl => ?_)
  refine lv_aload_n hx hb dL_law_1107 rfl (lv_at hl 4 rfl) ?_
  have hPc := fw_get (fp2 _ _ _ _) hP
  refine cpVi (q0 := 0) (As := []) (rest := []) hC hK hPc rfl rfl (m_X4_thrown l dC dI g cy ((s1102, u.2).1) _ hF) k_X4_thrown q1009 ⟨rfl, rfl⟩ ⟨Nat.le_of_ble_eq_true rfl, Nat.le_of_ble_eq_true rfl⟩ hl.1 rfl rfl (Nat.le_of_ble_eq_true rfl) dL_law_1108 ⟨by show _ ≤ 603072; omega, by show _ ≤ 7211114; omega⟩ (fun r1108 hF => ?_)
  refine lv_iload hx hb dL_law_1111 (lv_at hl 1 rfl) ?_
  refine lv_icmp_eq (tgt := 1118) hx hb dL_law_1113 (by decide) (fun cz => ?_) (fun cz => ?_)
  · have hF := hF.1 cz
    refine lv_iload hx hb dL_law_1118 (lv_at hl 1 rfl) ?_
    refine lv_if_ne (tgt := 1142) hx hb dL_law_1120 (by decide) (fun cz => ?_) (fun cz => ?_)
    · have hF := hF.1 cz
      refine lv_goto (tgt := 1951) hx hb dL_law_1142 (by decide) ?_
      refine W.widen (k := k0 + 30) (n := n0 + 480) (by omega) (by omega) ?_
      exact hJ _ _ _ hF _ _ _ hP hD hS (lv_sub hl [2, 3, 4, 5, 6] rfl)
    · have hF := hF.2 cz
      refine lv_aload_n hx hb dL_law_1123 rfl (lv_at hl 5 rfl) ?_
      refine lv_iconst (v := 0) hx hb dL_law_1124 (by decide) ?_
      refine va_lald hx hb hK.1 hP 21 1 rfl rfl (show vp_in 0 1 from vp_in_nI (n := 0) (by omega) (by omega)) dL_law_1125 ?_
      refine lv_iload hx hb dL_law_1126 (lv_at hl 0 rfl) ?_
      refine lv_if_eq (tgt := 1135) hx hb dL_law_1128 (by decide) (fun cz => ?_) (fun cz => ?_)
      · have hF := hF.1 cz
        refine lv_lconst (v := 0) hx hb dL_law_1135 (by decide) ?_
        refine W.lcmp hx hb dL_law_1136 ?_
        refine lv_if_eq (tgt := 1142) hx hb dL_law_1137 (by decide) (fun cz => ?_) (fun cz => ?_)
        · have hF := hF.1 cz
          refine lv_goto (tgt := 1951) hx hb dL_law_1142 (by decide) ?_
          refine W.widen (k := k0 + 30) (n := n0 + 480) (by omega) (by omega) ?_
          exact hJ _ _ _ hF _ _ _ hP hD hS (lv_sub hl [2, 3, 4, 5, 6] rfl)
        · have hF := hF.2 cz
          refine lv_iconst (v := 0) hx hb dL_law_1140 (by decide) ?_
          exact hF.elim
      · have hF := hF.2 cz
        refine lv_lconst (v := 1) hx hb dL_law_1131 (by decide) ?_
        refine lv_goto (tgt := 1136) hx hb dL_law_1132 (by decide) ?_
        refine W.lcmp hx hb dL_law_1136 ?_
        refine lv_if_eq (tgt := 1142) hx hb dL_law_1137 (by decide) (fun cz => ?_) (fun cz => ?_)
        · have hF := hF.1 cz
          refine lv_goto (tgt := 1951) hx hb dL_law_1142 (by decide) ?_
          refine W.widen (k := k0 + 30) (n := n0 + 480) (by omega) (by omega) ?_
          exact hJ _ _ _ hF _ _ _ hP hD hS (lv_sub hl [2, 3, 4, 5, 6] rfl)
        · have hF := hF.2 cz
          refine lv_iconst (v := 0) hx hb dL_law_1140 (by decide) ?_
          exact hF.elim
  · have hF := hF.2 cz
    refine lv_iconst (v := 0) hx hb dL_law_1116 (by decide) ?_
    exact hF.elim
def wp_case22 (fu : Nat) (σ : SX) (f : Nat → Int64) (u : FX) (K : SX → (Nat → Int64) → FX → Prop) : Prop := (wp_X3_reached fu σ (fun r1146 s1146 => (wp_X4_reached fu u.1 (fun r1150 s1150 => ((r1146 = r1150 → (K s1146 f (s1150, u.2))) ∧ (¬ r1146 = r1150 → False))))))
set_option maxHeartbeats 4000000 in
set_option maxRecDepth 100000 in
theorem m_case22 {p : Program} {e9 : Env} {s : State} {m : MethodId} {below : List Frame} {meth : Method} {c : Code} (l : Launch) (hl9 : l.stackTraces = false) {dC : Nat → ClassId} {dI : Nat → Nat → Nat} {h g : Nat → Nat} {cy : Nat → ClassId} {sa z ad : Nat → Nat} {o b L fu i k0 n0 : Nat} {xs : Nat → Int32} {A : Nat → Prop} {Q : State → Prop} {a0 a1 a2 : Int32}
  (hC : Cx p s m #[Value.ref b] meth c RL code 9 ret) (hK : kwX dC dI cy s) (hXS : XS sa s) (hXZ : XZ A s s.heap) (hN : NCL s) (hZ : ZF z ad A s s.heap) (hvk : vk_R "PegshoreHouseModel" 92 "std" (z 4) s) (hX : va_X b L xs s s.heap) (hbl : b < s.heap.size) (hbA : ¬ A b) (hA : ∀ q : Nat, s.heap.size ≤ q → A q)
  (hi1 : vp_in (nI i + 1) L) (hi2 : vp_in (nI i + 2) L) (hx1 : xs (nI i + 1).toNatClampNeg = a1) (hx2 : xs (nI i + 2).toNatClampNeg = a2) (hk0 : k0 + 30 ≤ 603072) (hn0 : n0 + 480 ≤ 7211114)
  (K : SX → (Nat → Int64) → FX → Prop) (hJ : ∀ σ f u, K σ f u → ∀ (H : Heap) (locs : List Loc) (ls : Array Slot), va_P (dC, dI) classes (wH h cy σ ++ ([(o, .inl (cy 1, 1, .inr (.inl f)))] ++ (wC g cy u.1 ++ (wl ad cy (z 0) (g 20) u.2.1 ++ (wl ad cy (z 0) (g 21) u.2.2.1 ++ (wl ad cy (z 0) (g 22) u.2.2.2.1 ++ wS g cy u.2.2.2.2)))))) H → va_D A (wH h cy σ ++ ([(o, .inl (cy 1, 1, .inr (.inl f)))] ++ (wC g cy u.1 ++ (wl ad cy (z 0) (g 20) u.2.1 ++ (wl ad cy (z 0) (g 21) u.2.2.1 ++ (wl ad cy (z 0) (g 22) u.2.2.2.1 ++ wS g cy u.2.2.2.2)))))) → va_S A s.heap H locs → lv_has ls 9 [(0, .ref b), (1, .ref (h 16)), (2, .ref (g 0)), (3, .ref o), (4, .int (nI i))] → W p l e9 room_1 s m #[Value.ref b] below meth c H locs (k0 + 30) (n0 + 480) Q (F0 m 1951 ls [])) (σ : SX) (f : Nat → Int64) (u : FX) (hF : wp_case22 fu σ f u K) : ∀ (H : Heap) (locs : List Loc) (ls : Array Slot), va_P (dC, dI) classes (wH h cy σ ++ ([(o, .inl (cy 1, 1, .inr (.inl f)))] ++ (wC g cy u.1 ++ (wl ad cy (z 0) (g 20) u.2.1 ++ (wl ad cy (z 0) (g 21) u.2.2.1 ++ (wl ad cy (z 0) (g 22) u.2.2.2.1 ++ wS g cy u.2.2.2.2)))))) H → va_D A (wH h cy σ ++ ([(o, .inl (cy 1, 1, .inr (.inl f)))] ++ (wC g cy u.1 ++ (wl ad cy (z 0) (g 20) u.2.1 ++ (wl ad cy (z 0) (g 21) u.2.2.1 ++ (wl ad cy (z 0) (g 22) u.2.2.2.1 ++ wS g cy u.2.2.2.2)))))) → va_S A s.heap H locs → lv_has ls 9 [(0, .ref b), (1, .ref (h 16)), (2, .ref (g 0)), (3, .ref o), (4, .int (nI i))] → W p l e9 room_1 s m #[Value.ref b] below meth c H locs k0 n0 Q (F0 m 1145 ls []) := by
  intro H locs ls hP hD hS hl
  have hx := hC.1
  have hb := hC.2.1
  have hml := hC.2.2.2.1
  have hown := hC.2.2.2.2.1
  have hts := hC.2.2.2.2.2.1
  unfold wp_case22 at hF
  refine lv_aload_n hx hb dL_law_1145 rfl (lv_at hl 1 rfl) ?_
  have hPc := fw_get (fp0 _ _) hP
  have hDc := fw_getD (fp0 _ _) hD
  have hFc := fw_free (fp0 _ _) hD hS hA
  refine cwVi (q0 := 16) (As := []) (rest := []) hC hK hPc hDc rfl rfl hS hFc (m_X3_reached l dC dI h cy _ fu σ _ hF) k_X3_reached q268 ⟨rfl, rfl⟩ ⟨Nat.le_of_ble_eq_true rfl, Nat.le_of_ble_eq_true rfl⟩ hl.1 rfl rfl (Nat.le_of_ble_eq_true rfl) dL_law_1146 ⟨by show _ ≤ 603072; omega, by show _ ≤ 7211114; omega⟩ (fun r1146 s1146 H1 locs hF hP9 hD9 hk1 hS => ?_)
  obtain ⟨hP1, hD1⟩ := fw_join (fp0 _ _) hP hD hk1 hFc hP9 hD9
  have hP := va_P.perm (fp0 _ _).symm hP1
  have hD := va_D.perm (fp0 _ _).symm hD1
  generalize H1 = H at hP hS ⊢
  have hP : va_P (dC, dI) classes (wH h cy s1146 ++ ([(o, .inl (cy 1, 1, .inr (.inl f)))] ++ (wC g cy u.1 ++ (wl ad cy (z 0) (g 20) u.2.1 ++ (wl ad cy (z 0) (g 21) u.2.2.1 ++ (wl ad cy (z 0) (g 22) u.2.2.2.1 ++ wS g cy u.2.2.2.2)))))) H := hP
  have hD : va_D A (wH h cy s1146 ++ ([(o, .inl (cy 1, 1, .inr (.inl f)))] ++ (wC g cy u.1 ++ (wl ad cy (z 0) (g 20) u.2.1 ++ (wl ad cy (z 0) (g 21) u.2.2.1 ++ (wl ad cy (z 0) (g 22) u.2.2.2.1 ++ wS g cy u.2.2.2.2)))))) := hD
  refine lv_aload_n hx hb dL_law_1149 rfl (lv_at hl 2 rfl) ?_
  have hPc := fw_get (fp2 _ _ _ _) hP
  have hDc := fw_getD (fp2 _ _ _ _) hD
  have hFc := fw_free (fp2 _ _ _ _) hD hS hA
  refine cwVi (q0 := 0) (As := []) (rest := [.int r1146]) hC hK hPc hDc rfl rfl hS hFc (m_X4_reached l dC dI g cy _ fu u.1 _ hF) k_X4_reached q1430 ⟨rfl, rfl⟩ ⟨Nat.le_of_ble_eq_true rfl, Nat.le_of_ble_eq_true rfl⟩ hl.1 rfl rfl (Nat.le_of_ble_eq_true rfl) dL_law_1150 ⟨by show _ ≤ 603072; omega, by show _ ≤ 7211114; omega⟩ (fun r1150 s1150 H1 locs hF hP9 hD9 hk1 hS => ?_)
  obtain ⟨hP1, hD1⟩ := fw_join (fp2 _ _ _ _) hP hD hk1 hFc hP9 hD9
  have hP := va_P.perm (fp2 _ _ _ _).symm hP1
  have hD := va_D.perm (fp2 _ _ _ _).symm hD1
  generalize H1 = H at hP hS ⊢
  have hP : va_P (dC, dI) classes (wH h cy s1146 ++ ([(o, .inl (cy 1, 1, .inr (.inl f)))] ++ (wC g cy (s1150, u.2).1 ++ (wl ad cy (z 0) (g 20) (s1150, u.2).2.1 ++ (wl ad cy (z 0) (g 21) (s1150, u.2).2.2.1 ++ (wl ad cy (z 0) (g 22) (s1150, u.2).2.2.2.1 ++ wS g cy (s1150, u.2).2.2.2.2)))))) H := hP
  have hD : va_D A (wH h cy s1146 ++ ([(o, .inl (cy 1, 1, .inr (.inl f)))] ++ (wC g cy (s1150, u.2).1 ++ (wl ad cy (z 0) (g 20) (s1150, u.2).2.1 ++ (wl ad cy (z 0) (g 21) (s1150, u.2).2.2.1 ++ (wl ad cy (z 0) (g 22) (s1150, u.2).2.2.2.1 ++ wS g cy (s1150, u.2).2.2.2.2)))))) := hD
  refine lv_icmp_eq (tgt := 1951) hx hb dL_law_1153 (by decide) (fun cz => ?_) (fun cz => ?_)
  · have hF := hF.1 cz
    refine W.widen (k := k0 + 30) (n := n0 + 480) (by omega) (by omega) ?_
    exact hJ _ _ _ hF _ _ _ hP hD hS (lv_sub hl [0, 1, 2, 3, 4] rfl)
  · have hF := hF.2 cz
    refine lv_iconst (v := 0) hx hb dL_law_1156 (by decide) ?_
    exact hF.elim
def wp_case23 (fu : Nat) (σ : SX) (f : Nat → Int64) (u : FX) (K : SX → (Nat → Int64) → FX → Prop) : Prop := (wp_X3_dead fu σ (fun r1159 s1159 => (wp_X4_dead fu u.1 (fun r1163 s1163 => ((r1159 = r1163 → (K s1159 f (s1163, u.2))) ∧ (¬ r1159 = r1163 → False))))))
set_option maxHeartbeats 4000000 in
set_option maxRecDepth 100000 in
theorem m_case23 {p : Program} {e9 : Env} {s : State} {m : MethodId} {below : List Frame} {meth : Method} {c : Code} (l : Launch) (hl9 : l.stackTraces = false) {dC : Nat → ClassId} {dI : Nat → Nat → Nat} {h g : Nat → Nat} {cy : Nat → ClassId} {sa z ad : Nat → Nat} {o b L fu i k0 n0 : Nat} {xs : Nat → Int32} {A : Nat → Prop} {Q : State → Prop} {a0 a1 a2 : Int32}
  (hC : Cx p s m #[Value.ref b] meth c RL code 9 ret) (hK : kwX dC dI cy s) (hXS : XS sa s) (hXZ : XZ A s s.heap) (hN : NCL s) (hZ : ZF z ad A s s.heap) (hvk : vk_R "PegshoreHouseModel" 92 "std" (z 4) s) (hX : va_X b L xs s s.heap) (hbl : b < s.heap.size) (hbA : ¬ A b) (hA : ∀ q : Nat, s.heap.size ≤ q → A q)
  (hi1 : vp_in (nI i + 1) L) (hi2 : vp_in (nI i + 2) L) (hx1 : xs (nI i + 1).toNatClampNeg = a1) (hx2 : xs (nI i + 2).toNatClampNeg = a2) (hk0 : k0 + 30 ≤ 603072) (hn0 : n0 + 480 ≤ 7211114)
  (K : SX → (Nat → Int64) → FX → Prop) (hJ : ∀ σ f u, K σ f u → ∀ (H : Heap) (locs : List Loc) (ls : Array Slot), va_P (dC, dI) classes (wH h cy σ ++ ([(o, .inl (cy 1, 1, .inr (.inl f)))] ++ (wC g cy u.1 ++ (wl ad cy (z 0) (g 20) u.2.1 ++ (wl ad cy (z 0) (g 21) u.2.2.1 ++ (wl ad cy (z 0) (g 22) u.2.2.2.1 ++ wS g cy u.2.2.2.2)))))) H → va_D A (wH h cy σ ++ ([(o, .inl (cy 1, 1, .inr (.inl f)))] ++ (wC g cy u.1 ++ (wl ad cy (z 0) (g 20) u.2.1 ++ (wl ad cy (z 0) (g 21) u.2.2.1 ++ (wl ad cy (z 0) (g 22) u.2.2.2.1 ++ wS g cy u.2.2.2.2)))))) → va_S A s.heap H locs → lv_has ls 9 [(0, .ref b), (1, .ref (h 16)), (2, .ref (g 0)), (3, .ref o), (4, .int (nI i))] → W p l e9 room_1 s m #[Value.ref b] below meth c H locs (k0 + 30) (n0 + 480) Q (F0 m 1951 ls [])) (σ : SX) (f : Nat → Int64) (u : FX) (hF : wp_case23 fu σ f u K) : ∀ (H : Heap) (locs : List Loc) (ls : Array Slot), va_P (dC, dI) classes (wH h cy σ ++ ([(o, .inl (cy 1, 1, .inr (.inl f)))] ++ (wC g cy u.1 ++ (wl ad cy (z 0) (g 20) u.2.1 ++ (wl ad cy (z 0) (g 21) u.2.2.1 ++ (wl ad cy (z 0) (g 22) u.2.2.2.1 ++ wS g cy u.2.2.2.2)))))) H → va_D A (wH h cy σ ++ ([(o, .inl (cy 1, 1, .inr (.inl f)))] ++ (wC g cy u.1 ++ (wl ad cy (z 0) (g 20) u.2.1 ++ (wl ad cy (z 0) (g 21) u.2.2.1 ++ (wl ad cy (z 0) (g 22) u.2.2.2.1 ++ wS g cy u.2.2.2.2)))))) → va_S A s.heap H locs → lv_has ls 9 [(0, .ref b), (1, .ref (h 16)), (2, .ref (g 0)), (3, .ref o), (4, .int (nI i))] → W p l e9 room_1 s m #[Value.ref b] below meth c H locs k0 n0 Q (F0 m 1158 ls []) := by
  intro H locs ls hP hD hS hl
  have hx := hC.1
  have hb := hC.2.1
  have hml := hC.2.2.2.1
  have hown := hC.2.2.2.2.1
  have hts := hC.2.2.2.2.2.1
  unfold wp_case23 at hF
  refine lv_aload_n hx hb dL_law_1158 rfl (lv_at hl 1 rfl) ?_
  have hPc := fw_get (fp0 _ _) hP
  have hDc := fw_getD (fp0 _ _) hD
  have hFc := fw_free (fp0 _ _) hD hS hA
  refine cwVi (q0 := 16) (As := []) (rest := []) hC hK hPc hDc rfl rfl hS hFc (m_X3_dead l dC dI h cy _ fu σ _ hF) k_X3_dead q272 ⟨rfl, rfl⟩ ⟨Nat.le_of_ble_eq_true rfl, Nat.le_of_ble_eq_true rfl⟩ hl.1 rfl rfl (Nat.le_of_ble_eq_true rfl) dL_law_1159 ⟨by show _ ≤ 603072; omega, by show _ ≤ 7211114; omega⟩ (fun r1159 s1159 H1 locs hF hP9 hD9 hk1 hS => ?_)
  obtain ⟨hP1, hD1⟩ := fw_join (fp0 _ _) hP hD hk1 hFc hP9 hD9
  have hP := va_P.perm (fp0 _ _).symm hP1
  have hD := va_D.perm (fp0 _ _).symm hD1
  generalize H1 = H at hP hS ⊢
  have hP : va_P (dC, dI) classes (wH h cy s1159 ++ ([(o, .inl (cy 1, 1, .inr (.inl f)))] ++ (wC g cy u.1 ++ (wl ad cy (z 0) (g 20) u.2.1 ++ (wl ad cy (z 0) (g 21) u.2.2.1 ++ (wl ad cy (z 0) (g 22) u.2.2.2.1 ++ wS g cy u.2.2.2.2)))))) H := hP
  have hD : va_D A (wH h cy s1159 ++ ([(o, .inl (cy 1, 1, .inr (.inl f)))] ++ (wC g cy u.1 ++ (wl ad cy (z 0) (g 20) u.2.1 ++ (wl ad cy (z 0) (g 21) u.2.2.1 ++ (wl ad cy (z 0) (g 22) u.2.2.2.1 ++ wS g cy u.2.2.2.2)))))) := hD
  refine lv_aload_n hx hb dL_law_1162 rfl (lv_at hl 2 rfl) ?_
  have hPc := fw_get (fp2 _ _ _ _) hP
  have hDc := fw_getD (fp2 _ _ _ _) hD
  have hFc := fw_free (fp2 _ _ _ _) hD hS hA
  refine cwVi (q0 := 0) (As := []) (rest := [.int r1159]) hC hK hPc hDc rfl rfl hS hFc (m_X4_dead l dC dI g cy _ fu u.1 _ hF) k_X4_dead q1644 ⟨rfl, rfl⟩ ⟨Nat.le_of_ble_eq_true rfl, Nat.le_of_ble_eq_true rfl⟩ hl.1 rfl rfl (Nat.le_of_ble_eq_true rfl) dL_law_1163 ⟨by show _ ≤ 603072; omega, by show _ ≤ 7211114; omega⟩ (fun r1163 s1163 H1 locs hF hP9 hD9 hk1 hS => ?_)
  obtain ⟨hP1, hD1⟩ := fw_join (fp2 _ _ _ _) hP hD hk1 hFc hP9 hD9
  have hP := va_P.perm (fp2 _ _ _ _).symm hP1
  have hD := va_D.perm (fp2 _ _ _ _).symm hD1
  generalize H1 = H at hP hS ⊢
  have hP : va_P (dC, dI) classes (wH h cy s1159 ++ ([(o, .inl (cy 1, 1, .inr (.inl f)))] ++ (wC g cy (s1163, u.2).1 ++ (wl ad cy (z 0) (g 20) (s1163, u.2).2.1 ++ (wl ad cy (z 0) (g 21) (s1163, u.2).2.2.1 ++ (wl ad cy (z 0) (g 22) (s1163, u.2).2.2.2.1 ++ wS g cy (s1163, u.2).2.2.2.2)))))) H := hP
  have hD : va_D A (wH h cy s1159 ++ ([(o, .inl (cy 1, 1, .inr (.inl f)))] ++ (wC g cy (s1163, u.2).1 ++ (wl ad cy (z 0) (g 20) (s1163, u.2).2.1 ++ (wl ad cy (z 0) (g 21) (s1163, u.2).2.2.1 ++ (wl ad cy (z 0) (g 22) (s1163, u.2).2.2.2.1 ++ wS g cy (s1163, u.2).2.2.2.2)))))) := hD
  refine lv_icmp_eq (tgt := 1951) hx hb dL_law_1166 (by decide) (fun cz => ?_) (fun cz => ?_)
  · have hF := hF.1 cz
    refine W.widen (k := k0 + 30) (n := n0 + 480) (by omega) (by omega) ?_
    exact hJ _ _ _ hF _ _ _ hP hD hS (lv_sub hl [0, 1, 2, 3, 4] rfl)
  · have hF := hF.2 cz
    refine lv_iconst (v := 0) hx hb dL_law_1169 (by decide) ?_
    exact hF.elim
def wp_case24 (fu : Nat) (σ : SX) (f : Nat → Int64) (u : FX) (K : SX → (Nat → Int64) → FX → Prop) : Prop := (wp_X3_fewest fu σ (fun r1172 s1172 => (wp_X4_fewest fu u.1 (fun r1176 s1176 => ((r1172 = r1176 → (K s1172 f (s1176, u.2))) ∧ (¬ r1172 = r1176 → False))))))
set_option maxHeartbeats 4000000 in
set_option maxRecDepth 100000 in
theorem m_case24 {p : Program} {e9 : Env} {s : State} {m : MethodId} {below : List Frame} {meth : Method} {c : Code} (l : Launch) (hl9 : l.stackTraces = false) {dC : Nat → ClassId} {dI : Nat → Nat → Nat} {h g : Nat → Nat} {cy : Nat → ClassId} {sa z ad : Nat → Nat} {o b L fu i k0 n0 : Nat} {xs : Nat → Int32} {A : Nat → Prop} {Q : State → Prop} {a0 a1 a2 : Int32}
  (hC : Cx p s m #[Value.ref b] meth c RL code 9 ret) (hK : kwX dC dI cy s) (hXS : XS sa s) (hXZ : XZ A s s.heap) (hN : NCL s) (hZ : ZF z ad A s s.heap) (hvk : vk_R "PegshoreHouseModel" 92 "std" (z 4) s) (hX : va_X b L xs s s.heap) (hbl : b < s.heap.size) (hbA : ¬ A b) (hA : ∀ q : Nat, s.heap.size ≤ q → A q)
  (hi1 : vp_in (nI i + 1) L) (hi2 : vp_in (nI i + 2) L) (hx1 : xs (nI i + 1).toNatClampNeg = a1) (hx2 : xs (nI i + 2).toNatClampNeg = a2) (hk0 : k0 + 30 ≤ 603072) (hn0 : n0 + 480 ≤ 7211114)
  (K : SX → (Nat → Int64) → FX → Prop) (hJ : ∀ σ f u, K σ f u → ∀ (H : Heap) (locs : List Loc) (ls : Array Slot), va_P (dC, dI) classes (wH h cy σ ++ ([(o, .inl (cy 1, 1, .inr (.inl f)))] ++ (wC g cy u.1 ++ (wl ad cy (z 0) (g 20) u.2.1 ++ (wl ad cy (z 0) (g 21) u.2.2.1 ++ (wl ad cy (z 0) (g 22) u.2.2.2.1 ++ wS g cy u.2.2.2.2)))))) H → va_D A (wH h cy σ ++ ([(o, .inl (cy 1, 1, .inr (.inl f)))] ++ (wC g cy u.1 ++ (wl ad cy (z 0) (g 20) u.2.1 ++ (wl ad cy (z 0) (g 21) u.2.2.1 ++ (wl ad cy (z 0) (g 22) u.2.2.2.1 ++ wS g cy u.2.2.2.2)))))) → va_S A s.heap H locs → lv_has ls 9 [(0, .ref b), (1, .ref (h 16)), (2, .ref (g 0)), (3, .ref o), (4, .int (nI i))] → W p l e9 room_1 s m #[Value.ref b] below meth c H locs (k0 + 30) (n0 + 480) Q (F0 m 1951 ls [])) (σ : SX) (f : Nat → Int64) (u : FX) (hF : wp_case24 fu σ f u K) : ∀ (H : Heap) (locs : List Loc) (ls : Array Slot), va_P (dC, dI) classes (wH h cy σ ++ ([(o, .inl (cy 1, 1, .inr (.inl f)))] ++ (wC g cy u.1 ++ (wl ad cy (z 0) (g 20) u.2.1 ++ (wl ad cy (z 0) (g 21) u.2.2.1 ++ (wl ad cy (z 0) (g 22) u.2.2.2.1 ++ wS g cy u.2.2.2.2)))))) H → va_D A (wH h cy σ ++ ([(o, .inl (cy 1, 1, .inr (.inl f)))] ++ (wC g cy u.1 ++ (wl ad cy (z 0) (g 20) u.2.1 ++ (wl ad cy (z 0) (g 21) u.2.2.1 ++ (wl ad cy (z 0) (g 22) u.2.2.2.1 ++ wS g cy u.2.2.2.2)))))) → va_S A s.heap H locs → lv_has ls 9 [(0, .ref b), (1, .ref (h 16)), (2, .ref (g 0)), (3, .ref o), (4, .int (nI i))] → W p l e9 room_1 s m #[Value.ref b] below meth c H locs k0 n0 Q (F0 m 1171 ls []) := by
  intro H locs ls hP hD hS hl
  have hx := hC.1
  have hb := hC.2.1
  have hml := hC.2.2.2.1
  have hown := hC.2.2.2.2.1
  have hts := hC.2.2.2.2.2.1
  unfold wp_case24 at hF
  refine lv_aload_n hx hb dL_law_1171 rfl (lv_at hl 1 rfl) ?_
  have hPc := fw_get (fp0 _ _) hP
  have hDc := fw_getD (fp0 _ _) hD
  have hFc := fw_free (fp0 _ _) hD hS hA
  refine cwVi (q0 := 16) (As := []) (rest := []) hC hK hPc hDc rfl rfl hS hFc (m_X3_fewest l dC dI h cy _ fu σ _ hF) k_X3_fewest q276 ⟨rfl, rfl⟩ ⟨Nat.le_of_ble_eq_true rfl, Nat.le_of_ble_eq_true rfl⟩ hl.1 rfl rfl (Nat.le_of_ble_eq_true rfl) dL_law_1172 ⟨by show _ ≤ 603072; omega, by show _ ≤ 7211114; omega⟩ (fun r1172 s1172 H1 locs hF hP9 hD9 hk1 hS => ?_)
  obtain ⟨hP1, hD1⟩ := fw_join (fp0 _ _) hP hD hk1 hFc hP9 hD9
  have hP := va_P.perm (fp0 _ _).symm hP1
  have hD := va_D.perm (fp0 _ _).symm hD1
  generalize H1 = H at hP hS ⊢
  have hP : va_P (dC, dI) classes (wH h cy s1172 ++ ([(o, .inl (cy 1, 1, .inr (.inl f)))] ++ (wC g cy u.1 ++ (wl ad cy (z 0) (g 20) u.2.1 ++ (wl ad cy (z 0) (g 21) u.2.2.1 ++ (wl ad cy (z 0) (g 22) u.2.2.2.1 ++ wS g cy u.2.2.2.2)))))) H := hP
  have hD : va_D A (wH h cy s1172 ++ ([(o, .inl (cy 1, 1, .inr (.inl f)))] ++ (wC g cy u.1 ++ (wl ad cy (z 0) (g 20) u.2.1 ++ (wl ad cy (z 0) (g 21) u.2.2.1 ++ (wl ad cy (z 0) (g 22) u.2.2.2.1 ++ wS g cy u.2.2.2.2)))))) := hD
  refine lv_aload_n hx hb dL_law_1175 rfl (lv_at hl 2 rfl) ?_
  have hPc := fw_get (fp2 _ _ _ _) hP
  have hDc := fw_getD (fp2 _ _ _ _) hD
  have hFc := fw_free (fp2 _ _ _ _) hD hS hA
  refine cwVi (q0 := 0) (As := []) (rest := [.int r1172]) hC hK hPc hDc rfl rfl hS hFc (m_X4_fewest l dC dI g cy _ fu u.1 _ hF) k_X4_fewest q1648 ⟨rfl, rfl⟩ ⟨Nat.le_of_ble_eq_true rfl, Nat.le_of_ble_eq_true rfl⟩ hl.1 rfl rfl (Nat.le_of_ble_eq_true rfl) dL_law_1176 ⟨by show _ ≤ 603072; omega, by show _ ≤ 7211114; omega⟩ (fun r1176 s1176 H1 locs hF hP9 hD9 hk1 hS => ?_)
  obtain ⟨hP1, hD1⟩ := fw_join (fp2 _ _ _ _) hP hD hk1 hFc hP9 hD9
  have hP := va_P.perm (fp2 _ _ _ _).symm hP1
  have hD := va_D.perm (fp2 _ _ _ _).symm hD1
  generalize H1 = H at hP hS ⊢
  have hP : va_P (dC, dI) classes (wH h cy s1172 ++ ([(o, .inl (cy 1, 1, .inr (.inl f)))] ++ (wC g cy (s1176, u.2).1 ++ (wl ad cy (z 0) (g 20) (s1176, u.2).2.1 ++ (wl ad cy (z 0) (g 21) (s1176, u.2).2.2.1 ++ (wl ad cy (z 0) (g 22) (s1176, u.2).2.2.2.1 ++ wS g cy (s1176, u.2).2.2.2.2)))))) H := hP
  have hD : va_D A (wH h cy s1172 ++ ([(o, .inl (cy 1, 1, .inr (.inl f)))] ++ (wC g cy (s1176, u.2).1 ++ (wl ad cy (z 0) (g 20) (s1176, u.2).2.1 ++ (wl ad cy (z 0) (g 21) (s1176, u.2).2.2.1 ++ (wl ad cy (z 0) (g 22) (s1176, u.2).2.2.2.1 ++ wS g cy (s1176, u.2).2.2.2.2)))))) := hD
  refine lv_icmp_eq (tgt := 1951) hx hb dL_law_1179 (by decide) (fun cz => ?_) (fun cz => ?_)
  · have hF := hF.1 cz
    refine W.widen (k := k0 + 30) (n := n0 + 480) (by omega) (by omega) ?_
    exact hJ _ _ _ hF _ _ _ hP hD hS (lv_sub hl [0, 1, 2, 3, 4] rfl)
  · have hF := hF.2 cz
    refine lv_iconst (v := 0) hx hb dL_law_1182 (by decide) ?_
    exact hF.elim
def wp_case25 (fu : Nat) (σ : SX) (f : Nat → Int64) (u : FX) (K : SX → (Nat → Int64) → FX → Prop) : Prop := (wp_L_leastSweeps fu σ f (fun r1186 s1186 f1186 => (wp_X4_leastSweeps fu u (fun r1192 s1192 => (wp_X4_thrown s1192.1 (fun r1198 => ((r1198 = r1186 → ((¬ r1186 = 0 → (K s1186 f1186 s1192)) ∧ (r1186 = 0 → (((lg_cmp (f1186 (0 : Int32).toNatClampNeg) r1192.toInt64) = 0 → (K s1186 f1186 s1192)) ∧ (¬ (lg_cmp (f1186 (0 : Int32).toNatClampNeg) r1192.toInt64) = 0 → False))))) ∧ (¬ r1198 = r1186 → False))))))))
set_option maxHeartbeats 4000000 in
set_option maxRecDepth 100000 in
theorem m_case25 {p : Program} {e9 : Env} {s : State} {m : MethodId} {below : List Frame} {meth : Method} {c : Code} (l : Launch) (hl9 : l.stackTraces = false) {dC : Nat → ClassId} {dI : Nat → Nat → Nat} {h g : Nat → Nat} {cy : Nat → ClassId} {sa z ad : Nat → Nat} {o b L fu i k0 n0 : Nat} {xs : Nat → Int32} {A : Nat → Prop} {Q : State → Prop} {a0 a1 a2 : Int32}
  (hC : Cx p s m #[Value.ref b] meth c RL code 9 ret) (hK : kwX dC dI cy s) (hXS : XS sa s) (hXZ : XZ A s s.heap) (hN : NCL s) (hZ : ZF z ad A s s.heap) (hvk : vk_R "PegshoreHouseModel" 92 "std" (z 4) s) (hX : va_X b L xs s s.heap) (hbl : b < s.heap.size) (hbA : ¬ A b) (hA : ∀ q : Nat, s.heap.size ≤ q → A q)
  (hi1 : vp_in (nI i + 1) L) (hi2 : vp_in (nI i + 2) L) (hx1 : xs (nI i + 1).toNatClampNeg = a1) (hx2 : xs (nI i + 2).toNatClampNeg = a2) (hk0 : k0 + 30 ≤ 603072) (hn0 : n0 + 480 ≤ 7211114)
  (K : SX → (Nat → Int64) → FX → Prop) (hJ : ∀ σ f u, K σ f u → ∀ (H : Heap) (locs : List Loc) (ls : Array Slot), va_P (dC, dI) classes (wH h cy σ ++ ([(o, .inl (cy 1, 1, .inr (.inl f)))] ++ (wC g cy u.1 ++ (wl ad cy (z 0) (g 20) u.2.1 ++ (wl ad cy (z 0) (g 21) u.2.2.1 ++ (wl ad cy (z 0) (g 22) u.2.2.2.1 ++ wS g cy u.2.2.2.2)))))) H → va_D A (wH h cy σ ++ ([(o, .inl (cy 1, 1, .inr (.inl f)))] ++ (wC g cy u.1 ++ (wl ad cy (z 0) (g 20) u.2.1 ++ (wl ad cy (z 0) (g 21) u.2.2.1 ++ (wl ad cy (z 0) (g 22) u.2.2.2.1 ++ wS g cy u.2.2.2.2)))))) → va_S A s.heap H locs → lv_has ls 9 [(0, .ref b), (1, .ref (h 16)), (2, .ref (g 0)), (3, .ref o), (4, .int (nI i))] → W p l e9 room_1 s m #[Value.ref b] below meth c H locs (k0 + 30) (n0 + 480) Q (F0 m 1951 ls [])) (σ : SX) (f : Nat → Int64) (u : FX) (hF : wp_case25 fu σ f u K) : ∀ (H : Heap) (locs : List Loc) (ls : Array Slot), va_P (dC, dI) classes (wH h cy σ ++ ([(o, .inl (cy 1, 1, .inr (.inl f)))] ++ (wC g cy u.1 ++ (wl ad cy (z 0) (g 20) u.2.1 ++ (wl ad cy (z 0) (g 21) u.2.2.1 ++ (wl ad cy (z 0) (g 22) u.2.2.2.1 ++ wS g cy u.2.2.2.2)))))) H → va_D A (wH h cy σ ++ ([(o, .inl (cy 1, 1, .inr (.inl f)))] ++ (wC g cy u.1 ++ (wl ad cy (z 0) (g 20) u.2.1 ++ (wl ad cy (z 0) (g 21) u.2.2.1 ++ (wl ad cy (z 0) (g 22) u.2.2.2.1 ++ wS g cy u.2.2.2.2)))))) → va_S A s.heap H locs → lv_has ls 9 [(0, .ref b), (1, .ref (h 16)), (2, .ref (g 0)), (3, .ref o), (4, .int (nI i))] → W p l e9 room_1 s m #[Value.ref b] below meth c H locs k0 n0 Q (F0 m 1184 ls []) := by
  intro H locs ls hP hD hS hl
  have hx := hC.1
  have hb := hC.2.1
  have hml := hC.2.2.2.1
  have hown := hC.2.2.2.2.1
  have hts := hC.2.2.2.2.2.1
  unfold wp_case25 at hF
  refine lv_aload_n hx hb dL_law_1184 rfl (lv_at hl 1 rfl) ?_
  refine lv_aload_n hx hb dL_law_1185 rfl (lv_at hl 3 rfl) ?_
  refine lwWrap (x := wO h cy o σ f) (wn := fun (u : SX × (Nat → Int64)) => wO h cy o u.1 u.2) (As := [.ref (h 16), .ref o]) (rest := []) (fpA _ _ _) hC hK hXS hXZ hN hP hD hS hA (m_L_leastSweeps l hl9 dC dI h cy sa o _ fu σ f _ hF) k_L_leastSweeps q749 ⟨rfl, rfl⟩ ⟨Nat.le_of_ble_eq_true rfl, Nat.le_of_ble_eq_true rfl⟩ hl.1 rfl rfl (Nat.le_of_ble_eq_true rfl) dL_law_1186 ⟨by show _ ≤ 603072; omega, by show _ ≤ 7211114; omega⟩ (fun r1186 v9 H1 locs hF hP1 hD1 hS => ?_)
  obtain ⟨s1186, f1186⟩ := v9
  have hP := va_P.perm (fpA _ _ _).symm hP1
  have hD := va_D.perm (fpA _ _ _).symm hD1
  generalize H1 = H at hP hS ⊢
  have hP : va_P (dC, dI) classes (wH h cy s1186 ++ ([(o, .inl (cy 1, 1, .inr (.inl f1186)))] ++ (wC g cy u.1 ++ (wl ad cy (z 0) (g 20) u.2.1 ++ (wl ad cy (z 0) (g 21) u.2.2.1 ++ (wl ad cy (z 0) (g 22) u.2.2.2.1 ++ wS g cy u.2.2.2.2)))))) H := hP
  have hD : va_D A (wH h cy s1186 ++ ([(o, .inl (cy 1, 1, .inr (.inl f1186)))] ++ (wC g cy u.1 ++ (wl ad cy (z 0) (g 20) u.2.1 ++ (wl ad cy (z 0) (g 21) u.2.2.1 ++ (wl ad cy (z 0) (g 22) u.2.2.2.1 ++ wS g cy u.2.2.2.2)))))) := hD
  refine lv_istore (lv' := [(5, .int r1186), (0, .ref b), (1, .ref (h 16)), (2, .ref (g 0)), (3, .ref o), (4, .int (nI i))]) hx hb dL_law_1189 hl (by decide) rfl (fun ls hl => ?_)
  refine lv_aload_n hx hb dL_law_1191 rfl (lv_at hl 3 rfl) ?_
  refine cfVi (x := wC g cy u.1 ++ (wl ad cy (z 0) (g 20) u.2.1 ++ (wl ad cy (z 0) (g 21) u.2.2.1 ++ (wl ad cy (z 0) (g 22) u.2.2.2.1 ++ wS g cy u.2.2.2.2)))) (As := []) (rest := []) (fpF _ _ _) hC hK hP hD hZ hvk hS hA rfl (m_X4_leastSweeps l dC dI g cy z ad _ fu u _ hF) k_X4_leastSweeps q1652 ⟨rfl, rfl⟩ ⟨Nat.le_of_ble_eq_true rfl, Nat.le_of_ble_eq_true rfl⟩ hl.1 rfl rfl (Nat.le_of_ble_eq_true rfl) dL_law_1192 ⟨by show _ ≤ 603072; omega, by show _ ≤ 7211114; omega⟩ (fun r1192 s1192 H1 locs hF hP1 hD1 hS => ?_)
  have hP := va_P.perm (fpF _ _ _).symm hP1
  have hD := va_D.perm (fpF _ _ _).symm hD1
  generalize H1 = H at hP hS ⊢
  have hP : va_P (dC, dI) classes (wH h cy s1186 ++ ([(o, .inl (cy 1, 1, .inr (.inl f1186)))] ++ (wC g cy s1192.1 ++ (wl ad cy (z 0) (g 20) s1192.2.1 ++ (wl ad cy (z 0) (g 21) s1192.2.2.1 ++ (wl ad cy (z 0) (g 22) s1192.2.2.2.1 ++ wS g cy s1192.2.2.2.2)))))) H := hP
  have hD : va_D A (wH h cy s1186 ++ ([(o, .inl (cy 1, 1, .inr (.inl f1186)))] ++ (wC g cy s1192.1 ++ (wl ad cy (z 0) (g 20) s1192.2.1 ++ (wl ad cy (z 0) (g 21) s1192.2.2.1 ++ (wl ad cy (z 0) (g 22) s1192.2.2.2.1 ++ wS g cy s1192.2.2.2.2)))))) := hD
  refine lv_istore (lv' := [(6, .int r1192), (5, .int r1186), (0, .ref b), (1, .ref (h 16)), (2, .ref (g 0)), (3, .ref o), (4, .int (nI i))]) hx hb dL_law_1195 hl (by decide) rfl (fun ls hl => ?_)
  refine lv_aload_n hx hb dL_law_1197 rfl (lv_at hl 4 rfl) ?_
  have hPc := fw_get (fp2 _ _ _ _) hP
  refine cpVi (q0 := 0) (As := []) (rest := []) hC hK hPc rfl rfl (m_X4_thrown l dC dI g cy s1192.1 _ hF) k_X4_thrown q1009 ⟨rfl, rfl⟩ ⟨Nat.le_of_ble_eq_true rfl, Nat.le_of_ble_eq_true rfl⟩ hl.1 rfl rfl (Nat.le_of_ble_eq_true rfl) dL_law_1198 ⟨by show _ ≤ 603072; omega, by show _ ≤ 7211114; omega⟩ (fun r1198 hF => ?_)
  refine lv_iload hx hb dL_law_1201 (lv_at hl 1 rfl) ?_
  refine lv_icmp_eq (tgt := 1208) hx hb dL_law_1203 (by decide) (fun cz => ?_) (fun cz => ?_)
  · have hF := hF.1 cz
    refine lv_iload hx hb dL_law_1208 (lv_at hl 1 rfl) ?_
    refine lv_if_ne (tgt := 1225) hx hb dL_law_1210 (by decide) (fun cz => ?_) (fun cz => ?_)
    · have hF := hF.1 cz
      refine lv_goto (tgt := 1951) hx hb dL_law_1225 (by decide) ?_
      refine W.widen (k := k0 + 30) (n := n0 + 480) (by omega) (by omega) ?_
      exact hJ _ _ _ hF _ _ _ hP hD hS (lv_sub hl [2, 3, 4, 5, 6] rfl)
    · have hF := hF.2 cz
      refine lv_aload_n hx hb dL_law_1213 rfl (lv_at hl 5 rfl) ?_
      refine lv_iconst (v := 0) hx hb dL_law_1214 (by decide) ?_
      refine va_lald hx hb hK.1 hP 21 1 rfl rfl (show vp_in 0 1 from vp_in_nI (n := 0) (by omega) (by omega)) dL_law_1215 ?_
      refine lv_iload hx hb dL_law_1216 (lv_at hl 0 rfl) ?_
      refine lv_i2l hx hb dL_law_1218 rfl ?_
      refine W.lcmp hx hb dL_law_1219 ?_
      refine lv_if_eq (tgt := 1225) hx hb dL_law_1220 (by decide) (fun cz => ?_) (fun cz => ?_)
      · have hF := hF.1 cz
        refine lv_goto (tgt := 1951) hx hb dL_law_1225 (by decide) ?_
        refine W.widen (k := k0 + 30) (n := n0 + 480) (by omega) (by omega) ?_
        exact hJ _ _ _ hF _ _ _ hP hD hS (lv_sub hl [2, 3, 4, 5, 6] rfl)
      · have hF := hF.2 cz
        refine lv_iconst (v := 0) hx hb dL_law_1223 (by decide) ?_
        exact hF.elim
  · have hF := hF.2 cz
    refine lv_iconst (v := 0) hx hb dL_law_1206 (by decide) ?_
    exact hF.elim
def wp_case26 (fu : Nat) (σ : SX) (f : Nat → Int64) (u : FX) (K : SX → (Nat → Int64) → FX → Prop) : Prop := (wp_L_highest fu σ f (fun r1230 s1230 f1230 => (wp_X4_highest fu u.1 (fun r1236 s1236 => (wp_X4_thrown ((s1236, u.2).1) (fun r1242 => ((r1242 = r1230 → ((¬ r1230 = 0 → (K s1230 f1230 (s1236, u.2))) ∧ (r1230 = 0 → (((lg_cmp (f1230 (0 : Int32).toNatClampNeg) r1236.toInt64) = 0 → (K s1230 f1230 (s1236, u.2))) ∧ (¬ (lg_cmp (f1230 (0 : Int32).toNatClampNeg) r1236.toInt64) = 0 → False))))) ∧ (¬ r1242 = r1230 → False))))))))
set_option maxHeartbeats 4000000 in
set_option maxRecDepth 100000 in
theorem m_case26 {p : Program} {e9 : Env} {s : State} {m : MethodId} {below : List Frame} {meth : Method} {c : Code} (l : Launch) (hl9 : l.stackTraces = false) {dC : Nat → ClassId} {dI : Nat → Nat → Nat} {h g : Nat → Nat} {cy : Nat → ClassId} {sa z ad : Nat → Nat} {o b L fu i k0 n0 : Nat} {xs : Nat → Int32} {A : Nat → Prop} {Q : State → Prop} {a0 a1 a2 : Int32}
  (hC : Cx p s m #[Value.ref b] meth c RL code 9 ret) (hK : kwX dC dI cy s) (hXS : XS sa s) (hXZ : XZ A s s.heap) (hN : NCL s) (hZ : ZF z ad A s s.heap) (hvk : vk_R "PegshoreHouseModel" 92 "std" (z 4) s) (hX : va_X b L xs s s.heap) (hbl : b < s.heap.size) (hbA : ¬ A b) (hA : ∀ q : Nat, s.heap.size ≤ q → A q)
  (hi1 : vp_in (nI i + 1) L) (hi2 : vp_in (nI i + 2) L) (hx1 : xs (nI i + 1).toNatClampNeg = a1) (hx2 : xs (nI i + 2).toNatClampNeg = a2) (hk0 : k0 + 30 ≤ 603072) (hn0 : n0 + 480 ≤ 7211114)
  (K : SX → (Nat → Int64) → FX → Prop) (hJ : ∀ σ f u, K σ f u → ∀ (H : Heap) (locs : List Loc) (ls : Array Slot), va_P (dC, dI) classes (wH h cy σ ++ ([(o, .inl (cy 1, 1, .inr (.inl f)))] ++ (wC g cy u.1 ++ (wl ad cy (z 0) (g 20) u.2.1 ++ (wl ad cy (z 0) (g 21) u.2.2.1 ++ (wl ad cy (z 0) (g 22) u.2.2.2.1 ++ wS g cy u.2.2.2.2)))))) H → va_D A (wH h cy σ ++ ([(o, .inl (cy 1, 1, .inr (.inl f)))] ++ (wC g cy u.1 ++ (wl ad cy (z 0) (g 20) u.2.1 ++ (wl ad cy (z 0) (g 21) u.2.2.1 ++ (wl ad cy (z 0) (g 22) u.2.2.2.1 ++ wS g cy u.2.2.2.2)))))) → va_S A s.heap H locs → lv_has ls 9 [(0, .ref b), (1, .ref (h 16)), (2, .ref (g 0)), (3, .ref o), (4, .int (nI i))] → W p l e9 room_1 s m #[Value.ref b] below meth c H locs (k0 + 30) (n0 + 480) Q (F0 m 1951 ls [])) (σ : SX) (f : Nat → Int64) (u : FX) (hF : wp_case26 fu σ f u K) : ∀ (H : Heap) (locs : List Loc) (ls : Array Slot), va_P (dC, dI) classes (wH h cy σ ++ ([(o, .inl (cy 1, 1, .inr (.inl f)))] ++ (wC g cy u.1 ++ (wl ad cy (z 0) (g 20) u.2.1 ++ (wl ad cy (z 0) (g 21) u.2.2.1 ++ (wl ad cy (z 0) (g 22) u.2.2.2.1 ++ wS g cy u.2.2.2.2)))))) H → va_D A (wH h cy σ ++ ([(o, .inl (cy 1, 1, .inr (.inl f)))] ++ (wC g cy u.1 ++ (wl ad cy (z 0) (g 20) u.2.1 ++ (wl ad cy (z 0) (g 21) u.2.2.1 ++ (wl ad cy (z 0) (g 22) u.2.2.2.1 ++ wS g cy u.2.2.2.2)))))) → va_S A s.heap H locs → lv_has ls 9 [(0, .ref b), (1, .ref (h 16)), (2, .ref (g 0)), (3, .ref o), (4, .int (nI i))] → W p l e9 room_1 s m #[Value.ref b] below meth c H locs k0 n0 Q (F0 m 1228 ls []) := by
  intro H locs ls hP hD hS hl
  have hx := hC.1
  have hb := hC.2.1
  have hml := hC.2.2.2.1
  have hown := hC.2.2.2.2.1
  have hts := hC.2.2.2.2.2.1
  unfold wp_case26 at hF
  refine lv_aload_n hx hb dL_law_1228 rfl (lv_at hl 1 rfl) ?_
  refine lv_aload_n hx hb dL_law_1229 rfl (lv_at hl 3 rfl) ?_
  refine lwWrap (x := wO h cy o σ f) (wn := fun (u : SX × (Nat → Int64)) => wO h cy o u.1 u.2) (As := [.ref (h 16), .ref o]) (rest := []) (fpA _ _ _) hC hK hXS hXZ hN hP hD hS hA (m_L_highest l hl9 dC dI h cy sa o _ fu σ f _ hF) k_L_highest q771 ⟨rfl, rfl⟩ ⟨Nat.le_of_ble_eq_true rfl, Nat.le_of_ble_eq_true rfl⟩ hl.1 rfl rfl (Nat.le_of_ble_eq_true rfl) dL_law_1230 ⟨by show _ ≤ 603072; omega, by show _ ≤ 7211114; omega⟩ (fun r1230 v9 H1 locs hF hP1 hD1 hS => ?_)
  obtain ⟨s1230, f1230⟩ := v9
  have hP := va_P.perm (fpA _ _ _).symm hP1
  have hD := va_D.perm (fpA _ _ _).symm hD1
  generalize H1 = H at hP hS ⊢
  have hP : va_P (dC, dI) classes (wH h cy s1230 ++ ([(o, .inl (cy 1, 1, .inr (.inl f1230)))] ++ (wC g cy u.1 ++ (wl ad cy (z 0) (g 20) u.2.1 ++ (wl ad cy (z 0) (g 21) u.2.2.1 ++ (wl ad cy (z 0) (g 22) u.2.2.2.1 ++ wS g cy u.2.2.2.2)))))) H := hP
  have hD : va_D A (wH h cy s1230 ++ ([(o, .inl (cy 1, 1, .inr (.inl f1230)))] ++ (wC g cy u.1 ++ (wl ad cy (z 0) (g 20) u.2.1 ++ (wl ad cy (z 0) (g 21) u.2.2.1 ++ (wl ad cy (z 0) (g 22) u.2.2.2.1 ++ wS g cy u.2.2.2.2)))))) := hD
  refine lv_istore (lv' := [(5, .int r1230), (0, .ref b), (1, .ref (h 16)), (2, .ref (g 0)), (3, .ref o), (4, .int (nI i))]) hx hb dL_law_1233 hl (by decide) rfl (fun ls hl => ?_)
  refine lv_aload_n hx hb dL_law_1235 rfl (lv_at hl 3 rfl) ?_
  have hPc := fw_get (fp2 _ _ _ _) hP
  have hDc := fw_getD (fp2 _ _ _ _) hD
  have hFc := fw_free (fp2 _ _ _ _) hD hS hA
  refine cwVi (q0 := 0) (As := []) (rest := []) hC hK hPc hDc rfl rfl hS hFc (m_X4_highest l dC dI g cy _ fu u.1 _ hF) k_X4_highest q1660 ⟨rfl, rfl⟩ ⟨Nat.le_of_ble_eq_true rfl, Nat.le_of_ble_eq_true rfl⟩ hl.1 rfl rfl (Nat.le_of_ble_eq_true rfl) dL_law_1236 ⟨by show _ ≤ 603072; omega, by show _ ≤ 7211114; omega⟩ (fun r1236 s1236 H1 locs hF hP9 hD9 hk1 hS => ?_)
  obtain ⟨hP1, hD1⟩ := fw_join (fp2 _ _ _ _) hP hD hk1 hFc hP9 hD9
  have hP := va_P.perm (fp2 _ _ _ _).symm hP1
  have hD := va_D.perm (fp2 _ _ _ _).symm hD1
  generalize H1 = H at hP hS ⊢
  have hP : va_P (dC, dI) classes (wH h cy s1230 ++ ([(o, .inl (cy 1, 1, .inr (.inl f1230)))] ++ (wC g cy (s1236, u.2).1 ++ (wl ad cy (z 0) (g 20) (s1236, u.2).2.1 ++ (wl ad cy (z 0) (g 21) (s1236, u.2).2.2.1 ++ (wl ad cy (z 0) (g 22) (s1236, u.2).2.2.2.1 ++ wS g cy (s1236, u.2).2.2.2.2)))))) H := hP
  have hD : va_D A (wH h cy s1230 ++ ([(o, .inl (cy 1, 1, .inr (.inl f1230)))] ++ (wC g cy (s1236, u.2).1 ++ (wl ad cy (z 0) (g 20) (s1236, u.2).2.1 ++ (wl ad cy (z 0) (g 21) (s1236, u.2).2.2.1 ++ (wl ad cy (z 0) (g 22) (s1236, u.2).2.2.2.1 ++ wS g cy (s1236, u.2).2.2.2.2)))))) := hD
  refine lv_istore (lv' := [(6, .int r1236), (5, .int r1230), (0, .ref b), (1, .ref (h 16)), (2, .ref (g 0)), (3, .ref o), (4, .int (nI i))]) hx hb dL_law_1239 hl (by decide) rfl (fun ls hl => ?_)
  refine lv_aload_n hx hb dL_law_1241 rfl (lv_at hl 4 rfl) ?_
  have hPc := fw_get (fp2 _ _ _ _) hP
  refine cpVi (q0 := 0) (As := []) (rest := []) hC hK hPc rfl rfl (m_X4_thrown l dC dI g cy ((s1236, u.2).1) _ hF) k_X4_thrown q1009 ⟨rfl, rfl⟩ ⟨Nat.le_of_ble_eq_true rfl, Nat.le_of_ble_eq_true rfl⟩ hl.1 rfl rfl (Nat.le_of_ble_eq_true rfl) dL_law_1242 ⟨by show _ ≤ 603072; omega, by show _ ≤ 7211114; omega⟩ (fun r1242 hF => ?_)
  refine lv_iload hx hb dL_law_1245 (lv_at hl 1 rfl) ?_
  refine lv_icmp_eq (tgt := 1252) hx hb dL_law_1247 (by decide) (fun cz => ?_) (fun cz => ?_)
  · have hF := hF.1 cz
    refine lv_iload hx hb dL_law_1252 (lv_at hl 1 rfl) ?_
    refine lv_if_ne (tgt := 1269) hx hb dL_law_1254 (by decide) (fun cz => ?_) (fun cz => ?_)
    · have hF := hF.1 cz
      refine lv_goto (tgt := 1951) hx hb dL_law_1269 (by decide) ?_
      refine W.widen (k := k0 + 30) (n := n0 + 480) (by omega) (by omega) ?_
      exact hJ _ _ _ hF _ _ _ hP hD hS (lv_sub hl [2, 3, 4, 5, 6] rfl)
    · have hF := hF.2 cz
      refine lv_aload_n hx hb dL_law_1257 rfl (lv_at hl 5 rfl) ?_
      refine lv_iconst (v := 0) hx hb dL_law_1258 (by decide) ?_
      refine va_lald hx hb hK.1 hP 21 1 rfl rfl (show vp_in 0 1 from vp_in_nI (n := 0) (by omega) (by omega)) dL_law_1259 ?_
      refine lv_iload hx hb dL_law_1260 (lv_at hl 0 rfl) ?_
      refine lv_i2l hx hb dL_law_1262 rfl ?_
      refine W.lcmp hx hb dL_law_1263 ?_
      refine lv_if_eq (tgt := 1269) hx hb dL_law_1264 (by decide) (fun cz => ?_) (fun cz => ?_)
      · have hF := hF.1 cz
        refine lv_goto (tgt := 1951) hx hb dL_law_1269 (by decide) ?_
        refine W.widen (k := k0 + 30) (n := n0 + 480) (by omega) (by omega) ?_
        exact hJ _ _ _ hF _ _ _ hP hD hS (lv_sub hl [2, 3, 4, 5, 6] rfl)
      · have hF := hF.2 cz
        refine lv_iconst (v := 0) hx hb dL_law_1267 (by decide) ?_
        exact hF.elim
  · have hF := hF.2 cz
    refine lv_iconst (v := 0) hx hb dL_law_1250 (by decide) ?_
    exact hF.elim
def wp_case27 (a1 : Int32) (a2 : Int32) (σ : SX) (f : Nat → Int64) (u : FX) (K : SX → (Nat → Int64) → FX → Prop) : Prop := (wp_L_weigh σ f a1 a2 (fun r1286 s1286 f1286 => (wp_X4_weigh u.1 a1 a2 (fun r1304 s1304 => (wp_X4_thrown ((s1304, u.2).1) (fun r1310 => ((r1310 = r1286 → ((¬ r1286 = 0 → (K s1286 f1286 (s1304, u.2))) ∧ (r1286 = 0 → (((lg_cmp (f1286 (0 : Int32).toNatClampNeg) r1304.toInt64) = 0 → (K s1286 f1286 (s1304, u.2))) ∧ (¬ (lg_cmp (f1286 (0 : Int32).toNatClampNeg) r1304.toInt64) = 0 → False))))) ∧ (¬ r1310 = r1286 → False))))))))
set_option maxHeartbeats 4000000 in
set_option maxRecDepth 100000 in
theorem m_case27 {p : Program} {e9 : Env} {s : State} {m : MethodId} {below : List Frame} {meth : Method} {c : Code} (l : Launch) (hl9 : l.stackTraces = false) {dC : Nat → ClassId} {dI : Nat → Nat → Nat} {h g : Nat → Nat} {cy : Nat → ClassId} {sa z ad : Nat → Nat} {o b L fu i k0 n0 : Nat} {xs : Nat → Int32} {A : Nat → Prop} {Q : State → Prop} {a0 a1 a2 : Int32}
  (hC : Cx p s m #[Value.ref b] meth c RL code 9 ret) (hK : kwX dC dI cy s) (hXS : XS sa s) (hXZ : XZ A s s.heap) (hN : NCL s) (hZ : ZF z ad A s s.heap) (hvk : vk_R "PegshoreHouseModel" 92 "std" (z 4) s) (hX : va_X b L xs s s.heap) (hbl : b < s.heap.size) (hbA : ¬ A b) (hA : ∀ q : Nat, s.heap.size ≤ q → A q)
  (hi1 : vp_in (nI i + 1) L) (hi2 : vp_in (nI i + 2) L) (hx1 : xs (nI i + 1).toNatClampNeg = a1) (hx2 : xs (nI i + 2).toNatClampNeg = a2) (hk0 : k0 + 30 ≤ 603072) (hn0 : n0 + 480 ≤ 7211114)
  (K : SX → (Nat → Int64) → FX → Prop) (hJ : ∀ σ f u, K σ f u → ∀ (H : Heap) (locs : List Loc) (ls : Array Slot), va_P (dC, dI) classes (wH h cy σ ++ ([(o, .inl (cy 1, 1, .inr (.inl f)))] ++ (wC g cy u.1 ++ (wl ad cy (z 0) (g 20) u.2.1 ++ (wl ad cy (z 0) (g 21) u.2.2.1 ++ (wl ad cy (z 0) (g 22) u.2.2.2.1 ++ wS g cy u.2.2.2.2)))))) H → va_D A (wH h cy σ ++ ([(o, .inl (cy 1, 1, .inr (.inl f)))] ++ (wC g cy u.1 ++ (wl ad cy (z 0) (g 20) u.2.1 ++ (wl ad cy (z 0) (g 21) u.2.2.1 ++ (wl ad cy (z 0) (g 22) u.2.2.2.1 ++ wS g cy u.2.2.2.2)))))) → va_S A s.heap H locs → lv_has ls 9 [(0, .ref b), (1, .ref (h 16)), (2, .ref (g 0)), (3, .ref o), (4, .int (nI i))] → W p l e9 room_1 s m #[Value.ref b] below meth c H locs (k0 + 30) (n0 + 480) Q (F0 m 1951 ls [])) (σ : SX) (f : Nat → Int64) (u : FX) (hF : wp_case27 a1 a2 σ f u K) : ∀ (H : Heap) (locs : List Loc) (ls : Array Slot), va_P (dC, dI) classes (wH h cy σ ++ ([(o, .inl (cy 1, 1, .inr (.inl f)))] ++ (wC g cy u.1 ++ (wl ad cy (z 0) (g 20) u.2.1 ++ (wl ad cy (z 0) (g 21) u.2.2.1 ++ (wl ad cy (z 0) (g 22) u.2.2.2.1 ++ wS g cy u.2.2.2.2)))))) H → va_D A (wH h cy σ ++ ([(o, .inl (cy 1, 1, .inr (.inl f)))] ++ (wC g cy u.1 ++ (wl ad cy (z 0) (g 20) u.2.1 ++ (wl ad cy (z 0) (g 21) u.2.2.1 ++ (wl ad cy (z 0) (g 22) u.2.2.2.1 ++ wS g cy u.2.2.2.2)))))) → va_S A s.heap H locs → lv_has ls 9 [(0, .ref b), (1, .ref (h 16)), (2, .ref (g 0)), (3, .ref o), (4, .int (nI i))] → W p l e9 room_1 s m #[Value.ref b] below meth c H locs k0 n0 Q (F0 m 1272 ls []) := by
  intro H locs ls hP hD hS hl
  have hx := hC.1
  have hb := hC.2.1
  have hml := hC.2.2.2.1
  have hown := hC.2.2.2.2.1
  have hts := hC.2.2.2.2.2.1
  unfold wp_case27 at hF
  refine lv_aload_n hx hb dL_law_1272 rfl (lv_at hl 1 rfl) ?_
  refine lv_aload_n hx hb dL_law_1273 rfl (lv_at hl 0 rfl) ?_
  refine lv_iload hx hb dL_law_1274 (lv_at hl 4 rfl) ?_
  refine lv_iconst (v := 1) hx hb dL_law_1276 (by decide) ?_
  refine lv_iadd hx hb dL_law_1277 ?_
  refine va_sld hx hb hX hbl hbA hS hi1 dL_law_1278 ?_
  rw [hx1]
  refine lv_aload_n hx hb dL_law_1279 rfl (lv_at hl 0 rfl) ?_
  refine lv_iload hx hb dL_law_1280 (lv_at hl 4 rfl) ?_
  refine lv_iconst (v := 2) hx hb dL_law_1282 (by decide) ?_
  refine lv_iadd hx hb dL_law_1283 ?_
  refine va_sld hx hb hX hbl hbA hS hi2 dL_law_1284 ?_
  rw [hx2]
  refine lv_aload_n hx hb dL_law_1285 rfl (lv_at hl 3 rfl) ?_
  refine lwWrap (x := wO h cy o σ f) (wn := fun (u : SX × (Nat → Int64)) => wO h cy o u.1 u.2) (As := [.ref (h 16), .int a1, .int a2, .ref o]) (rest := []) (fpA _ _ _) hC hK hXS hXZ hN hP hD hS hA (m_L_weigh l hl9 dC dI h cy sa o _ σ f a1 a2 _ hF) k_L_weigh q779 ⟨rfl, rfl⟩ ⟨Nat.le_of_ble_eq_true rfl, Nat.le_of_ble_eq_true rfl⟩ hl.1 rfl rfl (Nat.le_of_ble_eq_true rfl) dL_law_1286 ⟨by show _ ≤ 603072; omega, by show _ ≤ 7211114; omega⟩ (fun r1286 v9 H1 locs hF hP1 hD1 hS => ?_)
  obtain ⟨s1286, f1286⟩ := v9
  have hP := va_P.perm (fpA _ _ _).symm hP1
  have hD := va_D.perm (fpA _ _ _).symm hD1
  generalize H1 = H at hP hS ⊢
  have hP : va_P (dC, dI) classes (wH h cy s1286 ++ ([(o, .inl (cy 1, 1, .inr (.inl f1286)))] ++ (wC g cy u.1 ++ (wl ad cy (z 0) (g 20) u.2.1 ++ (wl ad cy (z 0) (g 21) u.2.2.1 ++ (wl ad cy (z 0) (g 22) u.2.2.2.1 ++ wS g cy u.2.2.2.2)))))) H := hP
  have hD : va_D A (wH h cy s1286 ++ ([(o, .inl (cy 1, 1, .inr (.inl f1286)))] ++ (wC g cy u.1 ++ (wl ad cy (z 0) (g 20) u.2.1 ++ (wl ad cy (z 0) (g 21) u.2.2.1 ++ (wl ad cy (z 0) (g 22) u.2.2.2.1 ++ wS g cy u.2.2.2.2)))))) := hD
  refine lv_istore (lv' := [(5, .int r1286), (0, .ref b), (1, .ref (h 16)), (2, .ref (g 0)), (3, .ref o), (4, .int (nI i))]) hx hb dL_law_1289 hl (by decide) rfl (fun ls hl => ?_)
  refine lv_aload_n hx hb dL_law_1291 rfl (lv_at hl 3 rfl) ?_
  refine lv_aload_n hx hb dL_law_1292 rfl (lv_at hl 1 rfl) ?_
  refine lv_iload hx hb dL_law_1293 (lv_at hl 5 rfl) ?_
  refine lv_iconst (v := 1) hx hb dL_law_1295 (by decide) ?_
  refine lv_iadd hx hb dL_law_1296 ?_
  refine va_sld hx hb hX hbl hbA hS hi1 dL_law_1297 ?_
  rw [hx1]
  refine lv_aload_n hx hb dL_law_1298 rfl (lv_at hl 1 rfl) ?_
  refine lv_iload hx hb dL_law_1299 (lv_at hl 5 rfl) ?_
  refine lv_iconst (v := 2) hx hb dL_law_1301 (by decide) ?_
  refine lv_iadd hx hb dL_law_1302 ?_
  refine va_sld hx hb hX hbl hbA hS hi2 dL_law_1303 ?_
  rw [hx2]
  have hPc := fw_get (fp2 _ _ _ _) hP
  have hDc := fw_getD (fp2 _ _ _ _) hD
  have hFc := fw_free (fp2 _ _ _ _) hD hS hA
  refine cwVi (q0 := 0) (As := [.int a1, .int a2]) (rest := []) hC hK hPc hDc rfl rfl hS hFc (m_X4_weigh l dC dI g cy _ u.1 a1 a2 _ hF) k_X4_weigh q1664 ⟨rfl, rfl⟩ ⟨Nat.le_of_ble_eq_true rfl, Nat.le_of_ble_eq_true rfl⟩ hl.1 rfl rfl (Nat.le_of_ble_eq_true rfl) dL_law_1304 ⟨by show _ ≤ 603072; omega, by show _ ≤ 7211114; omega⟩ (fun r1304 s1304 H1 locs hF hP9 hD9 hk1 hS => ?_)
  obtain ⟨hP1, hD1⟩ := fw_join (fp2 _ _ _ _) hP hD hk1 hFc hP9 hD9
  have hP := va_P.perm (fp2 _ _ _ _).symm hP1
  have hD := va_D.perm (fp2 _ _ _ _).symm hD1
  generalize H1 = H at hP hS ⊢
  have hP : va_P (dC, dI) classes (wH h cy s1286 ++ ([(o, .inl (cy 1, 1, .inr (.inl f1286)))] ++ (wC g cy (s1304, u.2).1 ++ (wl ad cy (z 0) (g 20) (s1304, u.2).2.1 ++ (wl ad cy (z 0) (g 21) (s1304, u.2).2.2.1 ++ (wl ad cy (z 0) (g 22) (s1304, u.2).2.2.2.1 ++ wS g cy (s1304, u.2).2.2.2.2)))))) H := hP
  have hD : va_D A (wH h cy s1286 ++ ([(o, .inl (cy 1, 1, .inr (.inl f1286)))] ++ (wC g cy (s1304, u.2).1 ++ (wl ad cy (z 0) (g 20) (s1304, u.2).2.1 ++ (wl ad cy (z 0) (g 21) (s1304, u.2).2.2.1 ++ (wl ad cy (z 0) (g 22) (s1304, u.2).2.2.2.1 ++ wS g cy (s1304, u.2).2.2.2.2)))))) := hD
  refine lv_istore (lv' := [(6, .int r1304), (5, .int r1286), (0, .ref b), (1, .ref (h 16)), (2, .ref (g 0)), (3, .ref o), (4, .int (nI i))]) hx hb dL_law_1307 hl (by decide) rfl (fun ls hl => ?_)
  refine lv_aload_n hx hb dL_law_1309 rfl (lv_at hl 4 rfl) ?_
  have hPc := fw_get (fp2 _ _ _ _) hP
  refine cpVi (q0 := 0) (As := []) (rest := []) hC hK hPc rfl rfl (m_X4_thrown l dC dI g cy ((s1304, u.2).1) _ hF) k_X4_thrown q1009 ⟨rfl, rfl⟩ ⟨Nat.le_of_ble_eq_true rfl, Nat.le_of_ble_eq_true rfl⟩ hl.1 rfl rfl (Nat.le_of_ble_eq_true rfl) dL_law_1310 ⟨by show _ ≤ 603072; omega, by show _ ≤ 7211114; omega⟩ (fun r1310 hF => ?_)
  refine lv_iload hx hb dL_law_1313 (lv_at hl 1 rfl) ?_
  refine lv_icmp_eq (tgt := 1320) hx hb dL_law_1315 (by decide) (fun cz => ?_) (fun cz => ?_)
  · have hF := hF.1 cz
    refine lv_iload hx hb dL_law_1320 (lv_at hl 1 rfl) ?_
    refine lv_if_ne (tgt := 1337) hx hb dL_law_1322 (by decide) (fun cz => ?_) (fun cz => ?_)
    · have hF := hF.1 cz
      refine lv_goto (tgt := 1951) hx hb dL_law_1337 (by decide) ?_
      refine W.widen (k := k0 + 30) (n := n0 + 480) (by omega) (by omega) ?_
      exact hJ _ _ _ hF _ _ _ hP hD hS (lv_sub hl [2, 3, 4, 5, 6] rfl)
    · have hF := hF.2 cz
      refine lv_aload_n hx hb dL_law_1325 rfl (lv_at hl 5 rfl) ?_
      refine lv_iconst (v := 0) hx hb dL_law_1326 (by decide) ?_
      refine va_lald hx hb hK.1 hP 21 1 rfl rfl (show vp_in 0 1 from vp_in_nI (n := 0) (by omega) (by omega)) dL_law_1327 ?_
      refine lv_iload hx hb dL_law_1328 (lv_at hl 0 rfl) ?_
      refine lv_i2l hx hb dL_law_1330 rfl ?_
      refine W.lcmp hx hb dL_law_1331 ?_
      refine lv_if_eq (tgt := 1337) hx hb dL_law_1332 (by decide) (fun cz => ?_) (fun cz => ?_)
      · have hF := hF.1 cz
        refine lv_goto (tgt := 1951) hx hb dL_law_1337 (by decide) ?_
        refine W.widen (k := k0 + 30) (n := n0 + 480) (by omega) (by omega) ?_
        exact hJ _ _ _ hF _ _ _ hP hD hS (lv_sub hl [2, 3, 4, 5, 6] rfl)
      · have hF := hF.2 cz
        refine lv_iconst (v := 0) hx hb dL_law_1335 (by decide) ?_
        exact hF.elim
  · have hF := hF.2 cz
    refine lv_iconst (v := 0) hx hb dL_law_1318 (by decide) ?_
    exact hF.elim
def wp_case28 (fu : Nat) (a1 : Int32) (σ : SX) (f : Nat → Int64) (u : FX) (K : SX → (Nat → Int64) → FX → Prop) : Prop := (wp_L_weight fu σ f a1 (fun r1348 s1348 f1348 => (wp_X4_weight fu u.1 a1 (fun r1360 s1360 => (wp_X4_thrown ((s1360, u.2).1) (fun r1366 => ((r1366 = r1348 → ((¬ r1348 = 0 → (K s1348 f1348 (s1360, u.2))) ∧ (r1348 = 0 → (((lg_cmp (f1348 (0 : Int32).toNatClampNeg) r1360.toInt64) = 0 → (K s1348 f1348 (s1360, u.2))) ∧ (¬ (lg_cmp (f1348 (0 : Int32).toNatClampNeg) r1360.toInt64) = 0 → False))))) ∧ (¬ r1366 = r1348 → False))))))))
set_option maxHeartbeats 4000000 in
set_option maxRecDepth 100000 in
theorem m_case28 {p : Program} {e9 : Env} {s : State} {m : MethodId} {below : List Frame} {meth : Method} {c : Code} (l : Launch) (hl9 : l.stackTraces = false) {dC : Nat → ClassId} {dI : Nat → Nat → Nat} {h g : Nat → Nat} {cy : Nat → ClassId} {sa z ad : Nat → Nat} {o b L fu i k0 n0 : Nat} {xs : Nat → Int32} {A : Nat → Prop} {Q : State → Prop} {a0 a1 a2 : Int32}
  (hC : Cx p s m #[Value.ref b] meth c RL code 9 ret) (hK : kwX dC dI cy s) (hXS : XS sa s) (hXZ : XZ A s s.heap) (hN : NCL s) (hZ : ZF z ad A s s.heap) (hvk : vk_R "PegshoreHouseModel" 92 "std" (z 4) s) (hX : va_X b L xs s s.heap) (hbl : b < s.heap.size) (hbA : ¬ A b) (hA : ∀ q : Nat, s.heap.size ≤ q → A q)
  (hi1 : vp_in (nI i + 1) L) (hi2 : vp_in (nI i + 2) L) (hx1 : xs (nI i + 1).toNatClampNeg = a1) (hx2 : xs (nI i + 2).toNatClampNeg = a2) (hk0 : k0 + 30 ≤ 603072) (hn0 : n0 + 480 ≤ 7211114)
  (K : SX → (Nat → Int64) → FX → Prop) (hJ : ∀ σ f u, K σ f u → ∀ (H : Heap) (locs : List Loc) (ls : Array Slot), va_P (dC, dI) classes (wH h cy σ ++ ([(o, .inl (cy 1, 1, .inr (.inl f)))] ++ (wC g cy u.1 ++ (wl ad cy (z 0) (g 20) u.2.1 ++ (wl ad cy (z 0) (g 21) u.2.2.1 ++ (wl ad cy (z 0) (g 22) u.2.2.2.1 ++ wS g cy u.2.2.2.2)))))) H → va_D A (wH h cy σ ++ ([(o, .inl (cy 1, 1, .inr (.inl f)))] ++ (wC g cy u.1 ++ (wl ad cy (z 0) (g 20) u.2.1 ++ (wl ad cy (z 0) (g 21) u.2.2.1 ++ (wl ad cy (z 0) (g 22) u.2.2.2.1 ++ wS g cy u.2.2.2.2)))))) → va_S A s.heap H locs → lv_has ls 9 [(0, .ref b), (1, .ref (h 16)), (2, .ref (g 0)), (3, .ref o), (4, .int (nI i))] → W p l e9 room_1 s m #[Value.ref b] below meth c H locs (k0 + 30) (n0 + 480) Q (F0 m 1951 ls [])) (σ : SX) (f : Nat → Int64) (u : FX) (hF : wp_case28 fu a1 σ f u K) : ∀ (H : Heap) (locs : List Loc) (ls : Array Slot), va_P (dC, dI) classes (wH h cy σ ++ ([(o, .inl (cy 1, 1, .inr (.inl f)))] ++ (wC g cy u.1 ++ (wl ad cy (z 0) (g 20) u.2.1 ++ (wl ad cy (z 0) (g 21) u.2.2.1 ++ (wl ad cy (z 0) (g 22) u.2.2.2.1 ++ wS g cy u.2.2.2.2)))))) H → va_D A (wH h cy σ ++ ([(o, .inl (cy 1, 1, .inr (.inl f)))] ++ (wC g cy u.1 ++ (wl ad cy (z 0) (g 20) u.2.1 ++ (wl ad cy (z 0) (g 21) u.2.2.1 ++ (wl ad cy (z 0) (g 22) u.2.2.2.1 ++ wS g cy u.2.2.2.2)))))) → va_S A s.heap H locs → lv_has ls 9 [(0, .ref b), (1, .ref (h 16)), (2, .ref (g 0)), (3, .ref o), (4, .int (nI i))] → W p l e9 room_1 s m #[Value.ref b] below meth c H locs k0 n0 Q (F0 m 1340 ls []) := by
  intro H locs ls hP hD hS hl
  have hx := hC.1
  have hb := hC.2.1
  have hml := hC.2.2.2.1
  have hown := hC.2.2.2.2.1
  have hts := hC.2.2.2.2.2.1
  unfold wp_case28 at hF
  refine lv_aload_n hx hb dL_law_1340 rfl (lv_at hl 1 rfl) ?_
  refine lv_aload_n hx hb dL_law_1341 rfl (lv_at hl 0 rfl) ?_
  refine lv_iload hx hb dL_law_1342 (lv_at hl 4 rfl) ?_
  refine lv_iconst (v := 1) hx hb dL_law_1344 (by decide) ?_
  refine lv_iadd hx hb dL_law_1345 ?_
  refine va_sld hx hb hX hbl hbA hS hi1 dL_law_1346 ?_
  rw [hx1]
  refine lv_aload_n hx hb dL_law_1347 rfl (lv_at hl 3 rfl) ?_
  refine lwWrap (x := wO h cy o σ f) (wn := fun (u : SX × (Nat → Int64)) => wO h cy o u.1 u.2) (As := [.ref (h 16), .int a1, .ref o]) (rest := []) (fpA _ _ _) hC hK hXS hXZ hN hP hD hS hA (m_L_weight l hl9 dC dI h cy sa o _ fu σ f a1 _ hF) k_L_weight q791 ⟨rfl, rfl⟩ ⟨Nat.le_of_ble_eq_true rfl, Nat.le_of_ble_eq_true rfl⟩ hl.1 rfl rfl (Nat.le_of_ble_eq_true rfl) dL_law_1348 ⟨by show _ ≤ 603072; omega, by show _ ≤ 7211114; omega⟩ (fun r1348 v9 H1 locs hF hP1 hD1 hS => ?_)
  obtain ⟨s1348, f1348⟩ := v9
  have hP := va_P.perm (fpA _ _ _).symm hP1
  have hD := va_D.perm (fpA _ _ _).symm hD1
  generalize H1 = H at hP hS ⊢
  have hP : va_P (dC, dI) classes (wH h cy s1348 ++ ([(o, .inl (cy 1, 1, .inr (.inl f1348)))] ++ (wC g cy u.1 ++ (wl ad cy (z 0) (g 20) u.2.1 ++ (wl ad cy (z 0) (g 21) u.2.2.1 ++ (wl ad cy (z 0) (g 22) u.2.2.2.1 ++ wS g cy u.2.2.2.2)))))) H := hP
  have hD : va_D A (wH h cy s1348 ++ ([(o, .inl (cy 1, 1, .inr (.inl f1348)))] ++ (wC g cy u.1 ++ (wl ad cy (z 0) (g 20) u.2.1 ++ (wl ad cy (z 0) (g 21) u.2.2.1 ++ (wl ad cy (z 0) (g 22) u.2.2.2.1 ++ wS g cy u.2.2.2.2)))))) := hD
  refine lv_istore (lv' := [(5, .int r1348), (0, .ref b), (1, .ref (h 16)), (2, .ref (g 0)), (3, .ref o), (4, .int (nI i))]) hx hb dL_law_1351 hl (by decide) rfl (fun ls hl => ?_)
  refine lv_aload_n hx hb dL_law_1353 rfl (lv_at hl 3 rfl) ?_
  refine lv_aload_n hx hb dL_law_1354 rfl (lv_at hl 1 rfl) ?_
  refine lv_iload hx hb dL_law_1355 (lv_at hl 5 rfl) ?_
  refine lv_iconst (v := 1) hx hb dL_law_1357 (by decide) ?_
  refine lv_iadd hx hb dL_law_1358 ?_
  refine va_sld hx hb hX hbl hbA hS hi1 dL_law_1359 ?_
  rw [hx1]
  have hPc := fw_get (fp2 _ _ _ _) hP
  have hDc := fw_getD (fp2 _ _ _ _) hD
  have hFc := fw_free (fp2 _ _ _ _) hD hS hA
  refine cwVi (q0 := 0) (As := [.int a1]) (rest := []) hC hK hPc hDc rfl rfl hS hFc (m_X4_weight l dC dI g cy _ fu u.1 a1 _ hF) k_X4_weight q1668 ⟨rfl, rfl⟩ ⟨Nat.le_of_ble_eq_true rfl, Nat.le_of_ble_eq_true rfl⟩ hl.1 rfl rfl (Nat.le_of_ble_eq_true rfl) dL_law_1360 ⟨by show _ ≤ 603072; omega, by show _ ≤ 7211114; omega⟩ (fun r1360 s1360 H1 locs hF hP9 hD9 hk1 hS => ?_)
  obtain ⟨hP1, hD1⟩ := fw_join (fp2 _ _ _ _) hP hD hk1 hFc hP9 hD9
  have hP := va_P.perm (fp2 _ _ _ _).symm hP1
  have hD := va_D.perm (fp2 _ _ _ _).symm hD1
  generalize H1 = H at hP hS ⊢
  have hP : va_P (dC, dI) classes (wH h cy s1348 ++ ([(o, .inl (cy 1, 1, .inr (.inl f1348)))] ++ (wC g cy (s1360, u.2).1 ++ (wl ad cy (z 0) (g 20) (s1360, u.2).2.1 ++ (wl ad cy (z 0) (g 21) (s1360, u.2).2.2.1 ++ (wl ad cy (z 0) (g 22) (s1360, u.2).2.2.2.1 ++ wS g cy (s1360, u.2).2.2.2.2)))))) H := hP
  have hD : va_D A (wH h cy s1348 ++ ([(o, .inl (cy 1, 1, .inr (.inl f1348)))] ++ (wC g cy (s1360, u.2).1 ++ (wl ad cy (z 0) (g 20) (s1360, u.2).2.1 ++ (wl ad cy (z 0) (g 21) (s1360, u.2).2.2.1 ++ (wl ad cy (z 0) (g 22) (s1360, u.2).2.2.2.1 ++ wS g cy (s1360, u.2).2.2.2.2)))))) := hD
  refine lv_istore (lv' := [(6, .int r1360), (5, .int r1348), (0, .ref b), (1, .ref (h 16)), (2, .ref (g 0)), (3, .ref o), (4, .int (nI i))]) hx hb dL_law_1363 hl (by decide) rfl (fun ls hl => ?_)
  refine lv_aload_n hx hb dL_law_1365 rfl (lv_at hl 4 rfl) ?_
  have hPc := fw_get (fp2 _ _ _ _) hP
  refine cpVi (q0 := 0) (As := []) (rest := []) hC hK hPc rfl rfl (m_X4_thrown l dC dI g cy ((s1360, u.2).1) _ hF) k_X4_thrown q1009 ⟨rfl, rfl⟩ ⟨Nat.le_of_ble_eq_true rfl, Nat.le_of_ble_eq_true rfl⟩ hl.1 rfl rfl (Nat.le_of_ble_eq_true rfl) dL_law_1366 ⟨by show _ ≤ 603072; omega, by show _ ≤ 7211114; omega⟩ (fun r1366 hF => ?_)
  refine lv_iload hx hb dL_law_1369 (lv_at hl 1 rfl) ?_
  refine lv_icmp_eq (tgt := 1376) hx hb dL_law_1371 (by decide) (fun cz => ?_) (fun cz => ?_)
  · have hF := hF.1 cz
    refine lv_iload hx hb dL_law_1376 (lv_at hl 1 rfl) ?_
    refine lv_if_ne (tgt := 1393) hx hb dL_law_1378 (by decide) (fun cz => ?_) (fun cz => ?_)
    · have hF := hF.1 cz
      refine lv_goto (tgt := 1951) hx hb dL_law_1393 (by decide) ?_
      refine W.widen (k := k0 + 30) (n := n0 + 480) (by omega) (by omega) ?_
      exact hJ _ _ _ hF _ _ _ hP hD hS (lv_sub hl [2, 3, 4, 5, 6] rfl)
    · have hF := hF.2 cz
      refine lv_aload_n hx hb dL_law_1381 rfl (lv_at hl 5 rfl) ?_
      refine lv_iconst (v := 0) hx hb dL_law_1382 (by decide) ?_
      refine va_lald hx hb hK.1 hP 21 1 rfl rfl (show vp_in 0 1 from vp_in_nI (n := 0) (by omega) (by omega)) dL_law_1383 ?_
      refine lv_iload hx hb dL_law_1384 (lv_at hl 0 rfl) ?_
      refine lv_i2l hx hb dL_law_1386 rfl ?_
      refine W.lcmp hx hb dL_law_1387 ?_
      refine lv_if_eq (tgt := 1393) hx hb dL_law_1388 (by decide) (fun cz => ?_) (fun cz => ?_)
      · have hF := hF.1 cz
        refine lv_goto (tgt := 1951) hx hb dL_law_1393 (by decide) ?_
        refine W.widen (k := k0 + 30) (n := n0 + 480) (by omega) (by omega) ?_
        exact hJ _ _ _ hF _ _ _ hP hD hS (lv_sub hl [2, 3, 4, 5, 6] rfl)
      · have hF := hF.2 cz
        refine lv_iconst (v := 0) hx hb dL_law_1391 (by decide) ?_
        exact hF.elim
  · have hF := hF.2 cz
    refine lv_iconst (v := 0) hx hb dL_law_1374 (by decide) ?_
    exact hF.elim
def wp_case29 (fu : Nat) (σ : SX) (f : Nat → Int64) (u : FX) (K : SX → (Nat → Int64) → FX → Prop) : Prop := (wp_X3_isProof fu σ (fun r1397 => (wp_X4_isProof fu u.1 (fun r1401 s1401 => ((r1397 = r1401 → (K σ f (s1401, u.2))) ∧ (¬ r1397 = r1401 → False))))))
set_option maxHeartbeats 4000000 in
set_option maxRecDepth 100000 in
theorem m_case29 {p : Program} {e9 : Env} {s : State} {m : MethodId} {below : List Frame} {meth : Method} {c : Code} (l : Launch) (hl9 : l.stackTraces = false) {dC : Nat → ClassId} {dI : Nat → Nat → Nat} {h g : Nat → Nat} {cy : Nat → ClassId} {sa z ad : Nat → Nat} {o b L fu i k0 n0 : Nat} {xs : Nat → Int32} {A : Nat → Prop} {Q : State → Prop} {a0 a1 a2 : Int32}
  (hC : Cx p s m #[Value.ref b] meth c RL code 9 ret) (hK : kwX dC dI cy s) (hXS : XS sa s) (hXZ : XZ A s s.heap) (hN : NCL s) (hZ : ZF z ad A s s.heap) (hvk : vk_R "PegshoreHouseModel" 92 "std" (z 4) s) (hX : va_X b L xs s s.heap) (hbl : b < s.heap.size) (hbA : ¬ A b) (hA : ∀ q : Nat, s.heap.size ≤ q → A q)
  (hi1 : vp_in (nI i + 1) L) (hi2 : vp_in (nI i + 2) L) (hx1 : xs (nI i + 1).toNatClampNeg = a1) (hx2 : xs (nI i + 2).toNatClampNeg = a2) (hk0 : k0 + 30 ≤ 603072) (hn0 : n0 + 480 ≤ 7211114)
  (K : SX → (Nat → Int64) → FX → Prop) (hJ : ∀ σ f u, K σ f u → ∀ (H : Heap) (locs : List Loc) (ls : Array Slot), va_P (dC, dI) classes (wH h cy σ ++ ([(o, .inl (cy 1, 1, .inr (.inl f)))] ++ (wC g cy u.1 ++ (wl ad cy (z 0) (g 20) u.2.1 ++ (wl ad cy (z 0) (g 21) u.2.2.1 ++ (wl ad cy (z 0) (g 22) u.2.2.2.1 ++ wS g cy u.2.2.2.2)))))) H → va_D A (wH h cy σ ++ ([(o, .inl (cy 1, 1, .inr (.inl f)))] ++ (wC g cy u.1 ++ (wl ad cy (z 0) (g 20) u.2.1 ++ (wl ad cy (z 0) (g 21) u.2.2.1 ++ (wl ad cy (z 0) (g 22) u.2.2.2.1 ++ wS g cy u.2.2.2.2)))))) → va_S A s.heap H locs → lv_has ls 9 [(0, .ref b), (1, .ref (h 16)), (2, .ref (g 0)), (3, .ref o), (4, .int (nI i))] → W p l e9 room_1 s m #[Value.ref b] below meth c H locs (k0 + 30) (n0 + 480) Q (F0 m 1951 ls [])) (σ : SX) (f : Nat → Int64) (u : FX) (hF : wp_case29 fu σ f u K) : ∀ (H : Heap) (locs : List Loc) (ls : Array Slot), va_P (dC, dI) classes (wH h cy σ ++ ([(o, .inl (cy 1, 1, .inr (.inl f)))] ++ (wC g cy u.1 ++ (wl ad cy (z 0) (g 20) u.2.1 ++ (wl ad cy (z 0) (g 21) u.2.2.1 ++ (wl ad cy (z 0) (g 22) u.2.2.2.1 ++ wS g cy u.2.2.2.2)))))) H → va_D A (wH h cy σ ++ ([(o, .inl (cy 1, 1, .inr (.inl f)))] ++ (wC g cy u.1 ++ (wl ad cy (z 0) (g 20) u.2.1 ++ (wl ad cy (z 0) (g 21) u.2.2.1 ++ (wl ad cy (z 0) (g 22) u.2.2.2.1 ++ wS g cy u.2.2.2.2)))))) → va_S A s.heap H locs → lv_has ls 9 [(0, .ref b), (1, .ref (h 16)), (2, .ref (g 0)), (3, .ref o), (4, .int (nI i))] → W p l e9 room_1 s m #[Value.ref b] below meth c H locs k0 n0 Q (F0 m 1396 ls []) := by
  intro H locs ls hP hD hS hl
  have hx := hC.1
  have hb := hC.2.1
  have hml := hC.2.2.2.1
  have hown := hC.2.2.2.2.1
  have hts := hC.2.2.2.2.2.1
  unfold wp_case29 at hF
  refine lv_aload_n hx hb dL_law_1396 rfl (lv_at hl 1 rfl) ?_
  have hPc := fw_get (fp0 _ _) hP
  refine cpVi (q0 := 16) (As := []) (rest := []) hC hK hPc rfl rfl (m_X3_isProof l dC dI h cy fu σ _ hF) k_X3_isProof q280 ⟨rfl, rfl⟩ ⟨Nat.le_of_ble_eq_true rfl, Nat.le_of_ble_eq_true rfl⟩ hl.1 rfl rfl (Nat.le_of_ble_eq_true rfl) dL_law_1397 ⟨by show _ ≤ 603072; omega, by show _ ≤ 7211114; omega⟩ (fun r1397 hF => ?_)
  refine lv_aload_n hx hb dL_law_1400 rfl (lv_at hl 2 rfl) ?_
  have hPc := fw_get (fp2 _ _ _ _) hP
  have hDc := fw_getD (fp2 _ _ _ _) hD
  have hFc := fw_free (fp2 _ _ _ _) hD hS hA
  refine cwVi (q0 := 0) (As := []) (rest := [.int r1397]) hC hK hPc hDc rfl rfl hS hFc (m_X4_isProof l dC dI g cy _ fu u.1 _ hF) k_X4_isProof q1676 ⟨rfl, rfl⟩ ⟨Nat.le_of_ble_eq_true rfl, Nat.le_of_ble_eq_true rfl⟩ hl.1 rfl rfl (Nat.le_of_ble_eq_true rfl) dL_law_1401 ⟨by show _ ≤ 603072; omega, by show _ ≤ 7211114; omega⟩ (fun r1401 s1401 H1 locs hF hP9 hD9 hk1 hS => ?_)
  obtain ⟨hP1, hD1⟩ := fw_join (fp2 _ _ _ _) hP hD hk1 hFc hP9 hD9
  have hP := va_P.perm (fp2 _ _ _ _).symm hP1
  have hD := va_D.perm (fp2 _ _ _ _).symm hD1
  generalize H1 = H at hP hS ⊢
  have hP : va_P (dC, dI) classes (wH h cy σ ++ ([(o, .inl (cy 1, 1, .inr (.inl f)))] ++ (wC g cy (s1401, u.2).1 ++ (wl ad cy (z 0) (g 20) (s1401, u.2).2.1 ++ (wl ad cy (z 0) (g 21) (s1401, u.2).2.2.1 ++ (wl ad cy (z 0) (g 22) (s1401, u.2).2.2.2.1 ++ wS g cy (s1401, u.2).2.2.2.2)))))) H := hP
  have hD : va_D A (wH h cy σ ++ ([(o, .inl (cy 1, 1, .inr (.inl f)))] ++ (wC g cy (s1401, u.2).1 ++ (wl ad cy (z 0) (g 20) (s1401, u.2).2.1 ++ (wl ad cy (z 0) (g 21) (s1401, u.2).2.2.1 ++ (wl ad cy (z 0) (g 22) (s1401, u.2).2.2.2.1 ++ wS g cy (s1401, u.2).2.2.2.2)))))) := hD
  refine lv_icmp_eq (tgt := 1951) hx hb dL_law_1404 (by decide) (fun cz => ?_) (fun cz => ?_)
  · have hF := hF.1 cz
    refine W.widen (k := k0 + 30) (n := n0 + 480) (by omega) (by omega) ?_
    exact hJ _ _ _ hF _ _ _ hP hD hS (lv_sub hl [0, 1, 2, 3, 4] rfl)
  · have hF := hF.2 cz
    refine lv_iconst (v := 0) hx hb dL_law_1407 (by decide) ?_
    exact hF.elim
def wp_case30 (fu : Nat) (σ : SX) (f : Nat → Int64) (u : FX) (K : SX → (Nat → Int64) → FX → Prop) : Prop := (wp_L_fault fu σ f (fun r1411 s1411 f1411 => (wp_X4_fault fu u.1 (fun r1417 s1417 => (wp_X4_thrown ((s1417, u.2).1) (fun r1423 => ((r1423 = r1411 → ((¬ r1411 = 0 → (K s1411 f1411 (s1417, u.2))) ∧ (r1411 = 0 → (((lg_cmp (f1411 (0 : Int32).toNatClampNeg) r1417.toInt64) = 0 → (K s1411 f1411 (s1417, u.2))) ∧ (¬ (lg_cmp (f1411 (0 : Int32).toNatClampNeg) r1417.toInt64) = 0 → False))))) ∧ (¬ r1423 = r1411 → False))))))))
set_option maxHeartbeats 4000000 in
set_option maxRecDepth 100000 in
theorem m_case30 {p : Program} {e9 : Env} {s : State} {m : MethodId} {below : List Frame} {meth : Method} {c : Code} (l : Launch) (hl9 : l.stackTraces = false) {dC : Nat → ClassId} {dI : Nat → Nat → Nat} {h g : Nat → Nat} {cy : Nat → ClassId} {sa z ad : Nat → Nat} {o b L fu i k0 n0 : Nat} {xs : Nat → Int32} {A : Nat → Prop} {Q : State → Prop} {a0 a1 a2 : Int32}
  (hC : Cx p s m #[Value.ref b] meth c RL code 9 ret) (hK : kwX dC dI cy s) (hXS : XS sa s) (hXZ : XZ A s s.heap) (hN : NCL s) (hZ : ZF z ad A s s.heap) (hvk : vk_R "PegshoreHouseModel" 92 "std" (z 4) s) (hX : va_X b L xs s s.heap) (hbl : b < s.heap.size) (hbA : ¬ A b) (hA : ∀ q : Nat, s.heap.size ≤ q → A q)
  (hi1 : vp_in (nI i + 1) L) (hi2 : vp_in (nI i + 2) L) (hx1 : xs (nI i + 1).toNatClampNeg = a1) (hx2 : xs (nI i + 2).toNatClampNeg = a2) (hk0 : k0 + 30 ≤ 603072) (hn0 : n0 + 480 ≤ 7211114)
  (K : SX → (Nat → Int64) → FX → Prop) (hJ : ∀ σ f u, K σ f u → ∀ (H : Heap) (locs : List Loc) (ls : Array Slot), va_P (dC, dI) classes (wH h cy σ ++ ([(o, .inl (cy 1, 1, .inr (.inl f)))] ++ (wC g cy u.1 ++ (wl ad cy (z 0) (g 20) u.2.1 ++ (wl ad cy (z 0) (g 21) u.2.2.1 ++ (wl ad cy (z 0) (g 22) u.2.2.2.1 ++ wS g cy u.2.2.2.2)))))) H → va_D A (wH h cy σ ++ ([(o, .inl (cy 1, 1, .inr (.inl f)))] ++ (wC g cy u.1 ++ (wl ad cy (z 0) (g 20) u.2.1 ++ (wl ad cy (z 0) (g 21) u.2.2.1 ++ (wl ad cy (z 0) (g 22) u.2.2.2.1 ++ wS g cy u.2.2.2.2)))))) → va_S A s.heap H locs → lv_has ls 9 [(0, .ref b), (1, .ref (h 16)), (2, .ref (g 0)), (3, .ref o), (4, .int (nI i))] → W p l e9 room_1 s m #[Value.ref b] below meth c H locs (k0 + 30) (n0 + 480) Q (F0 m 1951 ls [])) (σ : SX) (f : Nat → Int64) (u : FX) (hF : wp_case30 fu σ f u K) : ∀ (H : Heap) (locs : List Loc) (ls : Array Slot), va_P (dC, dI) classes (wH h cy σ ++ ([(o, .inl (cy 1, 1, .inr (.inl f)))] ++ (wC g cy u.1 ++ (wl ad cy (z 0) (g 20) u.2.1 ++ (wl ad cy (z 0) (g 21) u.2.2.1 ++ (wl ad cy (z 0) (g 22) u.2.2.2.1 ++ wS g cy u.2.2.2.2)))))) H → va_D A (wH h cy σ ++ ([(o, .inl (cy 1, 1, .inr (.inl f)))] ++ (wC g cy u.1 ++ (wl ad cy (z 0) (g 20) u.2.1 ++ (wl ad cy (z 0) (g 21) u.2.2.1 ++ (wl ad cy (z 0) (g 22) u.2.2.2.1 ++ wS g cy u.2.2.2.2)))))) → va_S A s.heap H locs → lv_has ls 9 [(0, .ref b), (1, .ref (h 16)), (2, .ref (g 0)), (3, .ref o), (4, .int (nI i))] → W p l e9 room_1 s m #[Value.ref b] below meth c H locs k0 n0 Q (F0 m 1409 ls []) := by
  intro H locs ls hP hD hS hl
  have hx := hC.1
  have hb := hC.2.1
  have hml := hC.2.2.2.1
  have hown := hC.2.2.2.2.1
  have hts := hC.2.2.2.2.2.1
  unfold wp_case30 at hF
  refine lv_aload_n hx hb dL_law_1409 rfl (lv_at hl 1 rfl) ?_
  refine lv_aload_n hx hb dL_law_1410 rfl (lv_at hl 3 rfl) ?_
  refine lwWrap (x := wO h cy o σ f) (wn := fun (u : SX × (Nat → Int64)) => wO h cy o u.1 u.2) (As := [.ref (h 16), .ref o]) (rest := []) (fpA _ _ _) hC hK hXS hXZ hN hP hD hS hA (m_L_fault l hl9 dC dI h cy sa o _ fu σ f _ hF) k_L_fault q798 ⟨rfl, rfl⟩ ⟨Nat.le_of_ble_eq_true rfl, Nat.le_of_ble_eq_true rfl⟩ hl.1 rfl rfl (Nat.le_of_ble_eq_true rfl) dL_law_1411 ⟨by show _ ≤ 603072; omega, by show _ ≤ 7211114; omega⟩ (fun r1411 v9 H1 locs hF hP1 hD1 hS => ?_)
  obtain ⟨s1411, f1411⟩ := v9
  have hP := va_P.perm (fpA _ _ _).symm hP1
  have hD := va_D.perm (fpA _ _ _).symm hD1
  generalize H1 = H at hP hS ⊢
  have hP : va_P (dC, dI) classes (wH h cy s1411 ++ ([(o, .inl (cy 1, 1, .inr (.inl f1411)))] ++ (wC g cy u.1 ++ (wl ad cy (z 0) (g 20) u.2.1 ++ (wl ad cy (z 0) (g 21) u.2.2.1 ++ (wl ad cy (z 0) (g 22) u.2.2.2.1 ++ wS g cy u.2.2.2.2)))))) H := hP
  have hD : va_D A (wH h cy s1411 ++ ([(o, .inl (cy 1, 1, .inr (.inl f1411)))] ++ (wC g cy u.1 ++ (wl ad cy (z 0) (g 20) u.2.1 ++ (wl ad cy (z 0) (g 21) u.2.2.1 ++ (wl ad cy (z 0) (g 22) u.2.2.2.1 ++ wS g cy u.2.2.2.2)))))) := hD
  refine lv_istore (lv' := [(5, .int r1411), (0, .ref b), (1, .ref (h 16)), (2, .ref (g 0)), (3, .ref o), (4, .int (nI i))]) hx hb dL_law_1414 hl (by decide) rfl (fun ls hl => ?_)
  refine lv_aload_n hx hb dL_law_1416 rfl (lv_at hl 3 rfl) ?_
  have hPc := fw_get (fp2 _ _ _ _) hP
  have hDc := fw_getD (fp2 _ _ _ _) hD
  have hFc := fw_free (fp2 _ _ _ _) hD hS hA
  refine cwVi (q0 := 0) (As := []) (rest := []) hC hK hPc hDc rfl rfl hS hFc (m_X4_fault l dC dI g cy _ fu u.1 _ hF) k_X4_fault q1688 ⟨rfl, rfl⟩ ⟨Nat.le_of_ble_eq_true rfl, Nat.le_of_ble_eq_true rfl⟩ hl.1 rfl rfl (Nat.le_of_ble_eq_true rfl) dL_law_1417 ⟨by show _ ≤ 603072; omega, by show _ ≤ 7211114; omega⟩ (fun r1417 s1417 H1 locs hF hP9 hD9 hk1 hS => ?_)
  obtain ⟨hP1, hD1⟩ := fw_join (fp2 _ _ _ _) hP hD hk1 hFc hP9 hD9
  have hP := va_P.perm (fp2 _ _ _ _).symm hP1
  have hD := va_D.perm (fp2 _ _ _ _).symm hD1
  generalize H1 = H at hP hS ⊢
  have hP : va_P (dC, dI) classes (wH h cy s1411 ++ ([(o, .inl (cy 1, 1, .inr (.inl f1411)))] ++ (wC g cy (s1417, u.2).1 ++ (wl ad cy (z 0) (g 20) (s1417, u.2).2.1 ++ (wl ad cy (z 0) (g 21) (s1417, u.2).2.2.1 ++ (wl ad cy (z 0) (g 22) (s1417, u.2).2.2.2.1 ++ wS g cy (s1417, u.2).2.2.2.2)))))) H := hP
  have hD : va_D A (wH h cy s1411 ++ ([(o, .inl (cy 1, 1, .inr (.inl f1411)))] ++ (wC g cy (s1417, u.2).1 ++ (wl ad cy (z 0) (g 20) (s1417, u.2).2.1 ++ (wl ad cy (z 0) (g 21) (s1417, u.2).2.2.1 ++ (wl ad cy (z 0) (g 22) (s1417, u.2).2.2.2.1 ++ wS g cy (s1417, u.2).2.2.2.2)))))) := hD
  refine lv_istore (lv' := [(6, .int r1417), (5, .int r1411), (0, .ref b), (1, .ref (h 16)), (2, .ref (g 0)), (3, .ref o), (4, .int (nI i))]) hx hb dL_law_1420 hl (by decide) rfl (fun ls hl => ?_)
  refine lv_aload_n hx hb dL_law_1422 rfl (lv_at hl 4 rfl) ?_
  have hPc := fw_get (fp2 _ _ _ _) hP
  refine cpVi (q0 := 0) (As := []) (rest := []) hC hK hPc rfl rfl (m_X4_thrown l dC dI g cy ((s1417, u.2).1) _ hF) k_X4_thrown q1009 ⟨rfl, rfl⟩ ⟨Nat.le_of_ble_eq_true rfl, Nat.le_of_ble_eq_true rfl⟩ hl.1 rfl rfl (Nat.le_of_ble_eq_true rfl) dL_law_1423 ⟨by show _ ≤ 603072; omega, by show _ ≤ 7211114; omega⟩ (fun r1423 hF => ?_)
  refine lv_iload hx hb dL_law_1426 (lv_at hl 1 rfl) ?_
  refine lv_icmp_eq (tgt := 1433) hx hb dL_law_1428 (by decide) (fun cz => ?_) (fun cz => ?_)
  · have hF := hF.1 cz
    refine lv_iload hx hb dL_law_1433 (lv_at hl 1 rfl) ?_
    refine lv_if_ne (tgt := 1450) hx hb dL_law_1435 (by decide) (fun cz => ?_) (fun cz => ?_)
    · have hF := hF.1 cz
      refine lv_goto (tgt := 1951) hx hb dL_law_1450 (by decide) ?_
      refine W.widen (k := k0 + 30) (n := n0 + 480) (by omega) (by omega) ?_
      exact hJ _ _ _ hF _ _ _ hP hD hS (lv_sub hl [2, 3, 4, 5, 6] rfl)
    · have hF := hF.2 cz
      refine lv_aload_n hx hb dL_law_1438 rfl (lv_at hl 5 rfl) ?_
      refine lv_iconst (v := 0) hx hb dL_law_1439 (by decide) ?_
      refine va_lald hx hb hK.1 hP 21 1 rfl rfl (show vp_in 0 1 from vp_in_nI (n := 0) (by omega) (by omega)) dL_law_1440 ?_
      refine lv_iload hx hb dL_law_1441 (lv_at hl 0 rfl) ?_
      refine lv_i2l hx hb dL_law_1443 rfl ?_
      refine W.lcmp hx hb dL_law_1444 ?_
      refine lv_if_eq (tgt := 1450) hx hb dL_law_1445 (by decide) (fun cz => ?_) (fun cz => ?_)
      · have hF := hF.1 cz
        refine lv_goto (tgt := 1951) hx hb dL_law_1450 (by decide) ?_
        refine W.widen (k := k0 + 30) (n := n0 + 480) (by omega) (by omega) ?_
        exact hJ _ _ _ hF _ _ _ hP hD hS (lv_sub hl [2, 3, 4, 5, 6] rfl)
      · have hF := hF.2 cz
        refine lv_iconst (v := 0) hx hb dL_law_1448 (by decide) ?_
        exact hF.elim
  · have hF := hF.2 cz
    refine lv_iconst (v := 0) hx hb dL_law_1431 (by decide) ?_
    exact hF.elim
def wp_case31 (fu : Nat) (a1 : Int32) (σ : SX) (f : Nat → Int64) (u : FX) (K : SX → (Nat → Int64) → FX → Prop) : Prop := ((a1 = 0 → (wp_X3_isBarred fu σ 0 (fun r1468 => ((a1 = 0 → (wp_X4_isBarred fu u.1 0 (fun r1486 s1486 => ((r1468 = r1486 → (K σ f (s1486, u.2))) ∧ (¬ r1468 = r1486 → False))))) ∧ (¬ a1 = 0 → (wp_X4_isBarred fu u.1 1 (fun r1486 s1486 => ((r1468 = r1486 → (K σ f (s1486, u.2))) ∧ (¬ r1468 = r1486 → False))))))))) ∧ (¬ a1 = 0 → (wp_X3_isBarred fu σ 1 (fun r1468 => ((a1 = 0 → (wp_X4_isBarred fu u.1 0 (fun r1486 s1486 => ((r1468 = r1486 → (K σ f (s1486, u.2))) ∧ (¬ r1468 = r1486 → False))))) ∧ (¬ a1 = 0 → (wp_X4_isBarred fu u.1 1 (fun r1486 s1486 => ((r1468 = r1486 → (K σ f (s1486, u.2))) ∧ (¬ r1468 = r1486 → False))))))))))
set_option maxHeartbeats 4000000 in
set_option maxRecDepth 100000 in
theorem m_case31 {p : Program} {e9 : Env} {s : State} {m : MethodId} {below : List Frame} {meth : Method} {c : Code} (l : Launch) (hl9 : l.stackTraces = false) {dC : Nat → ClassId} {dI : Nat → Nat → Nat} {h g : Nat → Nat} {cy : Nat → ClassId} {sa z ad : Nat → Nat} {o b L fu i k0 n0 : Nat} {xs : Nat → Int32} {A : Nat → Prop} {Q : State → Prop} {a0 a1 a2 : Int32}
  (hC : Cx p s m #[Value.ref b] meth c RL code 9 ret) (hK : kwX dC dI cy s) (hXS : XS sa s) (hXZ : XZ A s s.heap) (hN : NCL s) (hZ : ZF z ad A s s.heap) (hvk : vk_R "PegshoreHouseModel" 92 "std" (z 4) s) (hX : va_X b L xs s s.heap) (hbl : b < s.heap.size) (hbA : ¬ A b) (hA : ∀ q : Nat, s.heap.size ≤ q → A q)
  (hi1 : vp_in (nI i + 1) L) (hi2 : vp_in (nI i + 2) L) (hx1 : xs (nI i + 1).toNatClampNeg = a1) (hx2 : xs (nI i + 2).toNatClampNeg = a2) (hk0 : k0 + 30 ≤ 603072) (hn0 : n0 + 480 ≤ 7211114)
  (K : SX → (Nat → Int64) → FX → Prop) (hJ : ∀ σ f u, K σ f u → ∀ (H : Heap) (locs : List Loc) (ls : Array Slot), va_P (dC, dI) classes (wH h cy σ ++ ([(o, .inl (cy 1, 1, .inr (.inl f)))] ++ (wC g cy u.1 ++ (wl ad cy (z 0) (g 20) u.2.1 ++ (wl ad cy (z 0) (g 21) u.2.2.1 ++ (wl ad cy (z 0) (g 22) u.2.2.2.1 ++ wS g cy u.2.2.2.2)))))) H → va_D A (wH h cy σ ++ ([(o, .inl (cy 1, 1, .inr (.inl f)))] ++ (wC g cy u.1 ++ (wl ad cy (z 0) (g 20) u.2.1 ++ (wl ad cy (z 0) (g 21) u.2.2.1 ++ (wl ad cy (z 0) (g 22) u.2.2.2.1 ++ wS g cy u.2.2.2.2)))))) → va_S A s.heap H locs → lv_has ls 9 [(0, .ref b), (1, .ref (h 16)), (2, .ref (g 0)), (3, .ref o), (4, .int (nI i))] → W p l e9 room_1 s m #[Value.ref b] below meth c H locs (k0 + 30) (n0 + 480) Q (F0 m 1951 ls [])) (σ : SX) (f : Nat → Int64) (u : FX) (hF : wp_case31 fu a1 σ f u K) : ∀ (H : Heap) (locs : List Loc) (ls : Array Slot), va_P (dC, dI) classes (wH h cy σ ++ ([(o, .inl (cy 1, 1, .inr (.inl f)))] ++ (wC g cy u.1 ++ (wl ad cy (z 0) (g 20) u.2.1 ++ (wl ad cy (z 0) (g 21) u.2.2.1 ++ (wl ad cy (z 0) (g 22) u.2.2.2.1 ++ wS g cy u.2.2.2.2)))))) H → va_D A (wH h cy σ ++ ([(o, .inl (cy 1, 1, .inr (.inl f)))] ++ (wC g cy u.1 ++ (wl ad cy (z 0) (g 20) u.2.1 ++ (wl ad cy (z 0) (g 21) u.2.2.1 ++ (wl ad cy (z 0) (g 22) u.2.2.2.1 ++ wS g cy u.2.2.2.2)))))) → va_S A s.heap H locs → lv_has ls 9 [(0, .ref b), (1, .ref (h 16)), (2, .ref (g 0)), (3, .ref o), (4, .int (nI i))] → W p l e9 room_1 s m #[Value.ref b] below meth c H locs k0 n0 Q (F0 m 1453 ls []) := by
  intro H locs ls hP hD hS hl
  have hx := hC.1
  have hb := hC.2.1
  have hml := hC.2.2.2.1
  have hown := hC.2.2.2.2.1
  have hts := hC.2.2.2.2.2.1
  unfold wp_case31 at hF
  refine lv_aload_n hx hb dL_law_1453 rfl (lv_at hl 1 rfl) ?_
  refine lv_aload_n hx hb dL_law_1454 rfl (lv_at hl 0 rfl) ?_
  refine lv_iload hx hb dL_law_1455 (lv_at hl 4 rfl) ?_
  refine lv_iconst (v := 1) hx hb dL_law_1457 (by decide) ?_
  refine lv_iadd hx hb dL_law_1458 ?_
  refine va_sld hx hb hX hbl hbA hS hi1 dL_law_1459 ?_
  rw [hx1]
  refine lv_if_eq (tgt := 1467) hx hb dL_law_1460 (by decide) (fun cz => ?_) (fun cz => ?_)
  · have hF := hF.1 cz
    refine lv_iconst (v := 0) hx hb dL_law_1467 (by decide) ?_
    have hPc := fw_get (fp0 _ _) hP
    refine cpVi (q0 := 16) (As := [.int 0]) (rest := []) hC hK hPc rfl rfl (m_X3_isBarred l dC dI h cy fu σ 0 _ hF) k_X3_isBarred q292 ⟨rfl, rfl⟩ ⟨Nat.le_of_ble_eq_true rfl, Nat.le_of_ble_eq_true rfl⟩ hl.1 rfl rfl (Nat.le_of_ble_eq_true rfl) dL_law_1468 ⟨by show _ ≤ 603072; omega, by show _ ≤ 7211114; omega⟩ (fun r1468 hF => ?_)
    refine lv_aload_n hx hb dL_law_1471 rfl (lv_at hl 2 rfl) ?_
    refine lv_aload_n hx hb dL_law_1472 rfl (lv_at hl 0 rfl) ?_
    refine lv_iload hx hb dL_law_1473 (lv_at hl 4 rfl) ?_
    refine lv_iconst (v := 1) hx hb dL_law_1475 (by decide) ?_
    refine lv_iadd hx hb dL_law_1476 ?_
    refine va_sld hx hb hX hbl hbA hS hi1 dL_law_1477 ?_
    rw [hx1]
    refine lv_if_eq (tgt := 1485) hx hb dL_law_1478 (by decide) (fun cz => ?_) (fun cz => ?_)
    · have hF := hF.1 cz
      refine lv_iconst (v := 0) hx hb dL_law_1485 (by decide) ?_
      have hPc := fw_get (fp2 _ _ _ _) hP
      have hDc := fw_getD (fp2 _ _ _ _) hD
      have hFc := fw_free (fp2 _ _ _ _) hD hS hA
      refine cwVi (q0 := 0) (As := [.int 0]) (rest := [.int r1468]) hC hK hPc hDc rfl rfl hS hFc (m_X4_isBarred l dC dI g cy _ fu u.1 0 _ hF) k_X4_isBarred q1708 ⟨rfl, rfl⟩ ⟨Nat.le_of_ble_eq_true rfl, Nat.le_of_ble_eq_true rfl⟩ hl.1 rfl rfl (Nat.le_of_ble_eq_true rfl) dL_law_1486 ⟨by show _ ≤ 603072; omega, by show _ ≤ 7211114; omega⟩ (fun r1486 s1486 H1 locs hF hP9 hD9 hk1 hS => ?_)
      obtain ⟨hP1, hD1⟩ := fw_join (fp2 _ _ _ _) hP hD hk1 hFc hP9 hD9
      have hP := va_P.perm (fp2 _ _ _ _).symm hP1
      have hD := va_D.perm (fp2 _ _ _ _).symm hD1
      generalize H1 = H at hP hS ⊢
      have hP : va_P (dC, dI) classes (wH h cy σ ++ ([(o, .inl (cy 1, 1, .inr (.inl f)))] ++ (wC g cy (s1486, u.2).1 ++ (wl ad cy (z 0) (g 20) (s1486, u.2).2.1 ++ (wl ad cy (z 0) (g 21) (s1486, u.2).2.2.1 ++ (wl ad cy (z 0) (g 22) (s1486, u.2).2.2.2.1 ++ wS g cy (s1486, u.2).2.2.2.2)))))) H := hP
      have hD : va_D A (wH h cy σ ++ ([(o, .inl (cy 1, 1, .inr (.inl f)))] ++ (wC g cy (s1486, u.2).1 ++ (wl ad cy (z 0) (g 20) (s1486, u.2).2.1 ++ (wl ad cy (z 0) (g 21) (s1486, u.2).2.2.1 ++ (wl ad cy (z 0) (g 22) (s1486, u.2).2.2.2.1 ++ wS g cy (s1486, u.2).2.2.2.2)))))) := hD
      refine lv_icmp_eq (tgt := 1951) hx hb dL_law_1489 (by decide) (fun cz => ?_) (fun cz => ?_)
      · have hF := hF.1 cz
        refine W.widen (k := k0 + 30) (n := n0 + 480) (by omega) (by omega) ?_
        exact hJ _ _ _ hF _ _ _ hP hD hS (lv_sub hl [0, 1, 2, 3, 4] rfl)
      · have hF := hF.2 cz
        refine lv_iconst (v := 0) hx hb dL_law_1492 (by decide) ?_
        exact hF.elim
    · have hF := hF.2 cz
      refine lv_iconst (v := 1) hx hb dL_law_1481 (by decide) ?_
      refine lv_goto (tgt := 1486) hx hb dL_law_1482 (by decide) ?_
      have hPc := fw_get (fp2 _ _ _ _) hP
      have hDc := fw_getD (fp2 _ _ _ _) hD
      have hFc := fw_free (fp2 _ _ _ _) hD hS hA
      refine cwVi (q0 := 0) (As := [.int 1]) (rest := [.int r1468]) hC hK hPc hDc rfl rfl hS hFc (m_X4_isBarred l dC dI g cy _ fu u.1 1 _ hF) k_X4_isBarred q1708 ⟨rfl, rfl⟩ ⟨Nat.le_of_ble_eq_true rfl, Nat.le_of_ble_eq_true rfl⟩ hl.1 rfl rfl (Nat.le_of_ble_eq_true rfl) dL_law_1486 ⟨by show _ ≤ 603072; omega, by show _ ≤ 7211114; omega⟩ (fun r1486 s1486 H1 locs hF hP9 hD9 hk1 hS => ?_)
      obtain ⟨hP1, hD1⟩ := fw_join (fp2 _ _ _ _) hP hD hk1 hFc hP9 hD9
      have hP := va_P.perm (fp2 _ _ _ _).symm hP1
      have hD := va_D.perm (fp2 _ _ _ _).symm hD1
      generalize H1 = H at hP hS ⊢
      have hP : va_P (dC, dI) classes (wH h cy σ ++ ([(o, .inl (cy 1, 1, .inr (.inl f)))] ++ (wC g cy (s1486, u.2).1 ++ (wl ad cy (z 0) (g 20) (s1486, u.2).2.1 ++ (wl ad cy (z 0) (g 21) (s1486, u.2).2.2.1 ++ (wl ad cy (z 0) (g 22) (s1486, u.2).2.2.2.1 ++ wS g cy (s1486, u.2).2.2.2.2)))))) H := hP
      have hD : va_D A (wH h cy σ ++ ([(o, .inl (cy 1, 1, .inr (.inl f)))] ++ (wC g cy (s1486, u.2).1 ++ (wl ad cy (z 0) (g 20) (s1486, u.2).2.1 ++ (wl ad cy (z 0) (g 21) (s1486, u.2).2.2.1 ++ (wl ad cy (z 0) (g 22) (s1486, u.2).2.2.2.1 ++ wS g cy (s1486, u.2).2.2.2.2)))))) := hD
      refine lv_icmp_eq (tgt := 1951) hx hb dL_law_1489 (by decide) (fun cz => ?_) (fun cz => ?_)
      · have hF := hF.1 cz
        refine W.widen (k := k0 + 30) (n := n0 + 480) (by omega) (by omega) ?_
        exact hJ _ _ _ hF _ _ _ hP hD hS (lv_sub hl [0, 1, 2, 3, 4] rfl)
      · have hF := hF.2 cz
        refine lv_iconst (v := 0) hx hb dL_law_1492 (by decide) ?_
        exact hF.elim
  · have hF := hF.2 cz
    refine lv_iconst (v := 1) hx hb dL_law_1463 (by decide) ?_
    refine lv_goto (tgt := 1468) hx hb dL_law_1464 (by decide) ?_
    have hPc := fw_get (fp0 _ _) hP
    refine cpVi (q0 := 16) (As := [.int 1]) (rest := []) hC hK hPc rfl rfl (m_X3_isBarred l dC dI h cy fu σ 1 _ hF) k_X3_isBarred q292 ⟨rfl, rfl⟩ ⟨Nat.le_of_ble_eq_true rfl, Nat.le_of_ble_eq_true rfl⟩ hl.1 rfl rfl (Nat.le_of_ble_eq_true rfl) dL_law_1468 ⟨by show _ ≤ 603072; omega, by show _ ≤ 7211114; omega⟩ (fun r1468 hF => ?_)
    refine lv_aload_n hx hb dL_law_1471 rfl (lv_at hl 2 rfl) ?_
    refine lv_aload_n hx hb dL_law_1472 rfl (lv_at hl 0 rfl) ?_
    refine lv_iload hx hb dL_law_1473 (lv_at hl 4 rfl) ?_
    refine lv_iconst (v := 1) hx hb dL_law_1475 (by decide) ?_
    refine lv_iadd hx hb dL_law_1476 ?_
    refine va_sld hx hb hX hbl hbA hS hi1 dL_law_1477 ?_
    rw [hx1]
    refine lv_if_eq (tgt := 1485) hx hb dL_law_1478 (by decide) (fun cz => ?_) (fun cz => ?_)
    · have hF := hF.1 cz
      refine lv_iconst (v := 0) hx hb dL_law_1485 (by decide) ?_
      have hPc := fw_get (fp2 _ _ _ _) hP
      have hDc := fw_getD (fp2 _ _ _ _) hD
      have hFc := fw_free (fp2 _ _ _ _) hD hS hA
      refine cwVi (q0 := 0) (As := [.int 0]) (rest := [.int r1468]) hC hK hPc hDc rfl rfl hS hFc (m_X4_isBarred l dC dI g cy _ fu u.1 0 _ hF) k_X4_isBarred q1708 ⟨rfl, rfl⟩ ⟨Nat.le_of_ble_eq_true rfl, Nat.le_of_ble_eq_true rfl⟩ hl.1 rfl rfl (Nat.le_of_ble_eq_true rfl) dL_law_1486 ⟨by show _ ≤ 603072; omega, by show _ ≤ 7211114; omega⟩ (fun r1486 s1486 H1 locs hF hP9 hD9 hk1 hS => ?_)
      obtain ⟨hP1, hD1⟩ := fw_join (fp2 _ _ _ _) hP hD hk1 hFc hP9 hD9
      have hP := va_P.perm (fp2 _ _ _ _).symm hP1
      have hD := va_D.perm (fp2 _ _ _ _).symm hD1
      generalize H1 = H at hP hS ⊢
      have hP : va_P (dC, dI) classes (wH h cy σ ++ ([(o, .inl (cy 1, 1, .inr (.inl f)))] ++ (wC g cy (s1486, u.2).1 ++ (wl ad cy (z 0) (g 20) (s1486, u.2).2.1 ++ (wl ad cy (z 0) (g 21) (s1486, u.2).2.2.1 ++ (wl ad cy (z 0) (g 22) (s1486, u.2).2.2.2.1 ++ wS g cy (s1486, u.2).2.2.2.2)))))) H := hP
      have hD : va_D A (wH h cy σ ++ ([(o, .inl (cy 1, 1, .inr (.inl f)))] ++ (wC g cy (s1486, u.2).1 ++ (wl ad cy (z 0) (g 20) (s1486, u.2).2.1 ++ (wl ad cy (z 0) (g 21) (s1486, u.2).2.2.1 ++ (wl ad cy (z 0) (g 22) (s1486, u.2).2.2.2.1 ++ wS g cy (s1486, u.2).2.2.2.2)))))) := hD
      refine lv_icmp_eq (tgt := 1951) hx hb dL_law_1489 (by decide) (fun cz => ?_) (fun cz => ?_)
      · have hF := hF.1 cz
        refine W.widen (k := k0 + 30) (n := n0 + 480) (by omega) (by omega) ?_
        exact hJ _ _ _ hF _ _ _ hP hD hS (lv_sub hl [0, 1, 2, 3, 4] rfl)
      · have hF := hF.2 cz
        refine lv_iconst (v := 0) hx hb dL_law_1492 (by decide) ?_
        exact hF.elim
    · have hF := hF.2 cz
      refine lv_iconst (v := 1) hx hb dL_law_1481 (by decide) ?_
      refine lv_goto (tgt := 1486) hx hb dL_law_1482 (by decide) ?_
      have hPc := fw_get (fp2 _ _ _ _) hP
      have hDc := fw_getD (fp2 _ _ _ _) hD
      have hFc := fw_free (fp2 _ _ _ _) hD hS hA
      refine cwVi (q0 := 0) (As := [.int 1]) (rest := [.int r1468]) hC hK hPc hDc rfl rfl hS hFc (m_X4_isBarred l dC dI g cy _ fu u.1 1 _ hF) k_X4_isBarred q1708 ⟨rfl, rfl⟩ ⟨Nat.le_of_ble_eq_true rfl, Nat.le_of_ble_eq_true rfl⟩ hl.1 rfl rfl (Nat.le_of_ble_eq_true rfl) dL_law_1486 ⟨by show _ ≤ 603072; omega, by show _ ≤ 7211114; omega⟩ (fun r1486 s1486 H1 locs hF hP9 hD9 hk1 hS => ?_)
      obtain ⟨hP1, hD1⟩ := fw_join (fp2 _ _ _ _) hP hD hk1 hFc hP9 hD9
      have hP := va_P.perm (fp2 _ _ _ _).symm hP1
      have hD := va_D.perm (fp2 _ _ _ _).symm hD1
      generalize H1 = H at hP hS ⊢
      have hP : va_P (dC, dI) classes (wH h cy σ ++ ([(o, .inl (cy 1, 1, .inr (.inl f)))] ++ (wC g cy (s1486, u.2).1 ++ (wl ad cy (z 0) (g 20) (s1486, u.2).2.1 ++ (wl ad cy (z 0) (g 21) (s1486, u.2).2.2.1 ++ (wl ad cy (z 0) (g 22) (s1486, u.2).2.2.2.1 ++ wS g cy (s1486, u.2).2.2.2.2)))))) H := hP
      have hD : va_D A (wH h cy σ ++ ([(o, .inl (cy 1, 1, .inr (.inl f)))] ++ (wC g cy (s1486, u.2).1 ++ (wl ad cy (z 0) (g 20) (s1486, u.2).2.1 ++ (wl ad cy (z 0) (g 21) (s1486, u.2).2.2.1 ++ (wl ad cy (z 0) (g 22) (s1486, u.2).2.2.2.1 ++ wS g cy (s1486, u.2).2.2.2.2)))))) := hD
      refine lv_icmp_eq (tgt := 1951) hx hb dL_law_1489 (by decide) (fun cz => ?_) (fun cz => ?_)
      · have hF := hF.1 cz
        refine W.widen (k := k0 + 30) (n := n0 + 480) (by omega) (by omega) ?_
        exact hJ _ _ _ hF _ _ _ hP hD hS (lv_sub hl [0, 1, 2, 3, 4] rfl)
      · have hF := hF.2 cz
        refine lv_iconst (v := 0) hx hb dL_law_1492 (by decide) ?_
        exact hF.elim
def wp_case32 (a1 : Int32) (a2 : Int32) (σ : SX) (f : Nat → Int64) (u : FX) (K : SX → (Nat → Int64) → FX → Prop) : Prop := (wp_L_colour σ f a1 a2 (fun r1508 s1508 f1508 => (wp_X4_colour u.1 a1 a2 (fun r1526 s1526 => (wp_X4_thrown ((s1526, u.2).1) (fun r1532 => ((r1532 = r1508 → ((¬ r1508 = 0 → (K s1508 f1508 (s1526, u.2))) ∧ (r1508 = 0 → (((lg_cmp (f1508 (0 : Int32).toNatClampNeg) r1526.toInt64) = 0 → (K s1508 f1508 (s1526, u.2))) ∧ (¬ (lg_cmp (f1508 (0 : Int32).toNatClampNeg) r1526.toInt64) = 0 → False))))) ∧ (¬ r1532 = r1508 → False))))))))
set_option maxHeartbeats 4000000 in
set_option maxRecDepth 100000 in
theorem m_case32 {p : Program} {e9 : Env} {s : State} {m : MethodId} {below : List Frame} {meth : Method} {c : Code} (l : Launch) (hl9 : l.stackTraces = false) {dC : Nat → ClassId} {dI : Nat → Nat → Nat} {h g : Nat → Nat} {cy : Nat → ClassId} {sa z ad : Nat → Nat} {o b L fu i k0 n0 : Nat} {xs : Nat → Int32} {A : Nat → Prop} {Q : State → Prop} {a0 a1 a2 : Int32}
  (hC : Cx p s m #[Value.ref b] meth c RL code 9 ret) (hK : kwX dC dI cy s) (hXS : XS sa s) (hXZ : XZ A s s.heap) (hN : NCL s) (hZ : ZF z ad A s s.heap) (hvk : vk_R "PegshoreHouseModel" 92 "std" (z 4) s) (hX : va_X b L xs s s.heap) (hbl : b < s.heap.size) (hbA : ¬ A b) (hA : ∀ q : Nat, s.heap.size ≤ q → A q)
  (hi1 : vp_in (nI i + 1) L) (hi2 : vp_in (nI i + 2) L) (hx1 : xs (nI i + 1).toNatClampNeg = a1) (hx2 : xs (nI i + 2).toNatClampNeg = a2) (hk0 : k0 + 30 ≤ 603072) (hn0 : n0 + 480 ≤ 7211114)
  (K : SX → (Nat → Int64) → FX → Prop) (hJ : ∀ σ f u, K σ f u → ∀ (H : Heap) (locs : List Loc) (ls : Array Slot), va_P (dC, dI) classes (wH h cy σ ++ ([(o, .inl (cy 1, 1, .inr (.inl f)))] ++ (wC g cy u.1 ++ (wl ad cy (z 0) (g 20) u.2.1 ++ (wl ad cy (z 0) (g 21) u.2.2.1 ++ (wl ad cy (z 0) (g 22) u.2.2.2.1 ++ wS g cy u.2.2.2.2)))))) H → va_D A (wH h cy σ ++ ([(o, .inl (cy 1, 1, .inr (.inl f)))] ++ (wC g cy u.1 ++ (wl ad cy (z 0) (g 20) u.2.1 ++ (wl ad cy (z 0) (g 21) u.2.2.1 ++ (wl ad cy (z 0) (g 22) u.2.2.2.1 ++ wS g cy u.2.2.2.2)))))) → va_S A s.heap H locs → lv_has ls 9 [(0, .ref b), (1, .ref (h 16)), (2, .ref (g 0)), (3, .ref o), (4, .int (nI i))] → W p l e9 room_1 s m #[Value.ref b] below meth c H locs (k0 + 30) (n0 + 480) Q (F0 m 1951 ls [])) (σ : SX) (f : Nat → Int64) (u : FX) (hF : wp_case32 a1 a2 σ f u K) : ∀ (H : Heap) (locs : List Loc) (ls : Array Slot), va_P (dC, dI) classes (wH h cy σ ++ ([(o, .inl (cy 1, 1, .inr (.inl f)))] ++ (wC g cy u.1 ++ (wl ad cy (z 0) (g 20) u.2.1 ++ (wl ad cy (z 0) (g 21) u.2.2.1 ++ (wl ad cy (z 0) (g 22) u.2.2.2.1 ++ wS g cy u.2.2.2.2)))))) H → va_D A (wH h cy σ ++ ([(o, .inl (cy 1, 1, .inr (.inl f)))] ++ (wC g cy u.1 ++ (wl ad cy (z 0) (g 20) u.2.1 ++ (wl ad cy (z 0) (g 21) u.2.2.1 ++ (wl ad cy (z 0) (g 22) u.2.2.2.1 ++ wS g cy u.2.2.2.2)))))) → va_S A s.heap H locs → lv_has ls 9 [(0, .ref b), (1, .ref (h 16)), (2, .ref (g 0)), (3, .ref o), (4, .int (nI i))] → W p l e9 room_1 s m #[Value.ref b] below meth c H locs k0 n0 Q (F0 m 1494 ls []) := by
  intro H locs ls hP hD hS hl
  have hx := hC.1
  have hb := hC.2.1
  have hml := hC.2.2.2.1
  have hown := hC.2.2.2.2.1
  have hts := hC.2.2.2.2.2.1
  unfold wp_case32 at hF
  refine lv_aload_n hx hb dL_law_1494 rfl (lv_at hl 1 rfl) ?_
  refine lv_aload_n hx hb dL_law_1495 rfl (lv_at hl 0 rfl) ?_
  refine lv_iload hx hb dL_law_1496 (lv_at hl 4 rfl) ?_
  refine lv_iconst (v := 1) hx hb dL_law_1498 (by decide) ?_
  refine lv_iadd hx hb dL_law_1499 ?_
  refine va_sld hx hb hX hbl hbA hS hi1 dL_law_1500 ?_
  rw [hx1]
  refine lv_aload_n hx hb dL_law_1501 rfl (lv_at hl 0 rfl) ?_
  refine lv_iload hx hb dL_law_1502 (lv_at hl 4 rfl) ?_
  refine lv_iconst (v := 2) hx hb dL_law_1504 (by decide) ?_
  refine lv_iadd hx hb dL_law_1505 ?_
  refine va_sld hx hb hX hbl hbA hS hi2 dL_law_1506 ?_
  rw [hx2]
  refine lv_aload_n hx hb dL_law_1507 rfl (lv_at hl 3 rfl) ?_
  refine lwWrap (x := wO h cy o σ f) (wn := fun (u : SX × (Nat → Int64)) => wO h cy o u.1 u.2) (As := [.ref (h 16), .int a1, .int a2, .ref o]) (rest := []) (fpA _ _ _) hC hK hXS hXZ hN hP hD hS hA (m_L_colour l hl9 dC dI h cy sa o _ σ f a1 a2 _ hF) k_L_colour q806 ⟨rfl, rfl⟩ ⟨Nat.le_of_ble_eq_true rfl, Nat.le_of_ble_eq_true rfl⟩ hl.1 rfl rfl (Nat.le_of_ble_eq_true rfl) dL_law_1508 ⟨by show _ ≤ 603072; omega, by show _ ≤ 7211114; omega⟩ (fun r1508 v9 H1 locs hF hP1 hD1 hS => ?_)
  obtain ⟨s1508, f1508⟩ := v9
  have hP := va_P.perm (fpA _ _ _).symm hP1
  have hD := va_D.perm (fpA _ _ _).symm hD1
  generalize H1 = H at hP hS ⊢
  have hP : va_P (dC, dI) classes (wH h cy s1508 ++ ([(o, .inl (cy 1, 1, .inr (.inl f1508)))] ++ (wC g cy u.1 ++ (wl ad cy (z 0) (g 20) u.2.1 ++ (wl ad cy (z 0) (g 21) u.2.2.1 ++ (wl ad cy (z 0) (g 22) u.2.2.2.1 ++ wS g cy u.2.2.2.2)))))) H := hP
  have hD : va_D A (wH h cy s1508 ++ ([(o, .inl (cy 1, 1, .inr (.inl f1508)))] ++ (wC g cy u.1 ++ (wl ad cy (z 0) (g 20) u.2.1 ++ (wl ad cy (z 0) (g 21) u.2.2.1 ++ (wl ad cy (z 0) (g 22) u.2.2.2.1 ++ wS g cy u.2.2.2.2)))))) := hD
  refine lv_istore (lv' := [(5, .int r1508), (0, .ref b), (1, .ref (h 16)), (2, .ref (g 0)), (3, .ref o), (4, .int (nI i))]) hx hb dL_law_1511 hl (by decide) rfl (fun ls hl => ?_)
  refine lv_aload_n hx hb dL_law_1513 rfl (lv_at hl 3 rfl) ?_
  refine lv_aload_n hx hb dL_law_1514 rfl (lv_at hl 1 rfl) ?_
  refine lv_iload hx hb dL_law_1515 (lv_at hl 5 rfl) ?_
  refine lv_iconst (v := 1) hx hb dL_law_1517 (by decide) ?_
  refine lv_iadd hx hb dL_law_1518 ?_
  refine va_sld hx hb hX hbl hbA hS hi1 dL_law_1519 ?_
  rw [hx1]
  refine lv_aload_n hx hb dL_law_1520 rfl (lv_at hl 1 rfl) ?_
  refine lv_iload hx hb dL_law_1521 (lv_at hl 5 rfl) ?_
  refine lv_iconst (v := 2) hx hb dL_law_1523 (by decide) ?_
  refine lv_iadd hx hb dL_law_1524 ?_
  refine va_sld hx hb hX hbl hbA hS hi2 dL_law_1525 ?_
  rw [hx2]
  have hPc := fw_get (fp2 _ _ _ _) hP
  have hDc := fw_getD (fp2 _ _ _ _) hD
  have hFc := fw_free (fp2 _ _ _ _) hD hS hA
  refine cwVi (q0 := 0) (As := [.int a1, .int a2]) (rest := []) hC hK hPc hDc rfl rfl hS hFc (m_X4_colour l dC dI g cy _ u.1 a1 a2 _ hF) k_X4_colour q1692 ⟨rfl, rfl⟩ ⟨Nat.le_of_ble_eq_true rfl, Nat.le_of_ble_eq_true rfl⟩ hl.1 rfl rfl (Nat.le_of_ble_eq_true rfl) dL_law_1526 ⟨by show _ ≤ 603072; omega, by show _ ≤ 7211114; omega⟩ (fun r1526 s1526 H1 locs hF hP9 hD9 hk1 hS => ?_)
  obtain ⟨hP1, hD1⟩ := fw_join (fp2 _ _ _ _) hP hD hk1 hFc hP9 hD9
  have hP := va_P.perm (fp2 _ _ _ _).symm hP1
  have hD := va_D.perm (fp2 _ _ _ _).symm hD1
  generalize H1 = H at hP hS ⊢
  have hP : va_P (dC, dI) classes (wH h cy s1508 ++ ([(o, .inl (cy 1, 1, .inr (.inl f1508)))] ++ (wC g cy (s1526, u.2).1 ++ (wl ad cy (z 0) (g 20) (s1526, u.2).2.1 ++ (wl ad cy (z 0) (g 21) (s1526, u.2).2.2.1 ++ (wl ad cy (z 0) (g 22) (s1526, u.2).2.2.2.1 ++ wS g cy (s1526, u.2).2.2.2.2)))))) H := hP
  have hD : va_D A (wH h cy s1508 ++ ([(o, .inl (cy 1, 1, .inr (.inl f1508)))] ++ (wC g cy (s1526, u.2).1 ++ (wl ad cy (z 0) (g 20) (s1526, u.2).2.1 ++ (wl ad cy (z 0) (g 21) (s1526, u.2).2.2.1 ++ (wl ad cy (z 0) (g 22) (s1526, u.2).2.2.2.1 ++ wS g cy (s1526, u.2).2.2.2.2)))))) := hD
  refine lv_istore (lv' := [(6, .int r1526), (5, .int r1508), (0, .ref b), (1, .ref (h 16)), (2, .ref (g 0)), (3, .ref o), (4, .int (nI i))]) hx hb dL_law_1529 hl (by decide) rfl (fun ls hl => ?_)
  refine lv_aload_n hx hb dL_law_1531 rfl (lv_at hl 4 rfl) ?_
  have hPc := fw_get (fp2 _ _ _ _) hP
  refine cpVi (q0 := 0) (As := []) (rest := []) hC hK hPc rfl rfl (m_X4_thrown l dC dI g cy ((s1526, u.2).1) _ hF) k_X4_thrown q1009 ⟨rfl, rfl⟩ ⟨Nat.le_of_ble_eq_true rfl, Nat.le_of_ble_eq_true rfl⟩ hl.1 rfl rfl (Nat.le_of_ble_eq_true rfl) dL_law_1532 ⟨by show _ ≤ 603072; omega, by show _ ≤ 7211114; omega⟩ (fun r1532 hF => ?_)
  refine lv_iload hx hb dL_law_1535 (lv_at hl 1 rfl) ?_
  refine lv_icmp_eq (tgt := 1542) hx hb dL_law_1537 (by decide) (fun cz => ?_) (fun cz => ?_)
  · have hF := hF.1 cz
    refine lv_iload hx hb dL_law_1542 (lv_at hl 1 rfl) ?_
    refine lv_if_ne (tgt := 1559) hx hb dL_law_1544 (by decide) (fun cz => ?_) (fun cz => ?_)
    · have hF := hF.1 cz
      refine lv_goto (tgt := 1951) hx hb dL_law_1559 (by decide) ?_
      refine W.widen (k := k0 + 30) (n := n0 + 480) (by omega) (by omega) ?_
      exact hJ _ _ _ hF _ _ _ hP hD hS (lv_sub hl [2, 3, 4, 5, 6] rfl)
    · have hF := hF.2 cz
      refine lv_aload_n hx hb dL_law_1547 rfl (lv_at hl 5 rfl) ?_
      refine lv_iconst (v := 0) hx hb dL_law_1548 (by decide) ?_
      refine va_lald hx hb hK.1 hP 21 1 rfl rfl (show vp_in 0 1 from vp_in_nI (n := 0) (by omega) (by omega)) dL_law_1549 ?_
      refine lv_iload hx hb dL_law_1550 (lv_at hl 0 rfl) ?_
      refine lv_i2l hx hb dL_law_1552 rfl ?_
      refine W.lcmp hx hb dL_law_1553 ?_
      refine lv_if_eq (tgt := 1559) hx hb dL_law_1554 (by decide) (fun cz => ?_) (fun cz => ?_)
      · have hF := hF.1 cz
        refine lv_goto (tgt := 1951) hx hb dL_law_1559 (by decide) ?_
        refine W.widen (k := k0 + 30) (n := n0 + 480) (by omega) (by omega) ?_
        exact hJ _ _ _ hF _ _ _ hP hD hS (lv_sub hl [2, 3, 4, 5, 6] rfl)
      · have hF := hF.2 cz
        refine lv_iconst (v := 0) hx hb dL_law_1557 (by decide) ?_
        exact hF.elim
  · have hF := hF.2 cz
    refine lv_iconst (v := 0) hx hb dL_law_1540 (by decide) ?_
    exact hF.elim
def wp_case33 (fu : Nat) (a1 : Int32) (σ : SX) (f : Nat → Int64) (u : FX) (K : SX → (Nat → Int64) → FX → Prop) : Prop := (wp_L_isFit fu σ f a1 (fun r1570 s1570 f1570 => (wp_X4_isFit fu u.1 a1 (fun r1582 s1582 => (wp_X4_thrown ((s1582, u.2).1) (fun r1588 => ((r1588 = r1570 → ((¬ r1570 = 0 → (K s1570 f1570 (s1582, u.2))) ∧ (r1570 = 0 → ((r1582 = 0 → (((lg_cmp (f1570 (0 : Int32).toNatClampNeg) 0) = 0 → (K s1570 f1570 (s1582, u.2))) ∧ (¬ (lg_cmp (f1570 (0 : Int32).toNatClampNeg) 0) = 0 → False))) ∧ (¬ r1582 = 0 → (((lg_cmp (f1570 (0 : Int32).toNatClampNeg) 1) = 0 → (K s1570 f1570 (s1582, u.2))) ∧ (¬ (lg_cmp (f1570 (0 : Int32).toNatClampNeg) 1) = 0 → False))))))) ∧ (¬ r1588 = r1570 → False))))))))
set_option maxHeartbeats 4000000 in
set_option maxRecDepth 100000 in
theorem m_case33 {p : Program} {e9 : Env} {s : State} {m : MethodId} {below : List Frame} {meth : Method} {c : Code} (l : Launch) (hl9 : l.stackTraces = false) {dC : Nat → ClassId} {dI : Nat → Nat → Nat} {h g : Nat → Nat} {cy : Nat → ClassId} {sa z ad : Nat → Nat} {o b L fu i k0 n0 : Nat} {xs : Nat → Int32} {A : Nat → Prop} {Q : State → Prop} {a0 a1 a2 : Int32}
  (hC : Cx p s m #[Value.ref b] meth c RL code 9 ret) (hK : kwX dC dI cy s) (hXS : XS sa s) (hXZ : XZ A s s.heap) (hN : NCL s) (hZ : ZF z ad A s s.heap) (hvk : vk_R "PegshoreHouseModel" 92 "std" (z 4) s) (hX : va_X b L xs s s.heap) (hbl : b < s.heap.size) (hbA : ¬ A b) (hA : ∀ q : Nat, s.heap.size ≤ q → A q)
  (hi1 : vp_in (nI i + 1) L) (hi2 : vp_in (nI i + 2) L) (hx1 : xs (nI i + 1).toNatClampNeg = a1) (hx2 : xs (nI i + 2).toNatClampNeg = a2) (hk0 : k0 + 30 ≤ 603072) (hn0 : n0 + 480 ≤ 7211114)
  (K : SX → (Nat → Int64) → FX → Prop) (hJ : ∀ σ f u, K σ f u → ∀ (H : Heap) (locs : List Loc) (ls : Array Slot), va_P (dC, dI) classes (wH h cy σ ++ ([(o, .inl (cy 1, 1, .inr (.inl f)))] ++ (wC g cy u.1 ++ (wl ad cy (z 0) (g 20) u.2.1 ++ (wl ad cy (z 0) (g 21) u.2.2.1 ++ (wl ad cy (z 0) (g 22) u.2.2.2.1 ++ wS g cy u.2.2.2.2)))))) H → va_D A (wH h cy σ ++ ([(o, .inl (cy 1, 1, .inr (.inl f)))] ++ (wC g cy u.1 ++ (wl ad cy (z 0) (g 20) u.2.1 ++ (wl ad cy (z 0) (g 21) u.2.2.1 ++ (wl ad cy (z 0) (g 22) u.2.2.2.1 ++ wS g cy u.2.2.2.2)))))) → va_S A s.heap H locs → lv_has ls 9 [(0, .ref b), (1, .ref (h 16)), (2, .ref (g 0)), (3, .ref o), (4, .int (nI i))] → W p l e9 room_1 s m #[Value.ref b] below meth c H locs (k0 + 30) (n0 + 480) Q (F0 m 1951 ls [])) (σ : SX) (f : Nat → Int64) (u : FX) (hF : wp_case33 fu a1 σ f u K) : ∀ (H : Heap) (locs : List Loc) (ls : Array Slot), va_P (dC, dI) classes (wH h cy σ ++ ([(o, .inl (cy 1, 1, .inr (.inl f)))] ++ (wC g cy u.1 ++ (wl ad cy (z 0) (g 20) u.2.1 ++ (wl ad cy (z 0) (g 21) u.2.2.1 ++ (wl ad cy (z 0) (g 22) u.2.2.2.1 ++ wS g cy u.2.2.2.2)))))) H → va_D A (wH h cy σ ++ ([(o, .inl (cy 1, 1, .inr (.inl f)))] ++ (wC g cy u.1 ++ (wl ad cy (z 0) (g 20) u.2.1 ++ (wl ad cy (z 0) (g 21) u.2.2.1 ++ (wl ad cy (z 0) (g 22) u.2.2.2.1 ++ wS g cy u.2.2.2.2)))))) → va_S A s.heap H locs → lv_has ls 9 [(0, .ref b), (1, .ref (h 16)), (2, .ref (g 0)), (3, .ref o), (4, .int (nI i))] → W p l e9 room_1 s m #[Value.ref b] below meth c H locs k0 n0 Q (F0 m 1562 ls []) := by
  intro H locs ls hP hD hS hl
  have hx := hC.1
  have hb := hC.2.1
  have hml := hC.2.2.2.1
  have hown := hC.2.2.2.2.1
  have hts := hC.2.2.2.2.2.1
  unfold wp_case33 at hF
  refine lv_aload_n hx hb dL_law_1562 rfl (lv_at hl 1 rfl) ?_
  refine lv_aload_n hx hb dL_law_1563 rfl (lv_at hl 0 rfl) ?_
  refine lv_iload hx hb dL_law_1564 (lv_at hl 4 rfl) ?_
  refine lv_iconst (v := 1) hx hb dL_law_1566 (by decide) ?_
  refine lv_iadd hx hb dL_law_1567 ?_
  refine va_sld hx hb hX hbl hbA hS hi1 dL_law_1568 ?_
  rw [hx1]
  refine lv_aload_n hx hb dL_law_1569 rfl (lv_at hl 3 rfl) ?_
  refine lwWrap (x := wO h cy o σ f) (wn := fun (u : SX × (Nat → Int64)) => wO h cy o u.1 u.2) (As := [.ref (h 16), .int a1, .ref o]) (rest := []) (fpA _ _ _) hC hK hXS hXZ hN hP hD hS hA (m_L_isFit l hl9 dC dI h cy sa o _ fu σ f a1 _ hF) k_L_isFit q818 ⟨rfl, rfl⟩ ⟨Nat.le_of_ble_eq_true rfl, Nat.le_of_ble_eq_true rfl⟩ hl.1 rfl rfl (Nat.le_of_ble_eq_true rfl) dL_law_1570 ⟨by show _ ≤ 603072; omega, by show _ ≤ 7211114; omega⟩ (fun r1570 v9 H1 locs hF hP1 hD1 hS => ?_)
  obtain ⟨s1570, f1570⟩ := v9
  have hP := va_P.perm (fpA _ _ _).symm hP1
  have hD := va_D.perm (fpA _ _ _).symm hD1
  generalize H1 = H at hP hS ⊢
  have hP : va_P (dC, dI) classes (wH h cy s1570 ++ ([(o, .inl (cy 1, 1, .inr (.inl f1570)))] ++ (wC g cy u.1 ++ (wl ad cy (z 0) (g 20) u.2.1 ++ (wl ad cy (z 0) (g 21) u.2.2.1 ++ (wl ad cy (z 0) (g 22) u.2.2.2.1 ++ wS g cy u.2.2.2.2)))))) H := hP
  have hD : va_D A (wH h cy s1570 ++ ([(o, .inl (cy 1, 1, .inr (.inl f1570)))] ++ (wC g cy u.1 ++ (wl ad cy (z 0) (g 20) u.2.1 ++ (wl ad cy (z 0) (g 21) u.2.2.1 ++ (wl ad cy (z 0) (g 22) u.2.2.2.1 ++ wS g cy u.2.2.2.2)))))) := hD
  refine lv_istore (lv' := [(5, .int r1570), (0, .ref b), (1, .ref (h 16)), (2, .ref (g 0)), (3, .ref o), (4, .int (nI i))]) hx hb dL_law_1573 hl (by decide) rfl (fun ls hl => ?_)
  refine lv_aload_n hx hb dL_law_1575 rfl (lv_at hl 3 rfl) ?_
  refine lv_aload_n hx hb dL_law_1576 rfl (lv_at hl 1 rfl) ?_
  refine lv_iload hx hb dL_law_1577 (lv_at hl 5 rfl) ?_
  refine lv_iconst (v := 1) hx hb dL_law_1579 (by decide) ?_
  refine lv_iadd hx hb dL_law_1580 ?_
  refine va_sld hx hb hX hbl hbA hS hi1 dL_law_1581 ?_
  rw [hx1]
  have hPc := fw_get (fp2 _ _ _ _) hP
  have hDc := fw_getD (fp2 _ _ _ _) hD
  have hFc := fw_free (fp2 _ _ _ _) hD hS hA
  refine cwVi (q0 := 0) (As := [.int a1]) (rest := []) hC hK hPc hDc rfl rfl hS hFc (m_X4_isFit l dC dI g cy _ fu u.1 a1 _ hF) k_X4_isFit q1700 ⟨rfl, rfl⟩ ⟨Nat.le_of_ble_eq_true rfl, Nat.le_of_ble_eq_true rfl⟩ hl.1 rfl rfl (Nat.le_of_ble_eq_true rfl) dL_law_1582 ⟨by show _ ≤ 603072; omega, by show _ ≤ 7211114; omega⟩ (fun r1582 s1582 H1 locs hF hP9 hD9 hk1 hS => ?_)
  obtain ⟨hP1, hD1⟩ := fw_join (fp2 _ _ _ _) hP hD hk1 hFc hP9 hD9
  have hP := va_P.perm (fp2 _ _ _ _).symm hP1
  have hD := va_D.perm (fp2 _ _ _ _).symm hD1
  generalize H1 = H at hP hS ⊢
  have hP : va_P (dC, dI) classes (wH h cy s1570 ++ ([(o, .inl (cy 1, 1, .inr (.inl f1570)))] ++ (wC g cy (s1582, u.2).1 ++ (wl ad cy (z 0) (g 20) (s1582, u.2).2.1 ++ (wl ad cy (z 0) (g 21) (s1582, u.2).2.2.1 ++ (wl ad cy (z 0) (g 22) (s1582, u.2).2.2.2.1 ++ wS g cy (s1582, u.2).2.2.2.2)))))) H := hP
  have hD : va_D A (wH h cy s1570 ++ ([(o, .inl (cy 1, 1, .inr (.inl f1570)))] ++ (wC g cy (s1582, u.2).1 ++ (wl ad cy (z 0) (g 20) (s1582, u.2).2.1 ++ (wl ad cy (z 0) (g 21) (s1582, u.2).2.2.1 ++ (wl ad cy (z 0) (g 22) (s1582, u.2).2.2.2.1 ++ wS g cy (s1582, u.2).2.2.2.2)))))) := hD
  refine lv_istore (lv' := [(6, .int r1582), (5, .int r1570), (0, .ref b), (1, .ref (h 16)), (2, .ref (g 0)), (3, .ref o), (4, .int (nI i))]) hx hb dL_law_1585 hl (by decide) rfl (fun ls hl => ?_)
  refine lv_aload_n hx hb dL_law_1587 rfl (lv_at hl 4 rfl) ?_
  have hPc := fw_get (fp2 _ _ _ _) hP
  refine cpVi (q0 := 0) (As := []) (rest := []) hC hK hPc rfl rfl (m_X4_thrown l dC dI g cy ((s1582, u.2).1) _ hF) k_X4_thrown q1009 ⟨rfl, rfl⟩ ⟨Nat.le_of_ble_eq_true rfl, Nat.le_of_ble_eq_true rfl⟩ hl.1 rfl rfl (Nat.le_of_ble_eq_true rfl) dL_law_1588 ⟨by show _ ≤ 603072; omega, by show _ ≤ 7211114; omega⟩ (fun r1588 hF => ?_)
  refine lv_iload hx hb dL_law_1591 (lv_at hl 1 rfl) ?_
  refine lv_icmp_eq (tgt := 1598) hx hb dL_law_1593 (by decide) (fun cz => ?_) (fun cz => ?_)
  · have hF := hF.1 cz
    refine lv_iload hx hb dL_law_1598 (lv_at hl 1 rfl) ?_
    refine lv_if_ne (tgt := 1622) hx hb dL_law_1600 (by decide) (fun cz => ?_) (fun cz => ?_)
    · have hF := hF.1 cz
      refine lv_goto (tgt := 1951) hx hb dL_law_1622 (by decide) ?_
      refine W.widen (k := k0 + 30) (n := n0 + 480) (by omega) (by omega) ?_
      exact hJ _ _ _ hF _ _ _ hP hD hS (lv_sub hl [2, 3, 4, 5, 6] rfl)
    · have hF := hF.2 cz
      refine lv_aload_n hx hb dL_law_1603 rfl (lv_at hl 5 rfl) ?_
      refine lv_iconst (v := 0) hx hb dL_law_1604 (by decide) ?_
      refine va_lald hx hb hK.1 hP 21 1 rfl rfl (show vp_in 0 1 from vp_in_nI (n := 0) (by omega) (by omega)) dL_law_1605 ?_
      refine lv_iload hx hb dL_law_1606 (lv_at hl 0 rfl) ?_
      refine lv_if_eq (tgt := 1615) hx hb dL_law_1608 (by decide) (fun cz => ?_) (fun cz => ?_)
      · have hF := hF.1 cz
        refine lv_lconst (v := 0) hx hb dL_law_1615 (by decide) ?_
        refine W.lcmp hx hb dL_law_1616 ?_
        refine lv_if_eq (tgt := 1622) hx hb dL_law_1617 (by decide) (fun cz => ?_) (fun cz => ?_)
        · have hF := hF.1 cz
          refine lv_goto (tgt := 1951) hx hb dL_law_1622 (by decide) ?_
          refine W.widen (k := k0 + 30) (n := n0 + 480) (by omega) (by omega) ?_
          exact hJ _ _ _ hF _ _ _ hP hD hS (lv_sub hl [2, 3, 4, 5, 6] rfl)
        · have hF := hF.2 cz
          refine lv_iconst (v := 0) hx hb dL_law_1620 (by decide) ?_
          exact hF.elim
      · have hF := hF.2 cz
        refine lv_lconst (v := 1) hx hb dL_law_1611 (by decide) ?_
        refine lv_goto (tgt := 1616) hx hb dL_law_1612 (by decide) ?_
        refine W.lcmp hx hb dL_law_1616 ?_
        refine lv_if_eq (tgt := 1622) hx hb dL_law_1617 (by decide) (fun cz => ?_) (fun cz => ?_)
        · have hF := hF.1 cz
          refine lv_goto (tgt := 1951) hx hb dL_law_1622 (by decide) ?_
          refine W.widen (k := k0 + 30) (n := n0 + 480) (by omega) (by omega) ?_
          exact hJ _ _ _ hF _ _ _ hP hD hS (lv_sub hl [2, 3, 4, 5, 6] rfl)
        · have hF := hF.2 cz
          refine lv_iconst (v := 0) hx hb dL_law_1620 (by decide) ?_
          exact hF.elim
  · have hF := hF.2 cz
    refine lv_iconst (v := 0) hx hb dL_law_1596 (by decide) ?_
    exact hF.elim
def wp_case34 (fu : Nat) (σ : SX) (f : Nat → Int64) (u : FX) (K : SX → (Nat → Int64) → FX → Prop) : Prop := (wp_X3_value fu σ (fun r1626 s1626 => (wp_X4_value_ fu u.1 (fun r1630 s1630 => ((r1626 = r1630 → (K s1626 f (s1630, u.2))) ∧ (¬ r1626 = r1630 → False))))))
set_option maxHeartbeats 4000000 in
set_option maxRecDepth 100000 in
theorem m_case34 {p : Program} {e9 : Env} {s : State} {m : MethodId} {below : List Frame} {meth : Method} {c : Code} (l : Launch) (hl9 : l.stackTraces = false) {dC : Nat → ClassId} {dI : Nat → Nat → Nat} {h g : Nat → Nat} {cy : Nat → ClassId} {sa z ad : Nat → Nat} {o b L fu i k0 n0 : Nat} {xs : Nat → Int32} {A : Nat → Prop} {Q : State → Prop} {a0 a1 a2 : Int32}
  (hC : Cx p s m #[Value.ref b] meth c RL code 9 ret) (hK : kwX dC dI cy s) (hXS : XS sa s) (hXZ : XZ A s s.heap) (hN : NCL s) (hZ : ZF z ad A s s.heap) (hvk : vk_R "PegshoreHouseModel" 92 "std" (z 4) s) (hX : va_X b L xs s s.heap) (hbl : b < s.heap.size) (hbA : ¬ A b) (hA : ∀ q : Nat, s.heap.size ≤ q → A q)
  (hi1 : vp_in (nI i + 1) L) (hi2 : vp_in (nI i + 2) L) (hx1 : xs (nI i + 1).toNatClampNeg = a1) (hx2 : xs (nI i + 2).toNatClampNeg = a2) (hk0 : k0 + 30 ≤ 603072) (hn0 : n0 + 480 ≤ 7211114)
  (K : SX → (Nat → Int64) → FX → Prop) (hJ : ∀ σ f u, K σ f u → ∀ (H : Heap) (locs : List Loc) (ls : Array Slot), va_P (dC, dI) classes (wH h cy σ ++ ([(o, .inl (cy 1, 1, .inr (.inl f)))] ++ (wC g cy u.1 ++ (wl ad cy (z 0) (g 20) u.2.1 ++ (wl ad cy (z 0) (g 21) u.2.2.1 ++ (wl ad cy (z 0) (g 22) u.2.2.2.1 ++ wS g cy u.2.2.2.2)))))) H → va_D A (wH h cy σ ++ ([(o, .inl (cy 1, 1, .inr (.inl f)))] ++ (wC g cy u.1 ++ (wl ad cy (z 0) (g 20) u.2.1 ++ (wl ad cy (z 0) (g 21) u.2.2.1 ++ (wl ad cy (z 0) (g 22) u.2.2.2.1 ++ wS g cy u.2.2.2.2)))))) → va_S A s.heap H locs → lv_has ls 9 [(0, .ref b), (1, .ref (h 16)), (2, .ref (g 0)), (3, .ref o), (4, .int (nI i))] → W p l e9 room_1 s m #[Value.ref b] below meth c H locs (k0 + 30) (n0 + 480) Q (F0 m 1951 ls [])) (σ : SX) (f : Nat → Int64) (u : FX) (hF : wp_case34 fu σ f u K) : ∀ (H : Heap) (locs : List Loc) (ls : Array Slot), va_P (dC, dI) classes (wH h cy σ ++ ([(o, .inl (cy 1, 1, .inr (.inl f)))] ++ (wC g cy u.1 ++ (wl ad cy (z 0) (g 20) u.2.1 ++ (wl ad cy (z 0) (g 21) u.2.2.1 ++ (wl ad cy (z 0) (g 22) u.2.2.2.1 ++ wS g cy u.2.2.2.2)))))) H → va_D A (wH h cy σ ++ ([(o, .inl (cy 1, 1, .inr (.inl f)))] ++ (wC g cy u.1 ++ (wl ad cy (z 0) (g 20) u.2.1 ++ (wl ad cy (z 0) (g 21) u.2.2.1 ++ (wl ad cy (z 0) (g 22) u.2.2.2.1 ++ wS g cy u.2.2.2.2)))))) → va_S A s.heap H locs → lv_has ls 9 [(0, .ref b), (1, .ref (h 16)), (2, .ref (g 0)), (3, .ref o), (4, .int (nI i))] → W p l e9 room_1 s m #[Value.ref b] below meth c H locs k0 n0 Q (F0 m 1625 ls []) := by
  intro H locs ls hP hD hS hl
  have hx := hC.1
  have hb := hC.2.1
  have hml := hC.2.2.2.1
  have hown := hC.2.2.2.2.1
  have hts := hC.2.2.2.2.2.1
  unfold wp_case34 at hF
  refine lv_aload_n hx hb dL_law_1625 rfl (lv_at hl 1 rfl) ?_
  have hPc := fw_get (fp0 _ _) hP
  have hDc := fw_getD (fp0 _ _) hD
  have hFc := fw_free (fp0 _ _) hD hS hA
  refine cwVi (q0 := 16) (As := []) (rest := []) hC hK hPc hDc rfl rfl hS hFc (m_X3_value l dC dI h cy _ fu σ _ hF) k_X3_value q316 ⟨rfl, rfl⟩ ⟨Nat.le_of_ble_eq_true rfl, Nat.le_of_ble_eq_true rfl⟩ hl.1 rfl rfl (Nat.le_of_ble_eq_true rfl) dL_law_1626 ⟨by show _ ≤ 603072; omega, by show _ ≤ 7211114; omega⟩ (fun r1626 s1626 H1 locs hF hP9 hD9 hk1 hS => ?_)
  obtain ⟨hP1, hD1⟩ := fw_join (fp0 _ _) hP hD hk1 hFc hP9 hD9
  have hP := va_P.perm (fp0 _ _).symm hP1
  have hD := va_D.perm (fp0 _ _).symm hD1
  generalize H1 = H at hP hS ⊢
  have hP : va_P (dC, dI) classes (wH h cy s1626 ++ ([(o, .inl (cy 1, 1, .inr (.inl f)))] ++ (wC g cy u.1 ++ (wl ad cy (z 0) (g 20) u.2.1 ++ (wl ad cy (z 0) (g 21) u.2.2.1 ++ (wl ad cy (z 0) (g 22) u.2.2.2.1 ++ wS g cy u.2.2.2.2)))))) H := hP
  have hD : va_D A (wH h cy s1626 ++ ([(o, .inl (cy 1, 1, .inr (.inl f)))] ++ (wC g cy u.1 ++ (wl ad cy (z 0) (g 20) u.2.1 ++ (wl ad cy (z 0) (g 21) u.2.2.1 ++ (wl ad cy (z 0) (g 22) u.2.2.2.1 ++ wS g cy u.2.2.2.2)))))) := hD
  refine lv_aload_n hx hb dL_law_1629 rfl (lv_at hl 2 rfl) ?_
  have hPc := fw_get (fp2 _ _ _ _) hP
  have hDc := fw_getD (fp2 _ _ _ _) hD
  have hFc := fw_free (fp2 _ _ _ _) hD hS hA
  refine cwVi (q0 := 0) (As := []) (rest := [.int r1626]) hC hK hPc hDc rfl rfl hS hFc (m_X4_value_ l dC dI g cy _ fu u.1 _ hF) k_X4_value_ q1716 ⟨rfl, rfl⟩ ⟨Nat.le_of_ble_eq_true rfl, Nat.le_of_ble_eq_true rfl⟩ hl.1 rfl rfl (Nat.le_of_ble_eq_true rfl) dL_law_1630 ⟨by show _ ≤ 603072; omega, by show _ ≤ 7211114; omega⟩ (fun r1630 s1630 H1 locs hF hP9 hD9 hk1 hS => ?_)
  obtain ⟨hP1, hD1⟩ := fw_join (fp2 _ _ _ _) hP hD hk1 hFc hP9 hD9
  have hP := va_P.perm (fp2 _ _ _ _).symm hP1
  have hD := va_D.perm (fp2 _ _ _ _).symm hD1
  generalize H1 = H at hP hS ⊢
  have hP : va_P (dC, dI) classes (wH h cy s1626 ++ ([(o, .inl (cy 1, 1, .inr (.inl f)))] ++ (wC g cy (s1630, u.2).1 ++ (wl ad cy (z 0) (g 20) (s1630, u.2).2.1 ++ (wl ad cy (z 0) (g 21) (s1630, u.2).2.2.1 ++ (wl ad cy (z 0) (g 22) (s1630, u.2).2.2.2.1 ++ wS g cy (s1630, u.2).2.2.2.2)))))) H := hP
  have hD : va_D A (wH h cy s1626 ++ ([(o, .inl (cy 1, 1, .inr (.inl f)))] ++ (wC g cy (s1630, u.2).1 ++ (wl ad cy (z 0) (g 20) (s1630, u.2).2.1 ++ (wl ad cy (z 0) (g 21) (s1630, u.2).2.2.1 ++ (wl ad cy (z 0) (g 22) (s1630, u.2).2.2.2.1 ++ wS g cy (s1630, u.2).2.2.2.2)))))) := hD
  refine lv_icmp_eq (tgt := 1951) hx hb dL_law_1633 (by decide) (fun cz => ?_) (fun cz => ?_)
  · have hF := hF.1 cz
    refine W.widen (k := k0 + 30) (n := n0 + 480) (by omega) (by omega) ?_
    exact hJ _ _ _ hF _ _ _ hP hD hS (lv_sub hl [0, 1, 2, 3, 4] rfl)
  · have hF := hF.2 cz
    refine lv_iconst (v := 0) hx hb dL_law_1636 (by decide) ?_
    exact hF.elim
def wp_case35 (fu : Nat) (σ : SX) (f : Nat → Int64) (u : FX) (K : SX → (Nat → Int64) → FX → Prop) : Prop := (wp_L_winning fu σ f (fun r1640 s1640 f1640 => (wp_X4_winning fu u.1 (fun r1646 s1646 => (wp_X4_thrown ((s1646, u.2).1) (fun r1652 => ((r1652 = r1640 → ((¬ r1640 = 0 → (K s1640 f1640 (s1646, u.2))) ∧ (r1640 = 0 → (((lg_cmp (f1640 (0 : Int32).toNatClampNeg) r1646.toInt64) = 0 → (K s1640 f1640 (s1646, u.2))) ∧ (¬ (lg_cmp (f1640 (0 : Int32).toNatClampNeg) r1646.toInt64) = 0 → False))))) ∧ (¬ r1652 = r1640 → False))))))))
set_option maxHeartbeats 4000000 in
set_option maxRecDepth 100000 in
theorem m_case35 {p : Program} {e9 : Env} {s : State} {m : MethodId} {below : List Frame} {meth : Method} {c : Code} (l : Launch) (hl9 : l.stackTraces = false) {dC : Nat → ClassId} {dI : Nat → Nat → Nat} {h g : Nat → Nat} {cy : Nat → ClassId} {sa z ad : Nat → Nat} {o b L fu i k0 n0 : Nat} {xs : Nat → Int32} {A : Nat → Prop} {Q : State → Prop} {a0 a1 a2 : Int32}
  (hC : Cx p s m #[Value.ref b] meth c RL code 9 ret) (hK : kwX dC dI cy s) (hXS : XS sa s) (hXZ : XZ A s s.heap) (hN : NCL s) (hZ : ZF z ad A s s.heap) (hvk : vk_R "PegshoreHouseModel" 92 "std" (z 4) s) (hX : va_X b L xs s s.heap) (hbl : b < s.heap.size) (hbA : ¬ A b) (hA : ∀ q : Nat, s.heap.size ≤ q → A q)
  (hi1 : vp_in (nI i + 1) L) (hi2 : vp_in (nI i + 2) L) (hx1 : xs (nI i + 1).toNatClampNeg = a1) (hx2 : xs (nI i + 2).toNatClampNeg = a2) (hk0 : k0 + 30 ≤ 603072) (hn0 : n0 + 480 ≤ 7211114)
  (K : SX → (Nat → Int64) → FX → Prop) (hJ : ∀ σ f u, K σ f u → ∀ (H : Heap) (locs : List Loc) (ls : Array Slot), va_P (dC, dI) classes (wH h cy σ ++ ([(o, .inl (cy 1, 1, .inr (.inl f)))] ++ (wC g cy u.1 ++ (wl ad cy (z 0) (g 20) u.2.1 ++ (wl ad cy (z 0) (g 21) u.2.2.1 ++ (wl ad cy (z 0) (g 22) u.2.2.2.1 ++ wS g cy u.2.2.2.2)))))) H → va_D A (wH h cy σ ++ ([(o, .inl (cy 1, 1, .inr (.inl f)))] ++ (wC g cy u.1 ++ (wl ad cy (z 0) (g 20) u.2.1 ++ (wl ad cy (z 0) (g 21) u.2.2.1 ++ (wl ad cy (z 0) (g 22) u.2.2.2.1 ++ wS g cy u.2.2.2.2)))))) → va_S A s.heap H locs → lv_has ls 9 [(0, .ref b), (1, .ref (h 16)), (2, .ref (g 0)), (3, .ref o), (4, .int (nI i))] → W p l e9 room_1 s m #[Value.ref b] below meth c H locs (k0 + 30) (n0 + 480) Q (F0 m 1951 ls [])) (σ : SX) (f : Nat → Int64) (u : FX) (hF : wp_case35 fu σ f u K) : ∀ (H : Heap) (locs : List Loc) (ls : Array Slot), va_P (dC, dI) classes (wH h cy σ ++ ([(o, .inl (cy 1, 1, .inr (.inl f)))] ++ (wC g cy u.1 ++ (wl ad cy (z 0) (g 20) u.2.1 ++ (wl ad cy (z 0) (g 21) u.2.2.1 ++ (wl ad cy (z 0) (g 22) u.2.2.2.1 ++ wS g cy u.2.2.2.2)))))) H → va_D A (wH h cy σ ++ ([(o, .inl (cy 1, 1, .inr (.inl f)))] ++ (wC g cy u.1 ++ (wl ad cy (z 0) (g 20) u.2.1 ++ (wl ad cy (z 0) (g 21) u.2.2.1 ++ (wl ad cy (z 0) (g 22) u.2.2.2.1 ++ wS g cy u.2.2.2.2)))))) → va_S A s.heap H locs → lv_has ls 9 [(0, .ref b), (1, .ref (h 16)), (2, .ref (g 0)), (3, .ref o), (4, .int (nI i))] → W p l e9 room_1 s m #[Value.ref b] below meth c H locs k0 n0 Q (F0 m 1638 ls []) := by
  intro H locs ls hP hD hS hl
  have hx := hC.1
  have hb := hC.2.1
  have hml := hC.2.2.2.1
  have hown := hC.2.2.2.2.1
  have hts := hC.2.2.2.2.2.1
  unfold wp_case35 at hF
  refine lv_aload_n hx hb dL_law_1638 rfl (lv_at hl 1 rfl) ?_
  refine lv_aload_n hx hb dL_law_1639 rfl (lv_at hl 3 rfl) ?_
  refine lwWrap (x := wO h cy o σ f) (wn := fun (u : SX × (Nat → Int64)) => wO h cy o u.1 u.2) (As := [.ref (h 16), .ref o]) (rest := []) (fpA _ _ _) hC hK hXS hXZ hN hP hD hS hA (m_L_winning l hl9 dC dI h cy sa o _ fu σ f _ hF) k_L_winning q825 ⟨rfl, rfl⟩ ⟨Nat.le_of_ble_eq_true rfl, Nat.le_of_ble_eq_true rfl⟩ hl.1 rfl rfl (Nat.le_of_ble_eq_true rfl) dL_law_1640 ⟨by show _ ≤ 603072; omega, by show _ ≤ 7211114; omega⟩ (fun r1640 v9 H1 locs hF hP1 hD1 hS => ?_)
  obtain ⟨s1640, f1640⟩ := v9
  have hP := va_P.perm (fpA _ _ _).symm hP1
  have hD := va_D.perm (fpA _ _ _).symm hD1
  generalize H1 = H at hP hS ⊢
  have hP : va_P (dC, dI) classes (wH h cy s1640 ++ ([(o, .inl (cy 1, 1, .inr (.inl f1640)))] ++ (wC g cy u.1 ++ (wl ad cy (z 0) (g 20) u.2.1 ++ (wl ad cy (z 0) (g 21) u.2.2.1 ++ (wl ad cy (z 0) (g 22) u.2.2.2.1 ++ wS g cy u.2.2.2.2)))))) H := hP
  have hD : va_D A (wH h cy s1640 ++ ([(o, .inl (cy 1, 1, .inr (.inl f1640)))] ++ (wC g cy u.1 ++ (wl ad cy (z 0) (g 20) u.2.1 ++ (wl ad cy (z 0) (g 21) u.2.2.1 ++ (wl ad cy (z 0) (g 22) u.2.2.2.1 ++ wS g cy u.2.2.2.2)))))) := hD
  refine lv_istore (lv' := [(5, .int r1640), (0, .ref b), (1, .ref (h 16)), (2, .ref (g 0)), (3, .ref o), (4, .int (nI i))]) hx hb dL_law_1643 hl (by decide) rfl (fun ls hl => ?_)
  refine lv_aload_n hx hb dL_law_1645 rfl (lv_at hl 3 rfl) ?_
  have hPc := fw_get (fp2 _ _ _ _) hP
  have hDc := fw_getD (fp2 _ _ _ _) hD
  have hFc := fw_free (fp2 _ _ _ _) hD hS hA
  refine cwVi (q0 := 0) (As := []) (rest := []) hC hK hPc hDc rfl rfl hS hFc (m_X4_winning l dC dI g cy _ fu u.1 _ hF) k_X4_winning q1732 ⟨rfl, rfl⟩ ⟨Nat.le_of_ble_eq_true rfl, Nat.le_of_ble_eq_true rfl⟩ hl.1 rfl rfl (Nat.le_of_ble_eq_true rfl) dL_law_1646 ⟨by show _ ≤ 603072; omega, by show _ ≤ 7211114; omega⟩ (fun r1646 s1646 H1 locs hF hP9 hD9 hk1 hS => ?_)
  obtain ⟨hP1, hD1⟩ := fw_join (fp2 _ _ _ _) hP hD hk1 hFc hP9 hD9
  have hP := va_P.perm (fp2 _ _ _ _).symm hP1
  have hD := va_D.perm (fp2 _ _ _ _).symm hD1
  generalize H1 = H at hP hS ⊢
  have hP : va_P (dC, dI) classes (wH h cy s1640 ++ ([(o, .inl (cy 1, 1, .inr (.inl f1640)))] ++ (wC g cy (s1646, u.2).1 ++ (wl ad cy (z 0) (g 20) (s1646, u.2).2.1 ++ (wl ad cy (z 0) (g 21) (s1646, u.2).2.2.1 ++ (wl ad cy (z 0) (g 22) (s1646, u.2).2.2.2.1 ++ wS g cy (s1646, u.2).2.2.2.2)))))) H := hP
  have hD : va_D A (wH h cy s1640 ++ ([(o, .inl (cy 1, 1, .inr (.inl f1640)))] ++ (wC g cy (s1646, u.2).1 ++ (wl ad cy (z 0) (g 20) (s1646, u.2).2.1 ++ (wl ad cy (z 0) (g 21) (s1646, u.2).2.2.1 ++ (wl ad cy (z 0) (g 22) (s1646, u.2).2.2.2.1 ++ wS g cy (s1646, u.2).2.2.2.2)))))) := hD
  refine lv_istore (lv' := [(6, .int r1646), (5, .int r1640), (0, .ref b), (1, .ref (h 16)), (2, .ref (g 0)), (3, .ref o), (4, .int (nI i))]) hx hb dL_law_1649 hl (by decide) rfl (fun ls hl => ?_)
  refine lv_aload_n hx hb dL_law_1651 rfl (lv_at hl 4 rfl) ?_
  have hPc := fw_get (fp2 _ _ _ _) hP
  refine cpVi (q0 := 0) (As := []) (rest := []) hC hK hPc rfl rfl (m_X4_thrown l dC dI g cy ((s1646, u.2).1) _ hF) k_X4_thrown q1009 ⟨rfl, rfl⟩ ⟨Nat.le_of_ble_eq_true rfl, Nat.le_of_ble_eq_true rfl⟩ hl.1 rfl rfl (Nat.le_of_ble_eq_true rfl) dL_law_1652 ⟨by show _ ≤ 603072; omega, by show _ ≤ 7211114; omega⟩ (fun r1652 hF => ?_)
  refine lv_iload hx hb dL_law_1655 (lv_at hl 1 rfl) ?_
  refine lv_icmp_eq (tgt := 1662) hx hb dL_law_1657 (by decide) (fun cz => ?_) (fun cz => ?_)
  · have hF := hF.1 cz
    refine lv_iload hx hb dL_law_1662 (lv_at hl 1 rfl) ?_
    refine lv_if_ne (tgt := 1679) hx hb dL_law_1664 (by decide) (fun cz => ?_) (fun cz => ?_)
    · have hF := hF.1 cz
      refine lv_goto (tgt := 1951) hx hb dL_law_1679 (by decide) ?_
      refine W.widen (k := k0 + 30) (n := n0 + 480) (by omega) (by omega) ?_
      exact hJ _ _ _ hF _ _ _ hP hD hS (lv_sub hl [2, 3, 4, 5, 6] rfl)
    · have hF := hF.2 cz
      refine lv_aload_n hx hb dL_law_1667 rfl (lv_at hl 5 rfl) ?_
      refine lv_iconst (v := 0) hx hb dL_law_1668 (by decide) ?_
      refine va_lald hx hb hK.1 hP 21 1 rfl rfl (show vp_in 0 1 from vp_in_nI (n := 0) (by omega) (by omega)) dL_law_1669 ?_
      refine lv_iload hx hb dL_law_1670 (lv_at hl 0 rfl) ?_
      refine lv_i2l hx hb dL_law_1672 rfl ?_
      refine W.lcmp hx hb dL_law_1673 ?_
      refine lv_if_eq (tgt := 1679) hx hb dL_law_1674 (by decide) (fun cz => ?_) (fun cz => ?_)
      · have hF := hF.1 cz
        refine lv_goto (tgt := 1951) hx hb dL_law_1679 (by decide) ?_
        refine W.widen (k := k0 + 30) (n := n0 + 480) (by omega) (by omega) ?_
        exact hJ _ _ _ hF _ _ _ hP hD hS (lv_sub hl [2, 3, 4, 5, 6] rfl)
      · have hF := hF.2 cz
        refine lv_iconst (v := 0) hx hb dL_law_1677 (by decide) ?_
        exact hF.elim
  · have hF := hF.2 cz
    refine lv_iconst (v := 0) hx hb dL_law_1660 (by decide) ?_
    exact hF.elim
def wp_case36 (a1 : Int32) (σ : SX) (f : Nat → Int64) (u : FX) (K : SX → (Nat → Int64) → FX → Prop) : Prop := (wp_L_tell σ f a1 (fun r1690 s1690 f1690 => (wp_X4_tell u a1 (fun r1702 s1702 => (wp_X4_thrown s1702.1 (fun r1708 => ((r1708 = r1690 → ((¬ r1690 = 0 → (K s1690 f1690 s1702)) ∧ (r1690 = 0 → (((lg_cmp (f1690 (0 : Int32).toNatClampNeg) r1702.toInt64) = 0 → (K s1690 f1690 s1702)) ∧ (¬ (lg_cmp (f1690 (0 : Int32).toNatClampNeg) r1702.toInt64) = 0 → False))))) ∧ (¬ r1708 = r1690 → False))))))))
set_option maxHeartbeats 4000000 in
set_option maxRecDepth 100000 in
theorem m_case36 {p : Program} {e9 : Env} {s : State} {m : MethodId} {below : List Frame} {meth : Method} {c : Code} (l : Launch) (hl9 : l.stackTraces = false) {dC : Nat → ClassId} {dI : Nat → Nat → Nat} {h g : Nat → Nat} {cy : Nat → ClassId} {sa z ad : Nat → Nat} {o b L fu i k0 n0 : Nat} {xs : Nat → Int32} {A : Nat → Prop} {Q : State → Prop} {a0 a1 a2 : Int32}
  (hC : Cx p s m #[Value.ref b] meth c RL code 9 ret) (hK : kwX dC dI cy s) (hXS : XS sa s) (hXZ : XZ A s s.heap) (hN : NCL s) (hZ : ZF z ad A s s.heap) (hvk : vk_R "PegshoreHouseModel" 92 "std" (z 4) s) (hX : va_X b L xs s s.heap) (hbl : b < s.heap.size) (hbA : ¬ A b) (hA : ∀ q : Nat, s.heap.size ≤ q → A q)
  (hi1 : vp_in (nI i + 1) L) (hi2 : vp_in (nI i + 2) L) (hx1 : xs (nI i + 1).toNatClampNeg = a1) (hx2 : xs (nI i + 2).toNatClampNeg = a2) (hk0 : k0 + 30 ≤ 603072) (hn0 : n0 + 480 ≤ 7211114)
  (K : SX → (Nat → Int64) → FX → Prop) (hJ : ∀ σ f u, K σ f u → ∀ (H : Heap) (locs : List Loc) (ls : Array Slot), va_P (dC, dI) classes (wH h cy σ ++ ([(o, .inl (cy 1, 1, .inr (.inl f)))] ++ (wC g cy u.1 ++ (wl ad cy (z 0) (g 20) u.2.1 ++ (wl ad cy (z 0) (g 21) u.2.2.1 ++ (wl ad cy (z 0) (g 22) u.2.2.2.1 ++ wS g cy u.2.2.2.2)))))) H → va_D A (wH h cy σ ++ ([(o, .inl (cy 1, 1, .inr (.inl f)))] ++ (wC g cy u.1 ++ (wl ad cy (z 0) (g 20) u.2.1 ++ (wl ad cy (z 0) (g 21) u.2.2.1 ++ (wl ad cy (z 0) (g 22) u.2.2.2.1 ++ wS g cy u.2.2.2.2)))))) → va_S A s.heap H locs → lv_has ls 9 [(0, .ref b), (1, .ref (h 16)), (2, .ref (g 0)), (3, .ref o), (4, .int (nI i))] → W p l e9 room_1 s m #[Value.ref b] below meth c H locs (k0 + 30) (n0 + 480) Q (F0 m 1951 ls [])) (σ : SX) (f : Nat → Int64) (u : FX) (hF : wp_case36 a1 σ f u K) : ∀ (H : Heap) (locs : List Loc) (ls : Array Slot), va_P (dC, dI) classes (wH h cy σ ++ ([(o, .inl (cy 1, 1, .inr (.inl f)))] ++ (wC g cy u.1 ++ (wl ad cy (z 0) (g 20) u.2.1 ++ (wl ad cy (z 0) (g 21) u.2.2.1 ++ (wl ad cy (z 0) (g 22) u.2.2.2.1 ++ wS g cy u.2.2.2.2)))))) H → va_D A (wH h cy σ ++ ([(o, .inl (cy 1, 1, .inr (.inl f)))] ++ (wC g cy u.1 ++ (wl ad cy (z 0) (g 20) u.2.1 ++ (wl ad cy (z 0) (g 21) u.2.2.1 ++ (wl ad cy (z 0) (g 22) u.2.2.2.1 ++ wS g cy u.2.2.2.2)))))) → va_S A s.heap H locs → lv_has ls 9 [(0, .ref b), (1, .ref (h 16)), (2, .ref (g 0)), (3, .ref o), (4, .int (nI i))] → W p l e9 room_1 s m #[Value.ref b] below meth c H locs k0 n0 Q (F0 m 1682 ls []) := by
  intro H locs ls hP hD hS hl
  have hx := hC.1
  have hb := hC.2.1
  have hml := hC.2.2.2.1
  have hown := hC.2.2.2.2.1
  have hts := hC.2.2.2.2.2.1
  unfold wp_case36 at hF
  refine lv_aload_n hx hb dL_law_1682 rfl (lv_at hl 1 rfl) ?_
  refine lv_aload_n hx hb dL_law_1683 rfl (lv_at hl 0 rfl) ?_
  refine lv_iload hx hb dL_law_1684 (lv_at hl 4 rfl) ?_
  refine lv_iconst (v := 1) hx hb dL_law_1686 (by decide) ?_
  refine lv_iadd hx hb dL_law_1687 ?_
  refine va_sld hx hb hX hbl hbA hS hi1 dL_law_1688 ?_
  rw [hx1]
  refine lv_aload_n hx hb dL_law_1689 rfl (lv_at hl 3 rfl) ?_
  refine lwWrap (x := wO h cy o σ f) (wn := fun (u : SX × (Nat → Int64)) => wO h cy o u.1 u.2) (As := [.ref (h 16), .int a1, .ref o]) (rest := []) (fpA _ _ _) hC hK hXS hXZ hN hP hD hS hA (m_L_tell l hl9 dC dI h cy sa o _ σ f a1 _ hF) k_L_tell q833 ⟨rfl, rfl⟩ ⟨Nat.le_of_ble_eq_true rfl, Nat.le_of_ble_eq_true rfl⟩ hl.1 rfl rfl (Nat.le_of_ble_eq_true rfl) dL_law_1690 ⟨by show _ ≤ 603072; omega, by show _ ≤ 7211114; omega⟩ (fun r1690 v9 H1 locs hF hP1 hD1 hS => ?_)
  obtain ⟨s1690, f1690⟩ := v9
  have hP := va_P.perm (fpA _ _ _).symm hP1
  have hD := va_D.perm (fpA _ _ _).symm hD1
  generalize H1 = H at hP hS ⊢
  have hP : va_P (dC, dI) classes (wH h cy s1690 ++ ([(o, .inl (cy 1, 1, .inr (.inl f1690)))] ++ (wC g cy u.1 ++ (wl ad cy (z 0) (g 20) u.2.1 ++ (wl ad cy (z 0) (g 21) u.2.2.1 ++ (wl ad cy (z 0) (g 22) u.2.2.2.1 ++ wS g cy u.2.2.2.2)))))) H := hP
  have hD : va_D A (wH h cy s1690 ++ ([(o, .inl (cy 1, 1, .inr (.inl f1690)))] ++ (wC g cy u.1 ++ (wl ad cy (z 0) (g 20) u.2.1 ++ (wl ad cy (z 0) (g 21) u.2.2.1 ++ (wl ad cy (z 0) (g 22) u.2.2.2.1 ++ wS g cy u.2.2.2.2)))))) := hD
  refine lv_istore (lv' := [(5, .int r1690), (0, .ref b), (1, .ref (h 16)), (2, .ref (g 0)), (3, .ref o), (4, .int (nI i))]) hx hb dL_law_1693 hl (by decide) rfl (fun ls hl => ?_)
  refine lv_aload_n hx hb dL_law_1695 rfl (lv_at hl 3 rfl) ?_
  refine lv_aload_n hx hb dL_law_1696 rfl (lv_at hl 1 rfl) ?_
  refine lv_iload hx hb dL_law_1697 (lv_at hl 5 rfl) ?_
  refine lv_iconst (v := 1) hx hb dL_law_1699 (by decide) ?_
  refine lv_iadd hx hb dL_law_1700 ?_
  refine va_sld hx hb hX hbl hbA hS hi1 dL_law_1701 ?_
  rw [hx1]
  refine cfVi (x := wC g cy u.1 ++ (wl ad cy (z 0) (g 20) u.2.1 ++ (wl ad cy (z 0) (g 21) u.2.2.1 ++ (wl ad cy (z 0) (g 22) u.2.2.2.1 ++ wS g cy u.2.2.2.2)))) (As := [.int a1]) (rest := []) (fpF _ _ _) hC hK hP hD hZ hvk hS hA rfl (m_X4_tell l dC dI g cy z ad _ u a1 _ hF) k_X4_tell q1736 ⟨rfl, rfl⟩ ⟨Nat.le_of_ble_eq_true rfl, Nat.le_of_ble_eq_true rfl⟩ hl.1 rfl rfl (Nat.le_of_ble_eq_true rfl) dL_law_1702 ⟨by show _ ≤ 603072; omega, by show _ ≤ 7211114; omega⟩ (fun r1702 s1702 H1 locs hF hP1 hD1 hS => ?_)
  have hP := va_P.perm (fpF _ _ _).symm hP1
  have hD := va_D.perm (fpF _ _ _).symm hD1
  generalize H1 = H at hP hS ⊢
  have hP : va_P (dC, dI) classes (wH h cy s1690 ++ ([(o, .inl (cy 1, 1, .inr (.inl f1690)))] ++ (wC g cy s1702.1 ++ (wl ad cy (z 0) (g 20) s1702.2.1 ++ (wl ad cy (z 0) (g 21) s1702.2.2.1 ++ (wl ad cy (z 0) (g 22) s1702.2.2.2.1 ++ wS g cy s1702.2.2.2.2)))))) H := hP
  have hD : va_D A (wH h cy s1690 ++ ([(o, .inl (cy 1, 1, .inr (.inl f1690)))] ++ (wC g cy s1702.1 ++ (wl ad cy (z 0) (g 20) s1702.2.1 ++ (wl ad cy (z 0) (g 21) s1702.2.2.1 ++ (wl ad cy (z 0) (g 22) s1702.2.2.2.1 ++ wS g cy s1702.2.2.2.2)))))) := hD
  refine lv_istore (lv' := [(6, .int r1702), (5, .int r1690), (0, .ref b), (1, .ref (h 16)), (2, .ref (g 0)), (3, .ref o), (4, .int (nI i))]) hx hb dL_law_1705 hl (by decide) rfl (fun ls hl => ?_)
  refine lv_aload_n hx hb dL_law_1707 rfl (lv_at hl 4 rfl) ?_
  have hPc := fw_get (fp2 _ _ _ _) hP
  refine cpVi (q0 := 0) (As := []) (rest := []) hC hK hPc rfl rfl (m_X4_thrown l dC dI g cy s1702.1 _ hF) k_X4_thrown q1009 ⟨rfl, rfl⟩ ⟨Nat.le_of_ble_eq_true rfl, Nat.le_of_ble_eq_true rfl⟩ hl.1 rfl rfl (Nat.le_of_ble_eq_true rfl) dL_law_1708 ⟨by show _ ≤ 603072; omega, by show _ ≤ 7211114; omega⟩ (fun r1708 hF => ?_)
  refine lv_iload hx hb dL_law_1711 (lv_at hl 1 rfl) ?_
  refine lv_icmp_eq (tgt := 1718) hx hb dL_law_1713 (by decide) (fun cz => ?_) (fun cz => ?_)
  · have hF := hF.1 cz
    refine lv_iload hx hb dL_law_1718 (lv_at hl 1 rfl) ?_
    refine lv_if_ne (tgt := 1735) hx hb dL_law_1720 (by decide) (fun cz => ?_) (fun cz => ?_)
    · have hF := hF.1 cz
      refine lv_goto (tgt := 1951) hx hb dL_law_1735 (by decide) ?_
      refine W.widen (k := k0 + 30) (n := n0 + 480) (by omega) (by omega) ?_
      exact hJ _ _ _ hF _ _ _ hP hD hS (lv_sub hl [2, 3, 4, 5, 6] rfl)
    · have hF := hF.2 cz
      refine lv_aload_n hx hb dL_law_1723 rfl (lv_at hl 5 rfl) ?_
      refine lv_iconst (v := 0) hx hb dL_law_1724 (by decide) ?_
      refine va_lald hx hb hK.1 hP 21 1 rfl rfl (show vp_in 0 1 from vp_in_nI (n := 0) (by omega) (by omega)) dL_law_1725 ?_
      refine lv_iload hx hb dL_law_1726 (lv_at hl 0 rfl) ?_
      refine lv_i2l hx hb dL_law_1728 rfl ?_
      refine W.lcmp hx hb dL_law_1729 ?_
      refine lv_if_eq (tgt := 1735) hx hb dL_law_1730 (by decide) (fun cz => ?_) (fun cz => ?_)
      · have hF := hF.1 cz
        refine lv_goto (tgt := 1951) hx hb dL_law_1735 (by decide) ?_
        refine W.widen (k := k0 + 30) (n := n0 + 480) (by omega) (by omega) ?_
        exact hJ _ _ _ hF _ _ _ hP hD hS (lv_sub hl [2, 3, 4, 5, 6] rfl)
      · have hF := hF.2 cz
        refine lv_iconst (v := 0) hx hb dL_law_1733 (by decide) ?_
        exact hF.elim
  · have hF := hF.2 cz
    refine lv_iconst (v := 0) hx hb dL_law_1716 (by decide) ?_
    exact hF.elim
def wp_case37 (fu : Nat) (σ : SX) (f : Nat → Int64) (u : FX) (K : SX → (Nat → Int64) → FX → Prop) : Prop := (wp_L_play fu σ f (fun r1740 s1740 f1740 => (wp_X4_play fu u (fun r1746 s1746 => (wp_X4_thrown s1746.1 (fun r1752 => ((r1752 = r1740 → ((¬ r1740 = 0 → (K s1740 f1740 s1746)) ∧ (r1740 = 0 → (((lg_cmp (f1740 (0 : Int32).toNatClampNeg) r1746.toInt64) = 0 → (K s1740 f1740 s1746)) ∧ (¬ (lg_cmp (f1740 (0 : Int32).toNatClampNeg) r1746.toInt64) = 0 → False))))) ∧ (¬ r1752 = r1740 → False))))))))
set_option maxHeartbeats 4000000 in
set_option maxRecDepth 100000 in
theorem m_case37 {p : Program} {e9 : Env} {s : State} {m : MethodId} {below : List Frame} {meth : Method} {c : Code} (l : Launch) (hl9 : l.stackTraces = false) {dC : Nat → ClassId} {dI : Nat → Nat → Nat} {h g : Nat → Nat} {cy : Nat → ClassId} {sa z ad : Nat → Nat} {o b L fu i k0 n0 : Nat} {xs : Nat → Int32} {A : Nat → Prop} {Q : State → Prop} {a0 a1 a2 : Int32}
  (hC : Cx p s m #[Value.ref b] meth c RL code 9 ret) (hK : kwX dC dI cy s) (hXS : XS sa s) (hXZ : XZ A s s.heap) (hN : NCL s) (hZ : ZF z ad A s s.heap) (hvk : vk_R "PegshoreHouseModel" 92 "std" (z 4) s) (hX : va_X b L xs s s.heap) (hbl : b < s.heap.size) (hbA : ¬ A b) (hA : ∀ q : Nat, s.heap.size ≤ q → A q)
  (hi1 : vp_in (nI i + 1) L) (hi2 : vp_in (nI i + 2) L) (hx1 : xs (nI i + 1).toNatClampNeg = a1) (hx2 : xs (nI i + 2).toNatClampNeg = a2) (hk0 : k0 + 30 ≤ 603072) (hn0 : n0 + 480 ≤ 7211114)
  (K : SX → (Nat → Int64) → FX → Prop) (hJ : ∀ σ f u, K σ f u → ∀ (H : Heap) (locs : List Loc) (ls : Array Slot), va_P (dC, dI) classes (wH h cy σ ++ ([(o, .inl (cy 1, 1, .inr (.inl f)))] ++ (wC g cy u.1 ++ (wl ad cy (z 0) (g 20) u.2.1 ++ (wl ad cy (z 0) (g 21) u.2.2.1 ++ (wl ad cy (z 0) (g 22) u.2.2.2.1 ++ wS g cy u.2.2.2.2)))))) H → va_D A (wH h cy σ ++ ([(o, .inl (cy 1, 1, .inr (.inl f)))] ++ (wC g cy u.1 ++ (wl ad cy (z 0) (g 20) u.2.1 ++ (wl ad cy (z 0) (g 21) u.2.2.1 ++ (wl ad cy (z 0) (g 22) u.2.2.2.1 ++ wS g cy u.2.2.2.2)))))) → va_S A s.heap H locs → lv_has ls 9 [(0, .ref b), (1, .ref (h 16)), (2, .ref (g 0)), (3, .ref o), (4, .int (nI i))] → W p l e9 room_1 s m #[Value.ref b] below meth c H locs (k0 + 30) (n0 + 480) Q (F0 m 1951 ls [])) (σ : SX) (f : Nat → Int64) (u : FX) (hF : wp_case37 fu σ f u K) : ∀ (H : Heap) (locs : List Loc) (ls : Array Slot), va_P (dC, dI) classes (wH h cy σ ++ ([(o, .inl (cy 1, 1, .inr (.inl f)))] ++ (wC g cy u.1 ++ (wl ad cy (z 0) (g 20) u.2.1 ++ (wl ad cy (z 0) (g 21) u.2.2.1 ++ (wl ad cy (z 0) (g 22) u.2.2.2.1 ++ wS g cy u.2.2.2.2)))))) H → va_D A (wH h cy σ ++ ([(o, .inl (cy 1, 1, .inr (.inl f)))] ++ (wC g cy u.1 ++ (wl ad cy (z 0) (g 20) u.2.1 ++ (wl ad cy (z 0) (g 21) u.2.2.1 ++ (wl ad cy (z 0) (g 22) u.2.2.2.1 ++ wS g cy u.2.2.2.2)))))) → va_S A s.heap H locs → lv_has ls 9 [(0, .ref b), (1, .ref (h 16)), (2, .ref (g 0)), (3, .ref o), (4, .int (nI i))] → W p l e9 room_1 s m #[Value.ref b] below meth c H locs k0 n0 Q (F0 m 1738 ls []) := by
  intro H locs ls hP hD hS hl
  have hx := hC.1
  have hb := hC.2.1
  have hml := hC.2.2.2.1
  have hown := hC.2.2.2.2.1
  have hts := hC.2.2.2.2.2.1
  unfold wp_case37 at hF
  refine lv_aload_n hx hb dL_law_1738 rfl (lv_at hl 1 rfl) ?_
  refine lv_aload_n hx hb dL_law_1739 rfl (lv_at hl 3 rfl) ?_
  refine lwWrap (x := wO h cy o σ f) (wn := fun (u : SX × (Nat → Int64)) => wO h cy o u.1 u.2) (As := [.ref (h 16), .ref o]) (rest := []) (fpA _ _ _) hC hK hXS hXZ hN hP hD hS hA (m_L_play l hl9 dC dI h cy sa o _ fu σ f _ hF) k_L_play q841 ⟨rfl, rfl⟩ ⟨Nat.le_of_ble_eq_true rfl, Nat.le_of_ble_eq_true rfl⟩ hl.1 rfl rfl (Nat.le_of_ble_eq_true rfl) dL_law_1740 ⟨by show _ ≤ 603072; omega, by show _ ≤ 7211114; omega⟩ (fun r1740 v9 H1 locs hF hP1 hD1 hS => ?_)
  obtain ⟨s1740, f1740⟩ := v9
  have hP := va_P.perm (fpA _ _ _).symm hP1
  have hD := va_D.perm (fpA _ _ _).symm hD1
  generalize H1 = H at hP hS ⊢
  have hP : va_P (dC, dI) classes (wH h cy s1740 ++ ([(o, .inl (cy 1, 1, .inr (.inl f1740)))] ++ (wC g cy u.1 ++ (wl ad cy (z 0) (g 20) u.2.1 ++ (wl ad cy (z 0) (g 21) u.2.2.1 ++ (wl ad cy (z 0) (g 22) u.2.2.2.1 ++ wS g cy u.2.2.2.2)))))) H := hP
  have hD : va_D A (wH h cy s1740 ++ ([(o, .inl (cy 1, 1, .inr (.inl f1740)))] ++ (wC g cy u.1 ++ (wl ad cy (z 0) (g 20) u.2.1 ++ (wl ad cy (z 0) (g 21) u.2.2.1 ++ (wl ad cy (z 0) (g 22) u.2.2.2.1 ++ wS g cy u.2.2.2.2)))))) := hD
  refine lv_istore (lv' := [(5, .int r1740), (0, .ref b), (1, .ref (h 16)), (2, .ref (g 0)), (3, .ref o), (4, .int (nI i))]) hx hb dL_law_1743 hl (by decide) rfl (fun ls hl => ?_)
  refine lv_aload_n hx hb dL_law_1745 rfl (lv_at hl 3 rfl) ?_
  refine cfVi (x := wC g cy u.1 ++ (wl ad cy (z 0) (g 20) u.2.1 ++ (wl ad cy (z 0) (g 21) u.2.2.1 ++ (wl ad cy (z 0) (g 22) u.2.2.2.1 ++ wS g cy u.2.2.2.2)))) (As := []) (rest := []) (fpF _ _ _) hC hK hP hD hZ hvk hS hA rfl (m_X4_play l dC dI g cy z ad _ fu u _ hF) k_X4_play q1740 ⟨rfl, rfl⟩ ⟨Nat.le_of_ble_eq_true rfl, Nat.le_of_ble_eq_true rfl⟩ hl.1 rfl rfl (Nat.le_of_ble_eq_true rfl) dL_law_1746 ⟨by show _ ≤ 603072; omega, by show _ ≤ 7211114; omega⟩ (fun r1746 s1746 H1 locs hF hP1 hD1 hS => ?_)
  have hP := va_P.perm (fpF _ _ _).symm hP1
  have hD := va_D.perm (fpF _ _ _).symm hD1
  generalize H1 = H at hP hS ⊢
  have hP : va_P (dC, dI) classes (wH h cy s1740 ++ ([(o, .inl (cy 1, 1, .inr (.inl f1740)))] ++ (wC g cy s1746.1 ++ (wl ad cy (z 0) (g 20) s1746.2.1 ++ (wl ad cy (z 0) (g 21) s1746.2.2.1 ++ (wl ad cy (z 0) (g 22) s1746.2.2.2.1 ++ wS g cy s1746.2.2.2.2)))))) H := hP
  have hD : va_D A (wH h cy s1740 ++ ([(o, .inl (cy 1, 1, .inr (.inl f1740)))] ++ (wC g cy s1746.1 ++ (wl ad cy (z 0) (g 20) s1746.2.1 ++ (wl ad cy (z 0) (g 21) s1746.2.2.1 ++ (wl ad cy (z 0) (g 22) s1746.2.2.2.1 ++ wS g cy s1746.2.2.2.2)))))) := hD
  refine lv_istore (lv' := [(6, .int r1746), (5, .int r1740), (0, .ref b), (1, .ref (h 16)), (2, .ref (g 0)), (3, .ref o), (4, .int (nI i))]) hx hb dL_law_1749 hl (by decide) rfl (fun ls hl => ?_)
  refine lv_aload_n hx hb dL_law_1751 rfl (lv_at hl 4 rfl) ?_
  have hPc := fw_get (fp2 _ _ _ _) hP
  refine cpVi (q0 := 0) (As := []) (rest := []) hC hK hPc rfl rfl (m_X4_thrown l dC dI g cy s1746.1 _ hF) k_X4_thrown q1009 ⟨rfl, rfl⟩ ⟨Nat.le_of_ble_eq_true rfl, Nat.le_of_ble_eq_true rfl⟩ hl.1 rfl rfl (Nat.le_of_ble_eq_true rfl) dL_law_1752 ⟨by show _ ≤ 603072; omega, by show _ ≤ 7211114; omega⟩ (fun r1752 hF => ?_)
  refine lv_iload hx hb dL_law_1755 (lv_at hl 1 rfl) ?_
  refine lv_icmp_eq (tgt := 1762) hx hb dL_law_1757 (by decide) (fun cz => ?_) (fun cz => ?_)
  · have hF := hF.1 cz
    refine lv_iload hx hb dL_law_1762 (lv_at hl 1 rfl) ?_
    refine lv_if_ne (tgt := 1779) hx hb dL_law_1764 (by decide) (fun cz => ?_) (fun cz => ?_)
    · have hF := hF.1 cz
      refine lv_goto (tgt := 1951) hx hb dL_law_1779 (by decide) ?_
      refine W.widen (k := k0 + 30) (n := n0 + 480) (by omega) (by omega) ?_
      exact hJ _ _ _ hF _ _ _ hP hD hS (lv_sub hl [2, 3, 4, 5, 6] rfl)
    · have hF := hF.2 cz
      refine lv_aload_n hx hb dL_law_1767 rfl (lv_at hl 5 rfl) ?_
      refine lv_iconst (v := 0) hx hb dL_law_1768 (by decide) ?_
      refine va_lald hx hb hK.1 hP 21 1 rfl rfl (show vp_in 0 1 from vp_in_nI (n := 0) (by omega) (by omega)) dL_law_1769 ?_
      refine lv_iload hx hb dL_law_1770 (lv_at hl 0 rfl) ?_
      refine lv_i2l hx hb dL_law_1772 rfl ?_
      refine W.lcmp hx hb dL_law_1773 ?_
      refine lv_if_eq (tgt := 1779) hx hb dL_law_1774 (by decide) (fun cz => ?_) (fun cz => ?_)
      · have hF := hF.1 cz
        refine lv_goto (tgt := 1951) hx hb dL_law_1779 (by decide) ?_
        refine W.widen (k := k0 + 30) (n := n0 + 480) (by omega) (by omega) ?_
        exact hJ _ _ _ hF _ _ _ hP hD hS (lv_sub hl [2, 3, 4, 5, 6] rfl)
      · have hF := hF.2 cz
        refine lv_iconst (v := 0) hx hb dL_law_1777 (by decide) ?_
        exact hF.elim
  · have hF := hF.2 cz
    refine lv_iconst (v := 0) hx hb dL_law_1760 (by decide) ?_
    exact hF.elim
def wp_case38 (fu : Nat) (σ : SX) (f : Nat → Int64) (u : FX) (K : SX → (Nat → Int64) → FX → Prop) : Prop := (wp_L_faultAt fu σ f (fun r1784 s1784 f1784 => (wp_X4_faultAt fu u (fun r1790 s1790 => (wp_X4_thrown s1790.1 (fun r1796 => ((r1796 = r1784 → ((¬ r1784 = 0 → (K s1784 f1784 s1790)) ∧ (r1784 = 0 → (((lg_cmp (f1784 (0 : Int32).toNatClampNeg) r1790.toInt64) = 0 → (K s1784 f1784 s1790)) ∧ (¬ (lg_cmp (f1784 (0 : Int32).toNatClampNeg) r1790.toInt64) = 0 → False))))) ∧ (¬ r1796 = r1784 → False))))))))
set_option maxHeartbeats 4000000 in
set_option maxRecDepth 100000 in
theorem m_case38 {p : Program} {e9 : Env} {s : State} {m : MethodId} {below : List Frame} {meth : Method} {c : Code} (l : Launch) (hl9 : l.stackTraces = false) {dC : Nat → ClassId} {dI : Nat → Nat → Nat} {h g : Nat → Nat} {cy : Nat → ClassId} {sa z ad : Nat → Nat} {o b L fu i k0 n0 : Nat} {xs : Nat → Int32} {A : Nat → Prop} {Q : State → Prop} {a0 a1 a2 : Int32}
  (hC : Cx p s m #[Value.ref b] meth c RL code 9 ret) (hK : kwX dC dI cy s) (hXS : XS sa s) (hXZ : XZ A s s.heap) (hN : NCL s) (hZ : ZF z ad A s s.heap) (hvk : vk_R "PegshoreHouseModel" 92 "std" (z 4) s) (hX : va_X b L xs s s.heap) (hbl : b < s.heap.size) (hbA : ¬ A b) (hA : ∀ q : Nat, s.heap.size ≤ q → A q)
  (hi1 : vp_in (nI i + 1) L) (hi2 : vp_in (nI i + 2) L) (hx1 : xs (nI i + 1).toNatClampNeg = a1) (hx2 : xs (nI i + 2).toNatClampNeg = a2) (hk0 : k0 + 30 ≤ 603072) (hn0 : n0 + 480 ≤ 7211114)
  (K : SX → (Nat → Int64) → FX → Prop) (hJ : ∀ σ f u, K σ f u → ∀ (H : Heap) (locs : List Loc) (ls : Array Slot), va_P (dC, dI) classes (wH h cy σ ++ ([(o, .inl (cy 1, 1, .inr (.inl f)))] ++ (wC g cy u.1 ++ (wl ad cy (z 0) (g 20) u.2.1 ++ (wl ad cy (z 0) (g 21) u.2.2.1 ++ (wl ad cy (z 0) (g 22) u.2.2.2.1 ++ wS g cy u.2.2.2.2)))))) H → va_D A (wH h cy σ ++ ([(o, .inl (cy 1, 1, .inr (.inl f)))] ++ (wC g cy u.1 ++ (wl ad cy (z 0) (g 20) u.2.1 ++ (wl ad cy (z 0) (g 21) u.2.2.1 ++ (wl ad cy (z 0) (g 22) u.2.2.2.1 ++ wS g cy u.2.2.2.2)))))) → va_S A s.heap H locs → lv_has ls 9 [(0, .ref b), (1, .ref (h 16)), (2, .ref (g 0)), (3, .ref o), (4, .int (nI i))] → W p l e9 room_1 s m #[Value.ref b] below meth c H locs (k0 + 30) (n0 + 480) Q (F0 m 1951 ls [])) (σ : SX) (f : Nat → Int64) (u : FX) (hF : wp_case38 fu σ f u K) : ∀ (H : Heap) (locs : List Loc) (ls : Array Slot), va_P (dC, dI) classes (wH h cy σ ++ ([(o, .inl (cy 1, 1, .inr (.inl f)))] ++ (wC g cy u.1 ++ (wl ad cy (z 0) (g 20) u.2.1 ++ (wl ad cy (z 0) (g 21) u.2.2.1 ++ (wl ad cy (z 0) (g 22) u.2.2.2.1 ++ wS g cy u.2.2.2.2)))))) H → va_D A (wH h cy σ ++ ([(o, .inl (cy 1, 1, .inr (.inl f)))] ++ (wC g cy u.1 ++ (wl ad cy (z 0) (g 20) u.2.1 ++ (wl ad cy (z 0) (g 21) u.2.2.1 ++ (wl ad cy (z 0) (g 22) u.2.2.2.1 ++ wS g cy u.2.2.2.2)))))) → va_S A s.heap H locs → lv_has ls 9 [(0, .ref b), (1, .ref (h 16)), (2, .ref (g 0)), (3, .ref o), (4, .int (nI i))] → W p l e9 room_1 s m #[Value.ref b] below meth c H locs k0 n0 Q (F0 m 1782 ls []) := by
  intro H locs ls hP hD hS hl
  have hx := hC.1
  have hb := hC.2.1
  have hml := hC.2.2.2.1
  have hown := hC.2.2.2.2.1
  have hts := hC.2.2.2.2.2.1
  unfold wp_case38 at hF
  refine lv_aload_n hx hb dL_law_1782 rfl (lv_at hl 1 rfl) ?_
  refine lv_aload_n hx hb dL_law_1783 rfl (lv_at hl 3 rfl) ?_
  refine lwWrap (x := wO h cy o σ f) (wn := fun (u : SX × (Nat → Int64)) => wO h cy o u.1 u.2) (As := [.ref (h 16), .ref o]) (rest := []) (fpA _ _ _) hC hK hXS hXZ hN hP hD hS hA (m_L_faultAt l hl9 dC dI h cy sa o _ fu σ f _ hF) k_L_faultAt q853 ⟨rfl, rfl⟩ ⟨Nat.le_of_ble_eq_true rfl, Nat.le_of_ble_eq_true rfl⟩ hl.1 rfl rfl (Nat.le_of_ble_eq_true rfl) dL_law_1784 ⟨by show _ ≤ 603072; omega, by show _ ≤ 7211114; omega⟩ (fun r1784 v9 H1 locs hF hP1 hD1 hS => ?_)
  obtain ⟨s1784, f1784⟩ := v9
  have hP := va_P.perm (fpA _ _ _).symm hP1
  have hD := va_D.perm (fpA _ _ _).symm hD1
  generalize H1 = H at hP hS ⊢
  have hP : va_P (dC, dI) classes (wH h cy s1784 ++ ([(o, .inl (cy 1, 1, .inr (.inl f1784)))] ++ (wC g cy u.1 ++ (wl ad cy (z 0) (g 20) u.2.1 ++ (wl ad cy (z 0) (g 21) u.2.2.1 ++ (wl ad cy (z 0) (g 22) u.2.2.2.1 ++ wS g cy u.2.2.2.2)))))) H := hP
  have hD : va_D A (wH h cy s1784 ++ ([(o, .inl (cy 1, 1, .inr (.inl f1784)))] ++ (wC g cy u.1 ++ (wl ad cy (z 0) (g 20) u.2.1 ++ (wl ad cy (z 0) (g 21) u.2.2.1 ++ (wl ad cy (z 0) (g 22) u.2.2.2.1 ++ wS g cy u.2.2.2.2)))))) := hD
  refine lv_istore (lv' := [(5, .int r1784), (0, .ref b), (1, .ref (h 16)), (2, .ref (g 0)), (3, .ref o), (4, .int (nI i))]) hx hb dL_law_1787 hl (by decide) rfl (fun ls hl => ?_)
  refine lv_aload_n hx hb dL_law_1789 rfl (lv_at hl 3 rfl) ?_
  refine cfVi (x := wC g cy u.1 ++ (wl ad cy (z 0) (g 20) u.2.1 ++ (wl ad cy (z 0) (g 21) u.2.2.1 ++ (wl ad cy (z 0) (g 22) u.2.2.2.1 ++ wS g cy u.2.2.2.2)))) (As := []) (rest := []) (fpF _ _ _) hC hK hP hD hZ hvk hS hA rfl (m_X4_faultAt l dC dI g cy z ad _ fu u _ hF) k_X4_faultAt q1810 ⟨rfl, rfl⟩ ⟨Nat.le_of_ble_eq_true rfl, Nat.le_of_ble_eq_true rfl⟩ hl.1 rfl rfl (Nat.le_of_ble_eq_true rfl) dL_law_1790 ⟨by show _ ≤ 603072; omega, by show _ ≤ 7211114; omega⟩ (fun r1790 s1790 H1 locs hF hP1 hD1 hS => ?_)
  have hP := va_P.perm (fpF _ _ _).symm hP1
  have hD := va_D.perm (fpF _ _ _).symm hD1
  generalize H1 = H at hP hS ⊢
  have hP : va_P (dC, dI) classes (wH h cy s1784 ++ ([(o, .inl (cy 1, 1, .inr (.inl f1784)))] ++ (wC g cy s1790.1 ++ (wl ad cy (z 0) (g 20) s1790.2.1 ++ (wl ad cy (z 0) (g 21) s1790.2.2.1 ++ (wl ad cy (z 0) (g 22) s1790.2.2.2.1 ++ wS g cy s1790.2.2.2.2)))))) H := hP
  have hD : va_D A (wH h cy s1784 ++ ([(o, .inl (cy 1, 1, .inr (.inl f1784)))] ++ (wC g cy s1790.1 ++ (wl ad cy (z 0) (g 20) s1790.2.1 ++ (wl ad cy (z 0) (g 21) s1790.2.2.1 ++ (wl ad cy (z 0) (g 22) s1790.2.2.2.1 ++ wS g cy s1790.2.2.2.2)))))) := hD
  refine lv_istore (lv' := [(6, .int r1790), (5, .int r1784), (0, .ref b), (1, .ref (h 16)), (2, .ref (g 0)), (3, .ref o), (4, .int (nI i))]) hx hb dL_law_1793 hl (by decide) rfl (fun ls hl => ?_)
  refine lv_aload_n hx hb dL_law_1795 rfl (lv_at hl 4 rfl) ?_
  have hPc := fw_get (fp2 _ _ _ _) hP
  refine cpVi (q0 := 0) (As := []) (rest := []) hC hK hPc rfl rfl (m_X4_thrown l dC dI g cy s1790.1 _ hF) k_X4_thrown q1009 ⟨rfl, rfl⟩ ⟨Nat.le_of_ble_eq_true rfl, Nat.le_of_ble_eq_true rfl⟩ hl.1 rfl rfl (Nat.le_of_ble_eq_true rfl) dL_law_1796 ⟨by show _ ≤ 603072; omega, by show _ ≤ 7211114; omega⟩ (fun r1796 hF => ?_)
  refine lv_iload hx hb dL_law_1799 (lv_at hl 1 rfl) ?_
  refine lv_icmp_eq (tgt := 1806) hx hb dL_law_1801 (by decide) (fun cz => ?_) (fun cz => ?_)
  · have hF := hF.1 cz
    refine lv_iload hx hb dL_law_1806 (lv_at hl 1 rfl) ?_
    refine lv_if_ne (tgt := 1823) hx hb dL_law_1808 (by decide) (fun cz => ?_) (fun cz => ?_)
    · have hF := hF.1 cz
      refine lv_goto (tgt := 1951) hx hb dL_law_1823 (by decide) ?_
      refine W.widen (k := k0 + 30) (n := n0 + 480) (by omega) (by omega) ?_
      exact hJ _ _ _ hF _ _ _ hP hD hS (lv_sub hl [2, 3, 4, 5, 6] rfl)
    · have hF := hF.2 cz
      refine lv_aload_n hx hb dL_law_1811 rfl (lv_at hl 5 rfl) ?_
      refine lv_iconst (v := 0) hx hb dL_law_1812 (by decide) ?_
      refine va_lald hx hb hK.1 hP 21 1 rfl rfl (show vp_in 0 1 from vp_in_nI (n := 0) (by omega) (by omega)) dL_law_1813 ?_
      refine lv_iload hx hb dL_law_1814 (lv_at hl 0 rfl) ?_
      refine lv_i2l hx hb dL_law_1816 rfl ?_
      refine W.lcmp hx hb dL_law_1817 ?_
      refine lv_if_eq (tgt := 1823) hx hb dL_law_1818 (by decide) (fun cz => ?_) (fun cz => ?_)
      · have hF := hF.1 cz
        refine lv_goto (tgt := 1951) hx hb dL_law_1823 (by decide) ?_
        refine W.widen (k := k0 + 30) (n := n0 + 480) (by omega) (by omega) ?_
        exact hJ _ _ _ hF _ _ _ hP hD hS (lv_sub hl [2, 3, 4, 5, 6] rfl)
      · have hF := hF.2 cz
        refine lv_iconst (v := 0) hx hb dL_law_1821 (by decide) ?_
        exact hF.elim
  · have hF := hF.2 cz
    refine lv_iconst (v := 0) hx hb dL_law_1804 (by decide) ?_
    exact hF.elim
def wp_case39 (σ : SX) (f : Nat → Int64) (u : FX) (K : SX → (Nat → Int64) → FX → Prop) : Prop := (wp_X3_clear σ (fun r1827 s1827 => (wp_X4_clear u (fun r1831 s1831 => ((r1827 = r1831 → (K s1827 f s1831)) ∧ (¬ r1827 = r1831 → False))))))
set_option maxHeartbeats 4000000 in
set_option maxRecDepth 100000 in
theorem m_case39 {p : Program} {e9 : Env} {s : State} {m : MethodId} {below : List Frame} {meth : Method} {c : Code} (l : Launch) (hl9 : l.stackTraces = false) {dC : Nat → ClassId} {dI : Nat → Nat → Nat} {h g : Nat → Nat} {cy : Nat → ClassId} {sa z ad : Nat → Nat} {o b L fu i k0 n0 : Nat} {xs : Nat → Int32} {A : Nat → Prop} {Q : State → Prop} {a0 a1 a2 : Int32}
  (hC : Cx p s m #[Value.ref b] meth c RL code 9 ret) (hK : kwX dC dI cy s) (hXS : XS sa s) (hXZ : XZ A s s.heap) (hN : NCL s) (hZ : ZF z ad A s s.heap) (hvk : vk_R "PegshoreHouseModel" 92 "std" (z 4) s) (hX : va_X b L xs s s.heap) (hbl : b < s.heap.size) (hbA : ¬ A b) (hA : ∀ q : Nat, s.heap.size ≤ q → A q)
  (hi1 : vp_in (nI i + 1) L) (hi2 : vp_in (nI i + 2) L) (hx1 : xs (nI i + 1).toNatClampNeg = a1) (hx2 : xs (nI i + 2).toNatClampNeg = a2) (hk0 : k0 + 30 ≤ 603072) (hn0 : n0 + 480 ≤ 7211114)
  (K : SX → (Nat → Int64) → FX → Prop) (hJ : ∀ σ f u, K σ f u → ∀ (H : Heap) (locs : List Loc) (ls : Array Slot), va_P (dC, dI) classes (wH h cy σ ++ ([(o, .inl (cy 1, 1, .inr (.inl f)))] ++ (wC g cy u.1 ++ (wl ad cy (z 0) (g 20) u.2.1 ++ (wl ad cy (z 0) (g 21) u.2.2.1 ++ (wl ad cy (z 0) (g 22) u.2.2.2.1 ++ wS g cy u.2.2.2.2)))))) H → va_D A (wH h cy σ ++ ([(o, .inl (cy 1, 1, .inr (.inl f)))] ++ (wC g cy u.1 ++ (wl ad cy (z 0) (g 20) u.2.1 ++ (wl ad cy (z 0) (g 21) u.2.2.1 ++ (wl ad cy (z 0) (g 22) u.2.2.2.1 ++ wS g cy u.2.2.2.2)))))) → va_S A s.heap H locs → lv_has ls 9 [(0, .ref b), (1, .ref (h 16)), (2, .ref (g 0)), (3, .ref o), (4, .int (nI i))] → W p l e9 room_1 s m #[Value.ref b] below meth c H locs (k0 + 30) (n0 + 480) Q (F0 m 1951 ls [])) (σ : SX) (f : Nat → Int64) (u : FX) (hF : wp_case39 σ f u K) : ∀ (H : Heap) (locs : List Loc) (ls : Array Slot), va_P (dC, dI) classes (wH h cy σ ++ ([(o, .inl (cy 1, 1, .inr (.inl f)))] ++ (wC g cy u.1 ++ (wl ad cy (z 0) (g 20) u.2.1 ++ (wl ad cy (z 0) (g 21) u.2.2.1 ++ (wl ad cy (z 0) (g 22) u.2.2.2.1 ++ wS g cy u.2.2.2.2)))))) H → va_D A (wH h cy σ ++ ([(o, .inl (cy 1, 1, .inr (.inl f)))] ++ (wC g cy u.1 ++ (wl ad cy (z 0) (g 20) u.2.1 ++ (wl ad cy (z 0) (g 21) u.2.2.1 ++ (wl ad cy (z 0) (g 22) u.2.2.2.1 ++ wS g cy u.2.2.2.2)))))) → va_S A s.heap H locs → lv_has ls 9 [(0, .ref b), (1, .ref (h 16)), (2, .ref (g 0)), (3, .ref o), (4, .int (nI i))] → W p l e9 room_1 s m #[Value.ref b] below meth c H locs k0 n0 Q (F0 m 1826 ls []) := by
  intro H locs ls hP hD hS hl
  have hx := hC.1
  have hb := hC.2.1
  have hml := hC.2.2.2.1
  have hown := hC.2.2.2.2.1
  have hts := hC.2.2.2.2.2.1
  unfold wp_case39 at hF
  refine lv_aload_n hx hb dL_law_1826 rfl (lv_at hl 1 rfl) ?_
  have hPc := fw_get (fp0 _ _) hP
  have hDc := fw_getD (fp0 _ _) hD
  have hFc := fw_free (fp0 _ _) hD hS hA
  refine cwVi (q0 := 16) (As := []) (rest := []) hC hK hPc hDc rfl rfl hS hFc (m_X3_clear l dC dI h cy _ σ _ hF) k_X3_clear q337 ⟨rfl, rfl⟩ ⟨Nat.le_of_ble_eq_true rfl, Nat.le_of_ble_eq_true rfl⟩ hl.1 rfl rfl (Nat.le_of_ble_eq_true rfl) dL_law_1827 ⟨by show _ ≤ 603072; omega, by show _ ≤ 7211114; omega⟩ (fun r1827 s1827 H1 locs hF hP9 hD9 hk1 hS => ?_)
  obtain ⟨hP1, hD1⟩ := fw_join (fp0 _ _) hP hD hk1 hFc hP9 hD9
  have hP := va_P.perm (fp0 _ _).symm hP1
  have hD := va_D.perm (fp0 _ _).symm hD1
  generalize H1 = H at hP hS ⊢
  have hP : va_P (dC, dI) classes (wH h cy s1827 ++ ([(o, .inl (cy 1, 1, .inr (.inl f)))] ++ (wC g cy u.1 ++ (wl ad cy (z 0) (g 20) u.2.1 ++ (wl ad cy (z 0) (g 21) u.2.2.1 ++ (wl ad cy (z 0) (g 22) u.2.2.2.1 ++ wS g cy u.2.2.2.2)))))) H := hP
  have hD : va_D A (wH h cy s1827 ++ ([(o, .inl (cy 1, 1, .inr (.inl f)))] ++ (wC g cy u.1 ++ (wl ad cy (z 0) (g 20) u.2.1 ++ (wl ad cy (z 0) (g 21) u.2.2.1 ++ (wl ad cy (z 0) (g 22) u.2.2.2.1 ++ wS g cy u.2.2.2.2)))))) := hD
  refine lv_aload_n hx hb dL_law_1830 rfl (lv_at hl 2 rfl) ?_
  refine cfVi (x := wC g cy u.1 ++ (wl ad cy (z 0) (g 20) u.2.1 ++ (wl ad cy (z 0) (g 21) u.2.2.1 ++ (wl ad cy (z 0) (g 22) u.2.2.2.1 ++ wS g cy u.2.2.2.2)))) (As := []) (rest := [.int r1827]) (fpF _ _ _) hC hK hP hD hZ hvk hS hA rfl (m_X4_clear l dC dI g cy z ad _ u _ hF) k_X4_clear q1814 ⟨rfl, rfl⟩ ⟨Nat.le_of_ble_eq_true rfl, Nat.le_of_ble_eq_true rfl⟩ hl.1 rfl rfl (Nat.le_of_ble_eq_true rfl) dL_law_1831 ⟨by show _ ≤ 603072; omega, by show _ ≤ 7211114; omega⟩ (fun r1831 s1831 H1 locs hF hP1 hD1 hS => ?_)
  have hP := va_P.perm (fpF _ _ _).symm hP1
  have hD := va_D.perm (fpF _ _ _).symm hD1
  generalize H1 = H at hP hS ⊢
  have hP : va_P (dC, dI) classes (wH h cy s1827 ++ ([(o, .inl (cy 1, 1, .inr (.inl f)))] ++ (wC g cy s1831.1 ++ (wl ad cy (z 0) (g 20) s1831.2.1 ++ (wl ad cy (z 0) (g 21) s1831.2.2.1 ++ (wl ad cy (z 0) (g 22) s1831.2.2.2.1 ++ wS g cy s1831.2.2.2.2)))))) H := hP
  have hD : va_D A (wH h cy s1827 ++ ([(o, .inl (cy 1, 1, .inr (.inl f)))] ++ (wC g cy s1831.1 ++ (wl ad cy (z 0) (g 20) s1831.2.1 ++ (wl ad cy (z 0) (g 21) s1831.2.2.1 ++ (wl ad cy (z 0) (g 22) s1831.2.2.2.1 ++ wS g cy s1831.2.2.2.2)))))) := hD
  refine lv_icmp_eq (tgt := 1951) hx hb dL_law_1834 (by decide) (fun cz => ?_) (fun cz => ?_)
  · have hF := hF.1 cz
    refine W.widen (k := k0 + 30) (n := n0 + 480) (by omega) (by omega) ?_
    exact hJ _ _ _ hF _ _ _ hP hD hS (lv_sub hl [0, 1, 2, 3, 4] rfl)
  · have hF := hF.2 cz
    refine lv_iconst (v := 0) hx hb dL_law_1837 (by decide) ?_
    exact hF.elim
def wp_case40 (fu : Nat) (σ : SX) (f : Nat → Int64) (u : FX) (K : SX → (Nat → Int64) → FX → Prop) : Prop := (wp_X3_checksum fu σ (fun r1840 => (wp_X4_checksum fu u (fun r1844 s1844 => (((lg_cmp r1840 r1844) = 0 → (K σ f s1844)) ∧ (¬ (lg_cmp r1840 r1844) = 0 → False))))))
set_option maxHeartbeats 4000000 in
set_option maxRecDepth 100000 in
theorem m_case40 {p : Program} {e9 : Env} {s : State} {m : MethodId} {below : List Frame} {meth : Method} {c : Code} (l : Launch) (hl9 : l.stackTraces = false) {dC : Nat → ClassId} {dI : Nat → Nat → Nat} {h g : Nat → Nat} {cy : Nat → ClassId} {sa z ad : Nat → Nat} {o b L fu i k0 n0 : Nat} {xs : Nat → Int32} {A : Nat → Prop} {Q : State → Prop} {a0 a1 a2 : Int32}
  (hC : Cx p s m #[Value.ref b] meth c RL code 9 ret) (hK : kwX dC dI cy s) (hXS : XS sa s) (hXZ : XZ A s s.heap) (hN : NCL s) (hZ : ZF z ad A s s.heap) (hvk : vk_R "PegshoreHouseModel" 92 "std" (z 4) s) (hX : va_X b L xs s s.heap) (hbl : b < s.heap.size) (hbA : ¬ A b) (hA : ∀ q : Nat, s.heap.size ≤ q → A q)
  (hi1 : vp_in (nI i + 1) L) (hi2 : vp_in (nI i + 2) L) (hx1 : xs (nI i + 1).toNatClampNeg = a1) (hx2 : xs (nI i + 2).toNatClampNeg = a2) (hk0 : k0 + 30 ≤ 603072) (hn0 : n0 + 480 ≤ 7211114)
  (K : SX → (Nat → Int64) → FX → Prop) (hJ : ∀ σ f u, K σ f u → ∀ (H : Heap) (locs : List Loc) (ls : Array Slot), va_P (dC, dI) classes (wH h cy σ ++ ([(o, .inl (cy 1, 1, .inr (.inl f)))] ++ (wC g cy u.1 ++ (wl ad cy (z 0) (g 20) u.2.1 ++ (wl ad cy (z 0) (g 21) u.2.2.1 ++ (wl ad cy (z 0) (g 22) u.2.2.2.1 ++ wS g cy u.2.2.2.2)))))) H → va_D A (wH h cy σ ++ ([(o, .inl (cy 1, 1, .inr (.inl f)))] ++ (wC g cy u.1 ++ (wl ad cy (z 0) (g 20) u.2.1 ++ (wl ad cy (z 0) (g 21) u.2.2.1 ++ (wl ad cy (z 0) (g 22) u.2.2.2.1 ++ wS g cy u.2.2.2.2)))))) → va_S A s.heap H locs → lv_has ls 9 [(0, .ref b), (1, .ref (h 16)), (2, .ref (g 0)), (3, .ref o), (4, .int (nI i))] → W p l e9 room_1 s m #[Value.ref b] below meth c H locs (k0 + 30) (n0 + 480) Q (F0 m 1951 ls [])) (σ : SX) (f : Nat → Int64) (u : FX) (hF : wp_case40 fu σ f u K) : ∀ (H : Heap) (locs : List Loc) (ls : Array Slot), va_P (dC, dI) classes (wH h cy σ ++ ([(o, .inl (cy 1, 1, .inr (.inl f)))] ++ (wC g cy u.1 ++ (wl ad cy (z 0) (g 20) u.2.1 ++ (wl ad cy (z 0) (g 21) u.2.2.1 ++ (wl ad cy (z 0) (g 22) u.2.2.2.1 ++ wS g cy u.2.2.2.2)))))) H → va_D A (wH h cy σ ++ ([(o, .inl (cy 1, 1, .inr (.inl f)))] ++ (wC g cy u.1 ++ (wl ad cy (z 0) (g 20) u.2.1 ++ (wl ad cy (z 0) (g 21) u.2.2.1 ++ (wl ad cy (z 0) (g 22) u.2.2.2.1 ++ wS g cy u.2.2.2.2)))))) → va_S A s.heap H locs → lv_has ls 9 [(0, .ref b), (1, .ref (h 16)), (2, .ref (g 0)), (3, .ref o), (4, .int (nI i))] → W p l e9 room_1 s m #[Value.ref b] below meth c H locs k0 n0 Q (F0 m 1839 ls []) := by
  intro H locs ls hP hD hS hl
  have hx := hC.1
  have hb := hC.2.1
  have hml := hC.2.2.2.1
  have hown := hC.2.2.2.2.1
  have hts := hC.2.2.2.2.2.1
  unfold wp_case40 at hF
  refine lv_aload_n hx hb dL_law_1839 rfl (lv_at hl 1 rfl) ?_
  have hPc := fw_get (fp0 _ _) hP
  refine cpVl (q0 := 16) (As := []) (rest := []) hC hK hPc rfl rfl (m_X3_checksum l dC dI h cy fu σ _ hF) k_X3_checksum q345 ⟨rfl, rfl⟩ ⟨Nat.le_of_ble_eq_true rfl, Nat.le_of_ble_eq_true rfl⟩ hl.1 rfl rfl (Nat.le_of_ble_eq_true rfl) dL_law_1840 ⟨by show _ ≤ 603072; omega, by show _ ≤ 7211114; omega⟩ (fun r1840 hF => ?_)
  refine lv_aload_n hx hb dL_law_1843 rfl (lv_at hl 2 rfl) ?_
  refine cfVl (x := wC g cy u.1 ++ (wl ad cy (z 0) (g 20) u.2.1 ++ (wl ad cy (z 0) (g 21) u.2.2.1 ++ (wl ad cy (z 0) (g 22) u.2.2.2.1 ++ wS g cy u.2.2.2.2)))) (As := []) (rest := [.long r1840]) (fpF _ _ _) hC hK hP hD hZ hvk hS hA rfl (m_X4_checksum l dC dI g cy z ad _ fu u _ hF) k_X4_checksum q1818 ⟨rfl, rfl⟩ ⟨Nat.le_of_ble_eq_true rfl, Nat.le_of_ble_eq_true rfl⟩ hl.1 rfl rfl (Nat.le_of_ble_eq_true rfl) dL_law_1844 ⟨by show _ ≤ 603072; omega, by show _ ≤ 7211114; omega⟩ (fun r1844 s1844 H1 locs hF hP1 hD1 hS => ?_)
  have hP := va_P.perm (fpF _ _ _).symm hP1
  have hD := va_D.perm (fpF _ _ _).symm hD1
  generalize H1 = H at hP hS ⊢
  have hP : va_P (dC, dI) classes (wH h cy σ ++ ([(o, .inl (cy 1, 1, .inr (.inl f)))] ++ (wC g cy s1844.1 ++ (wl ad cy (z 0) (g 20) s1844.2.1 ++ (wl ad cy (z 0) (g 21) s1844.2.2.1 ++ (wl ad cy (z 0) (g 22) s1844.2.2.2.1 ++ wS g cy s1844.2.2.2.2)))))) H := hP
  have hD : va_D A (wH h cy σ ++ ([(o, .inl (cy 1, 1, .inr (.inl f)))] ++ (wC g cy s1844.1 ++ (wl ad cy (z 0) (g 20) s1844.2.1 ++ (wl ad cy (z 0) (g 21) s1844.2.2.1 ++ (wl ad cy (z 0) (g 22) s1844.2.2.2.1 ++ wS g cy s1844.2.2.2.2)))))) := hD
  refine W.lcmp hx hb dL_law_1847 ?_
  refine lv_if_eq (tgt := 1951) hx hb dL_law_1848 (by decide) (fun cz => ?_) (fun cz => ?_)
  · have hF := hF.1 cz
    refine W.widen (k := k0 + 30) (n := n0 + 480) (by omega) (by omega) ?_
    exact hJ _ _ _ hF _ _ _ hP hD hS (lv_sub hl [0, 1, 2, 3, 4] rfl)
  · have hF := hF.2 cz
    refine lv_iconst (v := 0) hx hb dL_law_1851 (by decide) ?_
    exact hF.elim
def wp_case41 (fu : Nat) (σ : SX) (f : Nat → Int64) (u : FX) (K : SX → (Nat → Int64) → FX → Prop) : Prop := (wp_L_pegBits fu σ f (fun r1855 s1855 f1855 => (wp_X4_pegBits u.1 (fun r1861 s1861 => (wp_X4_thrown ((s1861, u.2).1) (fun r1867 => ((r1867 = r1855 → ((¬ r1855 = 0 → (K s1855 f1855 (s1861, u.2))) ∧ (r1855 = 0 → (((lg_cmp (f1855 (0 : Int32).toNatClampNeg) r1861.toInt64) = 0 → (K s1855 f1855 (s1861, u.2))) ∧ (¬ (lg_cmp (f1855 (0 : Int32).toNatClampNeg) r1861.toInt64) = 0 → False))))) ∧ (¬ r1867 = r1855 → False))))))))
set_option maxHeartbeats 4000000 in
set_option maxRecDepth 100000 in
theorem m_case41 {p : Program} {e9 : Env} {s : State} {m : MethodId} {below : List Frame} {meth : Method} {c : Code} (l : Launch) (hl9 : l.stackTraces = false) {dC : Nat → ClassId} {dI : Nat → Nat → Nat} {h g : Nat → Nat} {cy : Nat → ClassId} {sa z ad : Nat → Nat} {o b L fu i k0 n0 : Nat} {xs : Nat → Int32} {A : Nat → Prop} {Q : State → Prop} {a0 a1 a2 : Int32}
  (hC : Cx p s m #[Value.ref b] meth c RL code 9 ret) (hK : kwX dC dI cy s) (hXS : XS sa s) (hXZ : XZ A s s.heap) (hN : NCL s) (hZ : ZF z ad A s s.heap) (hvk : vk_R "PegshoreHouseModel" 92 "std" (z 4) s) (hX : va_X b L xs s s.heap) (hbl : b < s.heap.size) (hbA : ¬ A b) (hA : ∀ q : Nat, s.heap.size ≤ q → A q)
  (hi1 : vp_in (nI i + 1) L) (hi2 : vp_in (nI i + 2) L) (hx1 : xs (nI i + 1).toNatClampNeg = a1) (hx2 : xs (nI i + 2).toNatClampNeg = a2) (hk0 : k0 + 30 ≤ 603072) (hn0 : n0 + 480 ≤ 7211114)
  (K : SX → (Nat → Int64) → FX → Prop) (hJ : ∀ σ f u, K σ f u → ∀ (H : Heap) (locs : List Loc) (ls : Array Slot), va_P (dC, dI) classes (wH h cy σ ++ ([(o, .inl (cy 1, 1, .inr (.inl f)))] ++ (wC g cy u.1 ++ (wl ad cy (z 0) (g 20) u.2.1 ++ (wl ad cy (z 0) (g 21) u.2.2.1 ++ (wl ad cy (z 0) (g 22) u.2.2.2.1 ++ wS g cy u.2.2.2.2)))))) H → va_D A (wH h cy σ ++ ([(o, .inl (cy 1, 1, .inr (.inl f)))] ++ (wC g cy u.1 ++ (wl ad cy (z 0) (g 20) u.2.1 ++ (wl ad cy (z 0) (g 21) u.2.2.1 ++ (wl ad cy (z 0) (g 22) u.2.2.2.1 ++ wS g cy u.2.2.2.2)))))) → va_S A s.heap H locs → lv_has ls 9 [(0, .ref b), (1, .ref (h 16)), (2, .ref (g 0)), (3, .ref o), (4, .int (nI i))] → W p l e9 room_1 s m #[Value.ref b] below meth c H locs (k0 + 30) (n0 + 480) Q (F0 m 1951 ls [])) (σ : SX) (f : Nat → Int64) (u : FX) (hF : wp_case41 fu σ f u K) : ∀ (H : Heap) (locs : List Loc) (ls : Array Slot), va_P (dC, dI) classes (wH h cy σ ++ ([(o, .inl (cy 1, 1, .inr (.inl f)))] ++ (wC g cy u.1 ++ (wl ad cy (z 0) (g 20) u.2.1 ++ (wl ad cy (z 0) (g 21) u.2.2.1 ++ (wl ad cy (z 0) (g 22) u.2.2.2.1 ++ wS g cy u.2.2.2.2)))))) H → va_D A (wH h cy σ ++ ([(o, .inl (cy 1, 1, .inr (.inl f)))] ++ (wC g cy u.1 ++ (wl ad cy (z 0) (g 20) u.2.1 ++ (wl ad cy (z 0) (g 21) u.2.2.1 ++ (wl ad cy (z 0) (g 22) u.2.2.2.1 ++ wS g cy u.2.2.2.2)))))) → va_S A s.heap H locs → lv_has ls 9 [(0, .ref b), (1, .ref (h 16)), (2, .ref (g 0)), (3, .ref o), (4, .int (nI i))] → W p l e9 room_1 s m #[Value.ref b] below meth c H locs k0 n0 Q (F0 m 1853 ls []) := by
  intro H locs ls hP hD hS hl
  have hx := hC.1
  have hb := hC.2.1
  have hml := hC.2.2.2.1
  have hown := hC.2.2.2.2.1
  have hts := hC.2.2.2.2.2.1
  unfold wp_case41 at hF
  refine lv_aload_n hx hb dL_law_1853 rfl (lv_at hl 1 rfl) ?_
  refine lv_aload_n hx hb dL_law_1854 rfl (lv_at hl 3 rfl) ?_
  refine lwWrap (x := wO h cy o σ f) (wn := fun (u : SX × (Nat → Int64)) => wO h cy o u.1 u.2) (As := [.ref (h 16), .ref o]) (rest := []) (fpA _ _ _) hC hK hXS hXZ hN hP hD hS hA (m_L_pegBits l hl9 dC dI h cy sa o _ fu σ f _ hF) k_L_pegBits q861 ⟨rfl, rfl⟩ ⟨Nat.le_of_ble_eq_true rfl, Nat.le_of_ble_eq_true rfl⟩ hl.1 rfl rfl (Nat.le_of_ble_eq_true rfl) dL_law_1855 ⟨by show _ ≤ 603072; omega, by show _ ≤ 7211114; omega⟩ (fun r1855 v9 H1 locs hF hP1 hD1 hS => ?_)
  obtain ⟨s1855, f1855⟩ := v9
  have hP := va_P.perm (fpA _ _ _).symm hP1
  have hD := va_D.perm (fpA _ _ _).symm hD1
  generalize H1 = H at hP hS ⊢
  have hP : va_P (dC, dI) classes (wH h cy s1855 ++ ([(o, .inl (cy 1, 1, .inr (.inl f1855)))] ++ (wC g cy u.1 ++ (wl ad cy (z 0) (g 20) u.2.1 ++ (wl ad cy (z 0) (g 21) u.2.2.1 ++ (wl ad cy (z 0) (g 22) u.2.2.2.1 ++ wS g cy u.2.2.2.2)))))) H := hP
  have hD : va_D A (wH h cy s1855 ++ ([(o, .inl (cy 1, 1, .inr (.inl f1855)))] ++ (wC g cy u.1 ++ (wl ad cy (z 0) (g 20) u.2.1 ++ (wl ad cy (z 0) (g 21) u.2.2.1 ++ (wl ad cy (z 0) (g 22) u.2.2.2.1 ++ wS g cy u.2.2.2.2)))))) := hD
  refine lv_istore (lv' := [(5, .int r1855), (0, .ref b), (1, .ref (h 16)), (2, .ref (g 0)), (3, .ref o), (4, .int (nI i))]) hx hb dL_law_1858 hl (by decide) rfl (fun ls hl => ?_)
  refine lv_aload_n hx hb dL_law_1860 rfl (lv_at hl 3 rfl) ?_
  have hPc := fw_get (fp2 _ _ _ _) hP
  have hDc := fw_getD (fp2 _ _ _ _) hD
  have hFc := fw_free (fp2 _ _ _ _) hD hS hA
  refine cwVi (q0 := 0) (As := []) (rest := []) hC hK hPc hDc rfl rfl hS hFc (m_X4_pegBits l dC dI g cy _ u.1 _ hF) k_X4_pegBits q1824 ⟨rfl, rfl⟩ ⟨Nat.le_of_ble_eq_true rfl, Nat.le_of_ble_eq_true rfl⟩ hl.1 rfl rfl (Nat.le_of_ble_eq_true rfl) dL_law_1861 ⟨by show _ ≤ 603072; omega, by show _ ≤ 7211114; omega⟩ (fun r1861 s1861 H1 locs hF hP9 hD9 hk1 hS => ?_)
  obtain ⟨hP1, hD1⟩ := fw_join (fp2 _ _ _ _) hP hD hk1 hFc hP9 hD9
  have hP := va_P.perm (fp2 _ _ _ _).symm hP1
  have hD := va_D.perm (fp2 _ _ _ _).symm hD1
  generalize H1 = H at hP hS ⊢
  have hP : va_P (dC, dI) classes (wH h cy s1855 ++ ([(o, .inl (cy 1, 1, .inr (.inl f1855)))] ++ (wC g cy (s1861, u.2).1 ++ (wl ad cy (z 0) (g 20) (s1861, u.2).2.1 ++ (wl ad cy (z 0) (g 21) (s1861, u.2).2.2.1 ++ (wl ad cy (z 0) (g 22) (s1861, u.2).2.2.2.1 ++ wS g cy (s1861, u.2).2.2.2.2)))))) H := hP
  have hD : va_D A (wH h cy s1855 ++ ([(o, .inl (cy 1, 1, .inr (.inl f1855)))] ++ (wC g cy (s1861, u.2).1 ++ (wl ad cy (z 0) (g 20) (s1861, u.2).2.1 ++ (wl ad cy (z 0) (g 21) (s1861, u.2).2.2.1 ++ (wl ad cy (z 0) (g 22) (s1861, u.2).2.2.2.1 ++ wS g cy (s1861, u.2).2.2.2.2)))))) := hD
  refine lv_istore (lv' := [(6, .int r1861), (5, .int r1855), (0, .ref b), (1, .ref (h 16)), (2, .ref (g 0)), (3, .ref o), (4, .int (nI i))]) hx hb dL_law_1864 hl (by decide) rfl (fun ls hl => ?_)
  refine lv_aload_n hx hb dL_law_1866 rfl (lv_at hl 4 rfl) ?_
  have hPc := fw_get (fp2 _ _ _ _) hP
  refine cpVi (q0 := 0) (As := []) (rest := []) hC hK hPc rfl rfl (m_X4_thrown l dC dI g cy ((s1861, u.2).1) _ hF) k_X4_thrown q1009 ⟨rfl, rfl⟩ ⟨Nat.le_of_ble_eq_true rfl, Nat.le_of_ble_eq_true rfl⟩ hl.1 rfl rfl (Nat.le_of_ble_eq_true rfl) dL_law_1867 ⟨by show _ ≤ 603072; omega, by show _ ≤ 7211114; omega⟩ (fun r1867 hF => ?_)
  refine lv_iload hx hb dL_law_1870 (lv_at hl 1 rfl) ?_
  refine lv_icmp_eq (tgt := 1877) hx hb dL_law_1872 (by decide) (fun cz => ?_) (fun cz => ?_)
  · have hF := hF.1 cz
    refine lv_iload hx hb dL_law_1877 (lv_at hl 1 rfl) ?_
    refine lv_if_ne (tgt := 1894) hx hb dL_law_1879 (by decide) (fun cz => ?_) (fun cz => ?_)
    · have hF := hF.1 cz
      refine lv_goto (tgt := 1951) hx hb dL_law_1894 (by decide) ?_
      refine W.widen (k := k0 + 30) (n := n0 + 480) (by omega) (by omega) ?_
      exact hJ _ _ _ hF _ _ _ hP hD hS (lv_sub hl [2, 3, 4, 5, 6] rfl)
    · have hF := hF.2 cz
      refine lv_aload_n hx hb dL_law_1882 rfl (lv_at hl 5 rfl) ?_
      refine lv_iconst (v := 0) hx hb dL_law_1883 (by decide) ?_
      refine va_lald hx hb hK.1 hP 21 1 rfl rfl (show vp_in 0 1 from vp_in_nI (n := 0) (by omega) (by omega)) dL_law_1884 ?_
      refine lv_iload hx hb dL_law_1885 (lv_at hl 0 rfl) ?_
      refine lv_i2l hx hb dL_law_1887 rfl ?_
      refine W.lcmp hx hb dL_law_1888 ?_
      refine lv_if_eq (tgt := 1894) hx hb dL_law_1889 (by decide) (fun cz => ?_) (fun cz => ?_)
      · have hF := hF.1 cz
        refine lv_goto (tgt := 1951) hx hb dL_law_1894 (by decide) ?_
        refine W.widen (k := k0 + 30) (n := n0 + 480) (by omega) (by omega) ?_
        exact hJ _ _ _ hF _ _ _ hP hD hS (lv_sub hl [2, 3, 4, 5, 6] rfl)
      · have hF := hF.2 cz
        refine lv_iconst (v := 0) hx hb dL_law_1892 (by decide) ?_
        exact hF.elim
  · have hF := hF.2 cz
    refine lv_iconst (v := 0) hx hb dL_law_1875 (by decide) ?_
    exact hF.elim
def wp_case42 (fu : Nat) (σ : SX) (f : Nat → Int64) (u : FX) (K : SX → (Nat → Int64) → FX → Prop) : Prop := (wp_X3_meanJumps fu σ (fun r1898 s1898 => (wp_X4_meanJumps fu u.1 (fun r1904 s1904 => (((Op.cmpValue (FP.dcmp r1898 r1904) CmpOp.l) = 0 → (K s1898 f (s1904, u.2))) ∧ (¬ (Op.cmpValue (FP.dcmp r1898 r1904) CmpOp.l) = 0 → (((Op.cmpValue (FP.dcmp r1898 r1898) CmpOp.l) = 0 → False) ∧ (¬ (Op.cmpValue (FP.dcmp r1898 r1898) CmpOp.l) = 0 → ((¬ (Op.cmpValue (FP.dcmp r1904 r1904) CmpOp.l) = 0 → (K s1898 f (s1904, u.2))) ∧ ((Op.cmpValue (FP.dcmp r1904 r1904) CmpOp.l) = 0 → False))))))))))
set_option maxHeartbeats 4000000 in
set_option maxRecDepth 100000 in
theorem m_case42 {p : Program} {e9 : Env} {s : State} {m : MethodId} {below : List Frame} {meth : Method} {c : Code} (l : Launch) (hl9 : l.stackTraces = false) {dC : Nat → ClassId} {dI : Nat → Nat → Nat} {h g : Nat → Nat} {cy : Nat → ClassId} {sa z ad : Nat → Nat} {o b L fu i k0 n0 : Nat} {xs : Nat → Int32} {A : Nat → Prop} {Q : State → Prop} {a0 a1 a2 : Int32}
  (hC : Cx p s m #[Value.ref b] meth c RL code 9 ret) (hK : kwX dC dI cy s) (hXS : XS sa s) (hXZ : XZ A s s.heap) (hN : NCL s) (hZ : ZF z ad A s s.heap) (hvk : vk_R "PegshoreHouseModel" 92 "std" (z 4) s) (hX : va_X b L xs s s.heap) (hbl : b < s.heap.size) (hbA : ¬ A b) (hA : ∀ q : Nat, s.heap.size ≤ q → A q)
  (hi1 : vp_in (nI i + 1) L) (hi2 : vp_in (nI i + 2) L) (hx1 : xs (nI i + 1).toNatClampNeg = a1) (hx2 : xs (nI i + 2).toNatClampNeg = a2) (hk0 : k0 + 30 ≤ 603072) (hn0 : n0 + 480 ≤ 7211114)
  (K : SX → (Nat → Int64) → FX → Prop) (hJ : ∀ σ f u, K σ f u → ∀ (H : Heap) (locs : List Loc) (ls : Array Slot), va_P (dC, dI) classes (wH h cy σ ++ ([(o, .inl (cy 1, 1, .inr (.inl f)))] ++ (wC g cy u.1 ++ (wl ad cy (z 0) (g 20) u.2.1 ++ (wl ad cy (z 0) (g 21) u.2.2.1 ++ (wl ad cy (z 0) (g 22) u.2.2.2.1 ++ wS g cy u.2.2.2.2)))))) H → va_D A (wH h cy σ ++ ([(o, .inl (cy 1, 1, .inr (.inl f)))] ++ (wC g cy u.1 ++ (wl ad cy (z 0) (g 20) u.2.1 ++ (wl ad cy (z 0) (g 21) u.2.2.1 ++ (wl ad cy (z 0) (g 22) u.2.2.2.1 ++ wS g cy u.2.2.2.2)))))) → va_S A s.heap H locs → lv_has ls 9 [(0, .ref b), (1, .ref (h 16)), (2, .ref (g 0)), (3, .ref o), (4, .int (nI i))] → W p l e9 room_1 s m #[Value.ref b] below meth c H locs (k0 + 30) (n0 + 480) Q (F0 m 1951 ls [])) (σ : SX) (f : Nat → Int64) (u : FX) (hF : wp_case42 fu σ f u K) : ∀ (H : Heap) (locs : List Loc) (ls : Array Slot), va_P (dC, dI) classes (wH h cy σ ++ ([(o, .inl (cy 1, 1, .inr (.inl f)))] ++ (wC g cy u.1 ++ (wl ad cy (z 0) (g 20) u.2.1 ++ (wl ad cy (z 0) (g 21) u.2.2.1 ++ (wl ad cy (z 0) (g 22) u.2.2.2.1 ++ wS g cy u.2.2.2.2)))))) H → va_D A (wH h cy σ ++ ([(o, .inl (cy 1, 1, .inr (.inl f)))] ++ (wC g cy u.1 ++ (wl ad cy (z 0) (g 20) u.2.1 ++ (wl ad cy (z 0) (g 21) u.2.2.1 ++ (wl ad cy (z 0) (g 22) u.2.2.2.1 ++ wS g cy u.2.2.2.2)))))) → va_S A s.heap H locs → lv_has ls 9 [(0, .ref b), (1, .ref (h 16)), (2, .ref (g 0)), (3, .ref o), (4, .int (nI i))] → W p l e9 room_1 s m #[Value.ref b] below meth c H locs k0 n0 Q (F0 m 1897 ls []) := by
  intro H locs ls hP hD hS hl
  have hx := hC.1
  have hb := hC.2.1
  have hml := hC.2.2.2.1
  have hown := hC.2.2.2.2.1
  have hts := hC.2.2.2.2.2.1
  unfold wp_case42 at hF
  refine lv_aload_n hx hb dL_law_1897 rfl (lv_at hl 1 rfl) ?_
  have hPc := fw_get (fp0 _ _) hP
  have hDc := fw_getD (fp0 _ _) hD
  have hFc := fw_free (fp0 _ _) hD hS hA
  refine cwVd (q0 := 16) (As := []) (rest := []) hC hK hPc hDc rfl rfl hS hFc (m_X3_meanJumps l dC dI h cy _ fu σ _ hF) k_X3_meanJumps q360 ⟨rfl, rfl⟩ ⟨Nat.le_of_ble_eq_true rfl, Nat.le_of_ble_eq_true rfl⟩ hl.1 rfl rfl (Nat.le_of_ble_eq_true rfl) dL_law_1898 ⟨by show _ ≤ 603072; omega, by show _ ≤ 7211114; omega⟩ (fun r1898 s1898 H1 locs hF hP9 hD9 hk1 hS => ?_)
  obtain ⟨hP1, hD1⟩ := fw_join (fp0 _ _) hP hD hk1 hFc hP9 hD9
  have hP := va_P.perm (fp0 _ _).symm hP1
  have hD := va_D.perm (fp0 _ _).symm hD1
  generalize H1 = H at hP hS ⊢
  have hP : va_P (dC, dI) classes (wH h cy s1898 ++ ([(o, .inl (cy 1, 1, .inr (.inl f)))] ++ (wC g cy u.1 ++ (wl ad cy (z 0) (g 20) u.2.1 ++ (wl ad cy (z 0) (g 21) u.2.2.1 ++ (wl ad cy (z 0) (g 22) u.2.2.2.1 ++ wS g cy u.2.2.2.2)))))) H := hP
  have hD : va_D A (wH h cy s1898 ++ ([(o, .inl (cy 1, 1, .inr (.inl f)))] ++ (wC g cy u.1 ++ (wl ad cy (z 0) (g 20) u.2.1 ++ (wl ad cy (z 0) (g 21) u.2.2.1 ++ (wl ad cy (z 0) (g 22) u.2.2.2.1 ++ wS g cy u.2.2.2.2)))))) := hD
  refine lv_dstore (lv' := [(5, .double r1898), (0, .ref b), (1, .ref (h 16)), (2, .ref (g 0)), (3, .ref o), (4, .int (nI i))]) hx hb dL_law_1901 hl (by decide) rfl (fun ls hl => ?_)
  refine lv_aload_n hx hb dL_law_1903 rfl (lv_at hl 3 rfl) ?_
  have hPc := fw_get (fp2 _ _ _ _) hP
  have hDc := fw_getD (fp2 _ _ _ _) hD
  have hFc := fw_free (fp2 _ _ _ _) hD hS hA
  refine cwVd (q0 := 0) (As := []) (rest := []) hC hK hPc hDc rfl rfl hS hFc (m_X4_meanJumps l dC dI g cy _ fu u.1 _ hF) k_X4_meanJumps q1838 ⟨rfl, rfl⟩ ⟨Nat.le_of_ble_eq_true rfl, Nat.le_of_ble_eq_true rfl⟩ hl.1 rfl rfl (Nat.le_of_ble_eq_true rfl) dL_law_1904 ⟨by show _ ≤ 603072; omega, by show _ ≤ 7211114; omega⟩ (fun r1904 s1904 H1 locs hF hP9 hD9 hk1 hS => ?_)
  obtain ⟨hP1, hD1⟩ := fw_join (fp2 _ _ _ _) hP hD hk1 hFc hP9 hD9
  have hP := va_P.perm (fp2 _ _ _ _).symm hP1
  have hD := va_D.perm (fp2 _ _ _ _).symm hD1
  generalize H1 = H at hP hS ⊢
  have hP : va_P (dC, dI) classes (wH h cy s1898 ++ ([(o, .inl (cy 1, 1, .inr (.inl f)))] ++ (wC g cy (s1904, u.2).1 ++ (wl ad cy (z 0) (g 20) (s1904, u.2).2.1 ++ (wl ad cy (z 0) (g 21) (s1904, u.2).2.2.1 ++ (wl ad cy (z 0) (g 22) (s1904, u.2).2.2.2.1 ++ wS g cy (s1904, u.2).2.2.2.2)))))) H := hP
  have hD : va_D A (wH h cy s1898 ++ ([(o, .inl (cy 1, 1, .inr (.inl f)))] ++ (wC g cy (s1904, u.2).1 ++ (wl ad cy (z 0) (g 20) (s1904, u.2).2.1 ++ (wl ad cy (z 0) (g 21) (s1904, u.2).2.2.1 ++ (wl ad cy (z 0) (g 22) (s1904, u.2).2.2.2.1 ++ wS g cy (s1904, u.2).2.2.2.2)))))) := hD
  refine lv_dstore (lv' := [(7, .double r1904), (5, .double r1898), (0, .ref b), (1, .ref (h 16)), (2, .ref (g 0)), (3, .ref o), (4, .int (nI i))]) hx hb dL_law_1907 hl (by decide) rfl (fun ls hl => ?_)
  refine lv_dload hx hb dL_law_1909 (lv_at hl 1 rfl) ?_
  refine lv_dload hx hb dL_law_1911 (lv_at hl 0 rfl) ?_
  refine lv_dcmp hx hb dL_law_1913 ?_
  refine lv_if_eq (tgt := 1935) hx hb dL_law_1914 (by decide) (fun cz => ?_) (fun cz => ?_)
  · have hF := hF.1 cz
    refine lv_goto (tgt := 1951) hx hb dL_law_1935 (by decide) ?_
    refine W.widen (k := k0 + 30) (n := n0 + 480) (by omega) (by omega) ?_
    exact hJ _ _ _ hF _ _ _ hP hD hS (lv_sub hl [2, 3, 4, 5, 6] rfl)
  · have hF := hF.2 cz
    refine lv_dload hx hb dL_law_1917 (lv_at hl 1 rfl) ?_
    refine lv_dload hx hb dL_law_1919 (lv_at hl 1 rfl) ?_
    refine lv_dcmp hx hb dL_law_1921 ?_
    refine lv_if_eq (tgt := 1933) hx hb dL_law_1922 (by decide) (fun cz => ?_) (fun cz => ?_)
    · have hF := hF.1 cz
      refine lv_iconst (v := 0) hx hb dL_law_1933 (by decide) ?_
      exact hF.elim
    · have hF := hF.2 cz
      refine lv_dload hx hb dL_law_1925 (lv_at hl 0 rfl) ?_
      refine lv_dload hx hb dL_law_1927 (lv_at hl 0 rfl) ?_
      refine lv_dcmp hx hb dL_law_1929 ?_
      refine lv_if_ne (tgt := 1935) hx hb dL_law_1930 (by decide) (fun cz => ?_) (fun cz => ?_)
      · have hF := hF.1 cz
        refine lv_goto (tgt := 1951) hx hb dL_law_1935 (by decide) ?_
        refine W.widen (k := k0 + 30) (n := n0 + 480) (by omega) (by omega) ?_
        exact hJ _ _ _ hF _ _ _ hP hD hS (lv_sub hl [2, 3, 4, 5, 6] rfl)
      · have hF := hF.2 cz
        refine lv_iconst (v := 0) hx hb dL_law_1933 (by decide) ?_
        exact hF.elim
def wp_case43 (fu : Nat) (σ : SX) (f : Nat → Int64) (u : FX) (K : SX → (Nat → Int64) → FX → Prop) : Prop := (wp_X3_isSound fu σ (fun r1939 => (wp_X4_isSound u.1 (fun r1943 s1943 => ((r1939 = r1943 → (K σ f (s1943, u.2))) ∧ (¬ r1939 = r1943 → False))))))
set_option maxHeartbeats 4000000 in
set_option maxRecDepth 100000 in
theorem m_case43 {p : Program} {e9 : Env} {s : State} {m : MethodId} {below : List Frame} {meth : Method} {c : Code} (l : Launch) (hl9 : l.stackTraces = false) {dC : Nat → ClassId} {dI : Nat → Nat → Nat} {h g : Nat → Nat} {cy : Nat → ClassId} {sa z ad : Nat → Nat} {o b L fu i k0 n0 : Nat} {xs : Nat → Int32} {A : Nat → Prop} {Q : State → Prop} {a0 a1 a2 : Int32}
  (hC : Cx p s m #[Value.ref b] meth c RL code 9 ret) (hK : kwX dC dI cy s) (hXS : XS sa s) (hXZ : XZ A s s.heap) (hN : NCL s) (hZ : ZF z ad A s s.heap) (hvk : vk_R "PegshoreHouseModel" 92 "std" (z 4) s) (hX : va_X b L xs s s.heap) (hbl : b < s.heap.size) (hbA : ¬ A b) (hA : ∀ q : Nat, s.heap.size ≤ q → A q)
  (hi1 : vp_in (nI i + 1) L) (hi2 : vp_in (nI i + 2) L) (hx1 : xs (nI i + 1).toNatClampNeg = a1) (hx2 : xs (nI i + 2).toNatClampNeg = a2) (hk0 : k0 + 30 ≤ 603072) (hn0 : n0 + 480 ≤ 7211114)
  (K : SX → (Nat → Int64) → FX → Prop) (hJ : ∀ σ f u, K σ f u → ∀ (H : Heap) (locs : List Loc) (ls : Array Slot), va_P (dC, dI) classes (wH h cy σ ++ ([(o, .inl (cy 1, 1, .inr (.inl f)))] ++ (wC g cy u.1 ++ (wl ad cy (z 0) (g 20) u.2.1 ++ (wl ad cy (z 0) (g 21) u.2.2.1 ++ (wl ad cy (z 0) (g 22) u.2.2.2.1 ++ wS g cy u.2.2.2.2)))))) H → va_D A (wH h cy σ ++ ([(o, .inl (cy 1, 1, .inr (.inl f)))] ++ (wC g cy u.1 ++ (wl ad cy (z 0) (g 20) u.2.1 ++ (wl ad cy (z 0) (g 21) u.2.2.1 ++ (wl ad cy (z 0) (g 22) u.2.2.2.1 ++ wS g cy u.2.2.2.2)))))) → va_S A s.heap H locs → lv_has ls 9 [(0, .ref b), (1, .ref (h 16)), (2, .ref (g 0)), (3, .ref o), (4, .int (nI i))] → W p l e9 room_1 s m #[Value.ref b] below meth c H locs (k0 + 30) (n0 + 480) Q (F0 m 1951 ls [])) (σ : SX) (f : Nat → Int64) (u : FX) (hF : wp_case43 fu σ f u K) : ∀ (H : Heap) (locs : List Loc) (ls : Array Slot), va_P (dC, dI) classes (wH h cy σ ++ ([(o, .inl (cy 1, 1, .inr (.inl f)))] ++ (wC g cy u.1 ++ (wl ad cy (z 0) (g 20) u.2.1 ++ (wl ad cy (z 0) (g 21) u.2.2.1 ++ (wl ad cy (z 0) (g 22) u.2.2.2.1 ++ wS g cy u.2.2.2.2)))))) H → va_D A (wH h cy σ ++ ([(o, .inl (cy 1, 1, .inr (.inl f)))] ++ (wC g cy u.1 ++ (wl ad cy (z 0) (g 20) u.2.1 ++ (wl ad cy (z 0) (g 21) u.2.2.1 ++ (wl ad cy (z 0) (g 22) u.2.2.2.1 ++ wS g cy u.2.2.2.2)))))) → va_S A s.heap H locs → lv_has ls 9 [(0, .ref b), (1, .ref (h 16)), (2, .ref (g 0)), (3, .ref o), (4, .int (nI i))] → W p l e9 room_1 s m #[Value.ref b] below meth c H locs k0 n0 Q (F0 m 1938 ls []) := by
  intro H locs ls hP hD hS hl
  have hx := hC.1
  have hb := hC.2.1
  have hml := hC.2.2.2.1
  have hown := hC.2.2.2.2.1
  have hts := hC.2.2.2.2.2.1
  unfold wp_case43 at hF
  refine lv_aload_n hx hb dL_law_1938 rfl (lv_at hl 1 rfl) ?_
  have hPc := fw_get (fp0 _ _) hP
  refine cpVi (q0 := 16) (As := []) (rest := []) hC hK hPc rfl rfl (m_X3_isSound l dC dI h cy fu σ _ hF) k_X3_isSound q364 ⟨rfl, rfl⟩ ⟨Nat.le_of_ble_eq_true rfl, Nat.le_of_ble_eq_true rfl⟩ hl.1 rfl rfl (Nat.le_of_ble_eq_true rfl) dL_law_1939 ⟨by show _ ≤ 603072; omega, by show _ ≤ 7211114; omega⟩ (fun r1939 hF => ?_)
  refine lv_aload_n hx hb dL_law_1942 rfl (lv_at hl 2 rfl) ?_
  have hPc := fw_get (fp2 _ _ _ _) hP
  have hDc := fw_getD (fp2 _ _ _ _) hD
  have hFc := fw_free (fp2 _ _ _ _) hD hS hA
  refine cwVi (q0 := 0) (As := []) (rest := [.int r1939]) hC hK hPc hDc rfl rfl hS hFc (m_X4_isSound l dC dI g cy _ u.1 _ hF) k_X4_isSound q1842 ⟨rfl, rfl⟩ ⟨Nat.le_of_ble_eq_true rfl, Nat.le_of_ble_eq_true rfl⟩ hl.1 rfl rfl (Nat.le_of_ble_eq_true rfl) dL_law_1943 ⟨by show _ ≤ 603072; omega, by show _ ≤ 7211114; omega⟩ (fun r1943 s1943 H1 locs hF hP9 hD9 hk1 hS => ?_)
  obtain ⟨hP1, hD1⟩ := fw_join (fp2 _ _ _ _) hP hD hk1 hFc hP9 hD9
  have hP := va_P.perm (fp2 _ _ _ _).symm hP1
  have hD := va_D.perm (fp2 _ _ _ _).symm hD1
  generalize H1 = H at hP hS ⊢
  have hP : va_P (dC, dI) classes (wH h cy σ ++ ([(o, .inl (cy 1, 1, .inr (.inl f)))] ++ (wC g cy (s1943, u.2).1 ++ (wl ad cy (z 0) (g 20) (s1943, u.2).2.1 ++ (wl ad cy (z 0) (g 21) (s1943, u.2).2.2.1 ++ (wl ad cy (z 0) (g 22) (s1943, u.2).2.2.2.1 ++ wS g cy (s1943, u.2).2.2.2.2)))))) H := hP
  have hD : va_D A (wH h cy σ ++ ([(o, .inl (cy 1, 1, .inr (.inl f)))] ++ (wC g cy (s1943, u.2).1 ++ (wl ad cy (z 0) (g 20) (s1943, u.2).2.1 ++ (wl ad cy (z 0) (g 21) (s1943, u.2).2.2.1 ++ (wl ad cy (z 0) (g 22) (s1943, u.2).2.2.2.1 ++ wS g cy (s1943, u.2).2.2.2.2)))))) := hD
  refine lv_icmp_eq (tgt := 1951) hx hb dL_law_1946 (by decide) (fun cz => ?_) (fun cz => ?_)
  · have hF := hF.1 cz
    refine W.widen (k := k0 + 30) (n := n0 + 480) (by omega) (by omega) ?_
    exact hJ _ _ _ hF _ _ _ hP hD hS (lv_sub hl [0, 1, 2, 3, 4] rfl)
  · have hF := hF.2 cz
    refine lv_iconst (v := 0) hx hb dL_law_1949 (by decide) ?_
    exact hF.elim
