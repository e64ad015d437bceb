def wp_case0 (fu : Nat) (a1 : Int32) (σ : SX) (f : Nat → Int64) (u : FX) (K : SX → (Nat → Int64) → FX → Prop) : Prop := (wp_L_setKind fu σ f ((a1.toUInt32 % 65536).toInt32) (fun r237 s237 f237 => (wp_X4_setKind fu u ((a1.toUInt32 % 65536).toInt32) (fun r250 s250 => (wp_X4_thrown s250.1 (fun r256 => ((r256 = r237 → ((¬ r237 = 0 → (K s237 f237 s250)) ∧ (r237 = 0 → (((lg_cmp (f237 (0 : Int32).toNatClampNeg) r250.toInt64) = 0 → (K s237 f237 s250)) ∧ (¬ (lg_cmp (f237 (0 : Int32).toNatClampNeg) r250.toInt64) = 0 → False))))) ∧ (¬ r256 = r237 → False))))))))
set_option maxHeartbeats 4000000 in
set_option maxRecDepth 100000 in
theorem m_case0 {p : Program} {e9 : Env} {s : State} {m : MethodId} {below : List Frame} {meth : Method} {c : Code} (l : Launch) (hl9 : l.stackTraces = false) {dC : Nat → ClassId} {dI : Nat → Nat → Nat} {h g : Nat → Nat} {cy : Nat → ClassId} {sa z ad : Nat → Nat} {o b L fu i k0 n0 : Nat} {xs : Nat → Int32} {A : Nat → Prop} {Q : State → Prop} {a0 a1 a2 : Int32}
  (hC : Cx p s m #[Value.ref b] meth c RL code 9 ret) (hK : kwX dC dI cy s) (hXS : XS sa s) (hXZ : XZ A s s.heap) (hN : NCL s) (hZ : ZF z ad A s s.heap) (hvk : vk_R "PegshoreHouseModel" 92 "std" (z 4) s) (hX : va_X b L xs s s.heap) (hbl : b < s.heap.size) (hbA : ¬ A b) (hA : ∀ q : Nat, s.heap.size ≤ q → A q)
  (hi1 : vp_in (nI i + 1) L) (hi2 : vp_in (nI i + 2) L) (hx1 : xs (nI i + 1).toNatClampNeg = a1) (hx2 : xs (nI i + 2).toNatClampNeg = a2) (hk0 : k0 + 30 ≤ 603072) (hn0 : n0 + 480 ≤ 7211114)
  (K : SX → (Nat → Int64) → FX → Prop) (hJ : ∀ σ f u, K σ f u → ∀ (H : Heap) (locs : List Loc) (ls : Array Slot), va_P (dC, dI) classes (wH h cy σ ++ ([(o, .inl (cy 1, 1, .inr (.inl f)))] ++ (wC g cy u.1 ++ (wl ad cy (z 0) (g 20) u.2.1 ++ (wl ad cy (z 0) (g 21) u.2.2.1 ++ (wl ad cy (z 0) (g 22) u.2.2.2.1 ++ wS g cy u.2.2.2.2)))))) H → va_D A (wH h cy σ ++ ([(o, .inl (cy 1, 1, .inr (.inl f)))] ++ (wC g cy u.1 ++ (wl ad cy (z 0) (g 20) u.2.1 ++ (wl ad cy (z 0) (g 21) u.2.2.1 ++ (wl ad cy (z 0) (g 22) u.2.2.2.1 ++ wS g cy u.2.2.2.2)))))) → va_S A s.heap H locs → lv_has ls 9 [(0, .ref b), (1, .ref (h 16)), (2, .ref (g 0)), (3, .ref o), (4, .int (nI i))] → W p l e9 room_1 s m #[Value.ref b] below meth c H locs (k0 + 30) (n0 + 480) Q (F0 m 1951 ls [])) (σ : SX) (f : Nat → Int64) (u : FX) (hF : wp_case0 fu a1 σ f u K) : ∀ (H : Heap) (locs : List Loc) (ls : Array Slot), va_P (dC, dI) classes (wH h cy σ ++ ([(o, .inl (cy 1, 1, .inr (.inl f)))] ++ (wC g cy u.1 ++ (wl ad cy (z 0) (g 20) u.2.1 ++ (wl ad cy (z 0) (g 21) u.2.2.1 ++ (wl ad cy (z 0) (g 22) u.2.2.2.1 ++ wS g cy u.2.2.2.2)))))) H → va_D A (wH h cy σ ++ ([(o, .inl (cy 1, 1, .inr (.inl f)))] ++ (wC g cy u.1 ++ (wl ad cy (z 0) (g 20) u.2.1 ++ (wl ad cy (z 0) (g 21) u.2.2.1 ++ (wl ad cy (z 0) (g 22) u.2.2.2.1 ++ wS g cy u.2.2.2.2)))))) → va_S A s.heap H locs → lv_has ls 9 [(0, .ref b), (1, .ref (h 16)), (2, .ref (g 0)), (3, .ref o), (4, .int (nI i))] → W p l e9 room_1 s m #[Value.ref b] below meth c H locs k0 n0 Q (F0 m 228 ls []) := by
  intro H locs ls hP hD hS hl
  have hx := hC.1
  have hb := hC.2.1
  have hml := hC.2.2.2.1
  have hown := hC.2.2.2.2.1
  have hts := hC.2.2.2.2.2.1
  unfold wp_case0 at hF
  refine lv_aload_n hx hb dL_law_228 rfl (lv_at hl 1 rfl) ?_
  refine lv_aload_n hx hb dL_law_229 rfl (lv_at hl 0 rfl) ?_
  refine lv_iload hx hb dL_law_230 (lv_at hl 4 rfl) ?_
  refine lv_iconst (v := 1) hx hb dL_law_232 (by decide) ?_
  refine lv_iadd hx hb dL_law_233 ?_
  refine va_sld hx hb hX hbl hbA hS hi1 dL_law_234 ?_
  rw [hx1]
  refine lv_i2c (v := (a1.toUInt32 % 65536).toInt32) hx hb dL_law_235 rfl ?_
  refine lv_aload_n hx hb dL_law_236 rfl (lv_at hl 3 rfl) ?_
  refine lwWrap (x := wO h cy o σ f) (wn := fun (u : SX × (Nat → Int64)) => wO h cy o u.1 u.2) (As := [.ref (h 16), .int ((a1.toUInt32 % 65536).toInt32), .ref o]) (rest := []) (fpA _ _ _) hC hK hXS hXZ hN hP hD hS hA (m_L_setKind l hl9 dC dI h cy sa o _ fu σ f ((a1.toUInt32 % 65536).toInt32) _ hF) k_L_setKind q389 ⟨rfl, rfl⟩ ⟨Nat.le_of_ble_eq_true rfl, Nat.le_of_ble_eq_true rfl⟩ hl.1 rfl rfl (Nat.le_of_ble_eq_true rfl) dL_law_237 ⟨by show _ ≤ 603072; omega, by show _ ≤ 7211114; omega⟩ (fun r237 v9 H1 locs hF hP1 hD1 hS => ?_)
  obtain ⟨s237, f237⟩ := v9
  have hP := va_P.perm (fpA _ _ _).symm hP1
  have hD := va_D.perm (fpA _ _ _).symm hD1
  generalize H1 = H at hP hS ⊢
  have hP : va_P (dC, dI) classes (wH h cy s237 ++ ([(o, .inl (cy 1, 1, .inr (.inl f237)))] ++ (wC g cy u.1 ++ (wl ad cy (z 0) (g 20) u.2.1 ++ (wl ad cy (z 0) (g 21) u.2.2.1 ++ (wl ad cy (z 0) (g 22) u.2.2.2.1 ++ wS g cy u.2.2.2.2)))))) H := hP
  have hD : va_D A (wH h cy s237 ++ ([(o, .inl (cy 1, 1, .inr (.inl f237)))] ++ (wC g cy u.1 ++ (wl ad cy (z 0) (g 20) u.2.1 ++ (wl ad cy (z 0) (g 21) u.2.2.1 ++ (wl ad cy (z 0) (g 22) u.2.2.2.1 ++ wS g cy u.2.2.2.2)))))) := hD
  refine lv_istore (lv' := [(5, .int r237), (0, .ref b), (1, .ref (h 16)), (2, .ref (g 0)), (3, .ref o), (4, .int (nI i))]) hx hb dL_law_240 hl (by decide) rfl (fun ls hl => ?_)
  refine lv_aload_n hx hb dL_law_242 rfl (lv_at hl 3 rfl) ?_
  refine lv_aload_n hx hb dL_law_243 rfl (lv_at hl 1 rfl) ?_
  refine lv_iload hx hb dL_law_244 (lv_at hl 5 rfl) ?_
  refine lv_iconst (v := 1) hx hb dL_law_246 (by decide) ?_
  refine lv_iadd hx hb dL_law_247 ?_
  refine va_sld hx hb hX hbl hbA hS hi1 dL_law_248 ?_
  rw [hx1]
  refine lv_i2c (v := (a1.toUInt32 % 65536).toInt32) hx hb dL_law_249 rfl ?_
  refine cfVi (x := wC g cy u.1 ++ (wl ad cy (z 0) (g 20) u.2.1 ++ (wl ad cy (z 0) (g 21) u.2.2.1 ++ (wl ad cy (z 0) (g 22) u.2.2.2.1 ++ wS g cy u.2.2.2.2)))) (As := [.int ((a1.toUInt32 % 65536).toInt32)]) (rest := []) (fpF _ _ _) hC hK hP hD hZ hvk hS hA rfl (m_X4_setKind l dC dI g cy z ad _ fu u ((a1.toUInt32 % 65536).toInt32) _ hF) k_X4_setKind q1013 ⟨rfl, rfl⟩ ⟨Nat.le_of_ble_eq_true rfl, Nat.le_of_ble_eq_true rfl⟩ hl.1 rfl rfl (Nat.le_of_ble_eq_true rfl) dL_law_250 ⟨by show _ ≤ 603072; omega, by show _ ≤ 7211114; omega⟩ (fun r250 s250 H1 locs hF hP1 hD1 hS => ?_)
  have hP := va_P.perm (fpF _ _ _).symm hP1
  have hD := va_D.perm (fpF _ _ _).symm hD1
  generalize H1 = H at hP hS ⊢
  have hP : va_P (dC, dI) classes (wH h cy s237 ++ ([(o, .inl (cy 1, 1, .inr (.inl f237)))] ++ (wC g cy s250.1 ++ (wl ad cy (z 0) (g 20) s250.2.1 ++ (wl ad cy (z 0) (g 21) s250.2.2.1 ++ (wl ad cy (z 0) (g 22) s250.2.2.2.1 ++ wS g cy s250.2.2.2.2)))))) H := hP
  have hD : va_D A (wH h cy s237 ++ ([(o, .inl (cy 1, 1, .inr (.inl f237)))] ++ (wC g cy s250.1 ++ (wl ad cy (z 0) (g 20) s250.2.1 ++ (wl ad cy (z 0) (g 21) s250.2.2.1 ++ (wl ad cy (z 0) (g 22) s250.2.2.2.1 ++ wS g cy s250.2.2.2.2)))))) := hD
  refine lv_istore (lv' := [(6, .int r250), (5, .int r237), (0, .ref b), (1, .ref (h 16)), (2, .ref (g 0)), (3, .ref o), (4, .int (nI i))]) hx hb dL_law_253 hl (by decide) rfl (fun ls hl => ?_)
  refine lv_aload_n hx hb dL_law_255 rfl (lv_at hl 4 rfl) ?_
  have hPc := fw_get (fp2 _ _ _ _) hP
  refine cpVi (q0 := 0) (As := []) (rest := []) hC hK hPc rfl rfl (m_X4_thrown l dC dI g cy s250.1 _ hF) k_X4_thrown q1009 ⟨rfl, rfl⟩ ⟨Nat.le_of_ble_eq_true rfl, Nat.le_of_ble_eq_true rfl⟩ hl.1 rfl rfl (Nat.le_of_ble_eq_true rfl) dL_law_256 ⟨by show _ ≤ 603072; omega, by show _ ≤ 7211114; omega⟩ (fun r256 hF => ?_)
  refine lv_iload hx hb dL_law_259 (lv_at hl 1 rfl) ?_
  refine lv_icmp_eq (tgt := 266) hx hb dL_law_261 (by decide) (fun cz => ?_) (fun cz => ?_)
  · have hF := hF.1 cz
    refine lv_iload hx hb dL_law_266 (lv_at hl 1 rfl) ?_
    refine lv_if_ne (tgt := 283) hx hb dL_law_268 (by decide) (fun cz => ?_) (fun cz => ?_)
    · have hF := hF.1 cz
      refine lv_goto (tgt := 1951) hx hb dL_law_283 (by decide) ?_
      refine W.widen (k := k0 + 30) (n := n0 + 480) (by omega) (by omega) ?_
      exact hJ _ _ _ hF _ _ _ hP hD hS (lv_sub hl [2, 3, 4, 5, 6] rfl)
    · have hF := hF.2 cz
      refine lv_aload_n hx hb dL_law_271 rfl (lv_at hl 5 rfl) ?_
      refine lv_iconst (v := 0) hx hb dL_law_272 (by decide) ?_
      refine va_lald hx hb hK.1 hP 21 1 rfl rfl (show vp_in 0 1 from vp_in_nI (n := 0) (by omega) (by omega)) dL_law_273 ?_
      refine lv_iload hx hb dL_law_274 (lv_at hl 0 rfl) ?_
      refine lv_i2l hx hb dL_law_276 rfl ?_
      refine W.lcmp hx hb dL_law_277 ?_
      refine lv_if_eq (tgt := 283) hx hb dL_law_278 (by decide) (fun cz => ?_) (fun cz => ?_)
      · have hF := hF.1 cz
        refine lv_goto (tgt := 1951) hx hb dL_law_283 (by decide) ?_
        refine W.widen (k := k0 + 30) (n := n0 + 480) (by omega) (by omega) ?_
        exact hJ _ _ _ hF _ _ _ hP hD hS (lv_sub hl [2, 3, 4, 5, 6] rfl)
      · have hF := hF.2 cz
        refine lv_iconst (v := 0) hx hb dL_law_281 (by decide) ?_
        exact hF.elim
  · have hF := hF.2 cz
    refine lv_iconst (v := 0) hx hb dL_law_264 (by decide) ?_
    exact hF.elim
def wp_case1 (fu : Nat) (a1 : Int32) (σ : SX) (f : Nat → Int64) (u : FX) (K : SX → (Nat → Int64) → FX → Prop) : Prop := (wp_L_drill fu σ f a1 (fun r294 s294 f294 => (wp_X4_drill fu u a1 (fun r306 s306 => (wp_X4_thrown s306.1 (fun r312 => ((r312 = r294 → ((¬ r294 = 0 → (K s294 f294 s306)) ∧ (r294 = 0 → (((lg_cmp (f294 (0 : Int32).toNatClampNeg) r306.toInt64) = 0 → (K s294 f294 s306)) ∧ (¬ (lg_cmp (f294 (0 : Int32).toNatClampNeg) r306.toInt64) = 0 → False))))) ∧ (¬ r312 = r294 → False))))))))
set_option maxHeartbeats 4000000 in
set_option maxRecDepth 100000 in
theorem m_case1 {p : Program} {e9 : Env} {s : State} {m : MethodId} {below : List Frame} {meth : Method} {c : Code} (l : Launch) (hl9 : l.stackTraces = false) {dC : Nat → ClassId} {dI : Nat → Nat → Nat} {h g : Nat → Nat} {cy : Nat → ClassId} {sa z ad : Nat → Nat} {o b L fu i k0 n0 : Nat} {xs : Nat → Int32} {A : Nat → Prop} {Q : State → Prop} {a0 a1 a2 : Int32}
  (hC : Cx p s m #[Value.ref b] meth c RL code 9 ret) (hK : kwX dC dI cy s) (hXS : XS sa s) (hXZ : XZ A s s.heap) (hN : NCL s) (hZ : ZF z ad A s s.heap) (hvk : vk_R "PegshoreHouseModel" 92 "std" (z 4) s) (hX : va_X b L xs s s.heap) (hbl : b < s.heap.size) (hbA : ¬ A b) (hA : ∀ q : Nat, s.heap.size ≤ q → A q)
  (hi1 : vp_in (nI i + 1) L) (hi2 : vp_in (nI i + 2) L) (hx1 : xs (nI i + 1).toNatClampNeg = a1) (hx2 : xs (nI i + 2).toNatClampNeg = a2) (hk0 : k0 + 30 ≤ 603072) (hn0 : n0 + 480 ≤ 7211114)
  (K : SX → (Nat → Int64) → FX → Prop) (hJ : ∀ σ f u, K σ f u → ∀ (H : Heap) (locs : List Loc) (ls : Array Slot), va_P (dC, dI) classes (wH h cy σ ++ ([(o, .inl (cy 1, 1, .inr (.inl f)))] ++ (wC g cy u.1 ++ (wl ad cy (z 0) (g 20) u.2.1 ++ (wl ad cy (z 0) (g 21) u.2.2.1 ++ (wl ad cy (z 0) (g 22) u.2.2.2.1 ++ wS g cy u.2.2.2.2)))))) H → va_D A (wH h cy σ ++ ([(o, .inl (cy 1, 1, .inr (.inl f)))] ++ (wC g cy u.1 ++ (wl ad cy (z 0) (g 20) u.2.1 ++ (wl ad cy (z 0) (g 21) u.2.2.1 ++ (wl ad cy (z 0) (g 22) u.2.2.2.1 ++ wS g cy u.2.2.2.2)))))) → va_S A s.heap H locs → lv_has ls 9 [(0, .ref b), (1, .ref (h 16)), (2, .ref (g 0)), (3, .ref o), (4, .int (nI i))] → W p l e9 room_1 s m #[Value.ref b] below meth c H locs (k0 + 30) (n0 + 480) Q (F0 m 1951 ls [])) (σ : SX) (f : Nat → Int64) (u : FX) (hF : wp_case1 fu a1 σ f u K) : ∀ (H : Heap) (locs : List Loc) (ls : Array Slot), va_P (dC, dI) classes (wH h cy σ ++ ([(o, .inl (cy 1, 1, .inr (.inl f)))] ++ (wC g cy u.1 ++ (wl ad cy (z 0) (g 20) u.2.1 ++ (wl ad cy (z 0) (g 21) u.2.2.1 ++ (wl ad cy (z 0) (g 22) u.2.2.2.1 ++ wS g cy u.2.2.2.2)))))) H → va_D A (wH h cy σ ++ ([(o, .inl (cy 1, 1, .inr (.inl f)))] ++ (wC g cy u.1 ++ (wl ad cy (z 0) (g 20) u.2.1 ++ (wl ad cy (z 0) (g 21) u.2.2.1 ++ (wl ad cy (z 0) (g 22) u.2.2.2.1 ++ wS g cy u.2.2.2.2)))))) → va_S A s.heap H locs → lv_has ls 9 [(0, .ref b), (1, .ref (h 16)), (2, .ref (g 0)), (3, .ref o), (4, .int (nI i))] → W p l e9 room_1 s m #[Value.ref b] below meth c H locs k0 n0 Q (F0 m 286 ls []) := by
  intro H locs ls hP hD hS hl
  have hx := hC.1
  have hb := hC.2.1
  have hml := hC.2.2.2.1
  have hown := hC.2.2.2.2.1
  have hts := hC.2.2.2.2.2.1
  unfold wp_case1 at hF
  refine lv_aload_n hx hb dL_law_286 rfl (lv_at hl 1 rfl) ?_
  refine lv_aload_n hx hb dL_law_287 rfl (lv_at hl 0 rfl) ?_
  refine lv_iload hx hb dL_law_288 (lv_at hl 4 rfl) ?_
  refine lv_iconst (v := 1) hx hb dL_law_290 (by decide) ?_
  refine lv_iadd hx hb dL_law_291 ?_
  refine va_sld hx hb hX hbl hbA hS hi1 dL_law_292 ?_
  rw [hx1]
  refine lv_aload_n hx hb dL_law_293 rfl (lv_at hl 3 rfl) ?_
  refine lwWrap (x := wO h cy o σ f) (wn := fun (u : SX × (Nat → Int64)) => wO h cy o u.1 u.2) (As := [.ref (h 16), .int a1, .ref o]) (rest := []) (fpA _ _ _) hC hK hXS hXZ hN hP hD hS hA (m_L_drill l hl9 dC dI h cy sa o _ fu σ f a1 _ hF) k_L_drill q499 ⟨rfl, rfl⟩ ⟨Nat.le_of_ble_eq_true rfl, Nat.le_of_ble_eq_true rfl⟩ hl.1 rfl rfl (Nat.le_of_ble_eq_true rfl) dL_law_294 ⟨by show _ ≤ 603072; omega, by show _ ≤ 7211114; omega⟩ (fun r294 v9 H1 locs hF hP1 hD1 hS => ?_)
  obtain ⟨s294, f294⟩ := v9
  have hP := va_P.perm (fpA _ _ _).symm hP1
  have hD := va_D.perm (fpA _ _ _).symm hD1
  generalize H1 = H at hP hS ⊢
  have hP : va_P (dC, dI) classes (wH h cy s294 ++ ([(o, .inl (cy 1, 1, .inr (.inl f294)))] ++ (wC g cy u.1 ++ (wl ad cy (z 0) (g 20) u.2.1 ++ (wl ad cy (z 0) (g 21) u.2.2.1 ++ (wl ad cy (z 0) (g 22) u.2.2.2.1 ++ wS g cy u.2.2.2.2)))))) H := hP
  have hD : va_D A (wH h cy s294 ++ ([(o, .inl (cy 1, 1, .inr (.inl f294)))] ++ (wC g cy u.1 ++ (wl ad cy (z 0) (g 20) u.2.1 ++ (wl ad cy (z 0) (g 21) u.2.2.1 ++ (wl ad cy (z 0) (g 22) u.2.2.2.1 ++ wS g cy u.2.2.2.2)))))) := hD
  refine lv_istore (lv' := [(5, .int r294), (0, .ref b), (1, .ref (h 16)), (2, .ref (g 0)), (3, .ref o), (4, .int (nI i))]) hx hb dL_law_297 hl (by decide) rfl (fun ls hl => ?_)
  refine lv_aload_n hx hb dL_law_299 rfl (lv_at hl 3 rfl) ?_
  refine lv_aload_n hx hb dL_law_300 rfl (lv_at hl 1 rfl) ?_
  refine lv_iload hx hb dL_law_301 (lv_at hl 5 rfl) ?_
  refine lv_iconst (v := 1) hx hb dL_law_303 (by decide) ?_
  refine lv_iadd hx hb dL_law_304 ?_
  refine va_sld hx hb hX hbl hbA hS hi1 dL_law_305 ?_
  rw [hx1]
  refine cfVi (x := wC g cy u.1 ++ (wl ad cy (z 0) (g 20) u.2.1 ++ (wl ad cy (z 0) (g 21) u.2.2.1 ++ (wl ad cy (z 0) (g 22) u.2.2.2.1 ++ wS g cy u.2.2.2.2)))) (As := [.int a1]) (rest := []) (fpF _ _ _) hC hK hP hD hZ hvk hS hA rfl (m_X4_drill l dC dI g cy z ad _ fu u a1 _ hF) k_X4_drill q1126 ⟨rfl, rfl⟩ ⟨Nat.le_of_ble_eq_true rfl, Nat.le_of_ble_eq_true rfl⟩ hl.1 rfl rfl (Nat.le_of_ble_eq_true rfl) dL_law_306 ⟨by show _ ≤ 603072; omega, by show _ ≤ 7211114; omega⟩ (fun r306 s306 H1 locs hF hP1 hD1 hS => ?_)
  have hP := va_P.perm (fpF _ _ _).symm hP1
  have hD := va_D.perm (fpF _ _ _).symm hD1
  generalize H1 = H at hP hS ⊢
  have hP : va_P (dC, dI) classes (wH h cy s294 ++ ([(o, .inl (cy 1, 1, .inr (.inl f294)))] ++ (wC g cy s306.1 ++ (wl ad cy (z 0) (g 20) s306.2.1 ++ (wl ad cy (z 0) (g 21) s306.2.2.1 ++ (wl ad cy (z 0) (g 22) s306.2.2.2.1 ++ wS g cy s306.2.2.2.2)))))) H := hP
  have hD : va_D A (wH h cy s294 ++ ([(o, .inl (cy 1, 1, .inr (.inl f294)))] ++ (wC g cy s306.1 ++ (wl ad cy (z 0) (g 20) s306.2.1 ++ (wl ad cy (z 0) (g 21) s306.2.2.1 ++ (wl ad cy (z 0) (g 22) s306.2.2.2.1 ++ wS g cy s306.2.2.2.2)))))) := hD
  refine lv_istore (lv' := [(6, .int r306), (5, .int r294), (0, .ref b), (1, .ref (h 16)), (2, .ref (g 0)), (3, .ref o), (4, .int (nI i))]) hx hb dL_law_309 hl (by decide) rfl (fun ls hl => ?_)
  refine lv_aload_n hx hb dL_law_311 rfl (lv_at hl 4 rfl) ?_
  have hPc := fw_get (fp2 _ _ _ _) hP
  refine cpVi (q0 := 0) (As := []) (rest := []) hC hK hPc rfl rfl (m_X4_thrown l dC dI g cy s306.1 _ hF) k_X4_thrown q1009 ⟨rfl, rfl⟩ ⟨Nat.le_of_ble_eq_true rfl, Nat.le_of_ble_eq_true rfl⟩ hl.1 rfl rfl (Nat.le_of_ble_eq_true rfl) dL_law_312 ⟨by show _ ≤ 603072; omega, by show _ ≤ 7211114; omega⟩ (fun r312 hF => ?_)
  refine lv_iload hx hb dL_law_315 (lv_at hl 1 rfl) ?_
  refine lv_icmp_eq (tgt := 322) hx hb dL_law_317 (by decide) (fun cz => ?_) (fun cz => ?_)
  · have hF := hF.1 cz
    refine lv_iload hx hb dL_law_322 (lv_at hl 1 rfl) ?_
    refine lv_if_ne (tgt := 339) hx hb dL_law_324 (by decide) (fun cz => ?_) (fun cz => ?_)
    · have hF := hF.1 cz
      refine lv_goto (tgt := 1951) hx hb dL_law_339 (by decide) ?_
      refine W.widen (k := k0 + 30) (n := n0 + 480) (by omega) (by omega) ?_
      exact hJ _ _ _ hF _ _ _ hP hD hS (lv_sub hl [2, 3, 4, 5, 6] rfl)
    · have hF := hF.2 cz
      refine lv_aload_n hx hb dL_law_327 rfl (lv_at hl 5 rfl) ?_
      refine lv_iconst (v := 0) hx hb dL_law_328 (by decide) ?_
      refine va_lald hx hb hK.1 hP 21 1 rfl rfl (show vp_in 0 1 from vp_in_nI (n := 0) (by omega) (by omega)) dL_law_329 ?_
      refine lv_iload hx hb dL_law_330 (lv_at hl 0 rfl) ?_
      refine lv_i2l hx hb dL_law_332 rfl ?_
      refine W.lcmp hx hb dL_law_333 ?_
      refine lv_if_eq (tgt := 339) hx hb dL_law_334 (by decide) (fun cz => ?_) (fun cz => ?_)
      · have hF := hF.1 cz
        refine lv_goto (tgt := 1951) hx hb dL_law_339 (by decide) ?_
        refine W.widen (k := k0 + 30) (n := n0 + 480) (by omega) (by omega) ?_
        exact hJ _ _ _ hF _ _ _ hP hD hS (lv_sub hl [2, 3, 4, 5, 6] rfl)
      · have hF := hF.2 cz
        refine lv_iconst (v := 0) hx hb dL_law_337 (by decide) ?_
        exact hF.elim
  · have hF := hF.2 cz
    refine lv_iconst (v := 0) hx hb dL_law_320 (by decide) ?_
    exact hF.elim
def wp_case2 (fu : Nat) (a1 : Int32) (σ : SX) (f : Nat → Int64) (u : FX) (K : SX → (Nat → Int64) → FX → Prop) : Prop := (wp_L_fill fu σ f a1 (fun r350 s350 f350 => (wp_X4_fill fu u a1 (fun r362 s362 => (wp_X4_thrown s362.1 (fun r368 => ((r368 = r350 → ((¬ r350 = 0 → (K s350 f350 s362)) ∧ (r350 = 0 → (((lg_cmp (f350 (0 : Int32).toNatClampNeg) r362.toInt64) = 0 → (K s350 f350 s362)) ∧ (¬ (lg_cmp (f350 (0 : Int32).toNatClampNeg) r362.toInt64) = 0 → False))))) ∧ (¬ r368 = r350 → False))))))))
set_option maxHeartbeats 4000000 in
set_option maxRecDepth 100000 in
theorem m_case2 {p : Program} {e9 : Env} {s : State} {m : MethodId} {below : List Frame} {meth : Method} {c : Code} (l : Launch) (hl9 : l.stackTraces = false) {dC : Nat → ClassId} {dI : Nat → Nat → Nat} {h g : Nat → Nat} {cy : Nat → ClassId} {sa z ad : Nat → Nat} {o b L fu i k0 n0 : Nat} {xs : Nat → Int32} {A : Nat → Prop} {Q : State → Prop} {a0 a1 a2 : Int32}
  (hC : Cx p s m #[Value.ref b] meth c RL code 9 ret) (hK : kwX dC dI cy s) (hXS : XS sa s) (hXZ : XZ A s s.heap) (hN : NCL s) (hZ : ZF z ad A s s.heap) (hvk : vk_R "PegshoreHouseModel" 92 "std" (z 4) s) (hX : va_X b L xs s s.heap) (hbl : b < s.heap.size) (hbA : ¬ A b) (hA : ∀ q : Nat, s.heap.size ≤ q → A q)
  (hi1 : vp_in (nI i + 1) L) (hi2 : vp_in (nI i + 2) L) (hx1 : xs (nI i + 1).toNatClampNeg = a1) (hx2 : xs (nI i + 2).toNatClampNeg = a2) (hk0 : k0 + 30 ≤ 603072) (hn0 : n0 + 480 ≤ 7211114)
  (K : SX → (Nat → Int64) → FX → Prop) (hJ : ∀ σ f u, K σ f u → ∀ (H : Heap) (locs : List Loc) (ls : Array Slot), va_P (dC, dI) classes (wH h cy σ ++ ([(o, .inl (cy 1, 1, .inr (.inl f)))] ++ (wC g cy u.1 ++ (wl ad cy (z 0) (g 20) u.2.1 ++ (wl ad cy (z 0) (g 21) u.2.2.1 ++ (wl ad cy (z 0) (g 22) u.2.2.2.1 ++ wS g cy u.2.2.2.2)))))) H → va_D A (wH h cy σ ++ ([(o, .inl (cy 1, 1, .inr (.inl f)))] ++ (wC g cy u.1 ++ (wl ad cy (z 0) (g 20) u.2.1 ++ (wl ad cy (z 0) (g 21) u.2.2.1 ++ (wl ad cy (z 0) (g 22) u.2.2.2.1 ++ wS g cy u.2.2.2.2)))))) → va_S A s.heap H locs → lv_has ls 9 [(0, .ref b), (1, .ref (h 16)), (2, .ref (g 0)), (3, .ref o), (4, .int (nI i))] → W p l e9 room_1 s m #[Value.ref b] below meth c H locs (k0 + 30) (n0 + 480) Q (F0 m 1951 ls [])) (σ : SX) (f : Nat → Int64) (u : FX) (hF : wp_case2 fu a1 σ f u K) : ∀ (H : Heap) (locs : List Loc) (ls : Array Slot), va_P (dC, dI) classes (wH h cy σ ++ ([(o, .inl (cy 1, 1, .inr (.inl f)))] ++ (wC g cy u.1 ++ (wl ad cy (z 0) (g 20) u.2.1 ++ (wl ad cy (z 0) (g 21) u.2.2.1 ++ (wl ad cy (z 0) (g 22) u.2.2.2.1 ++ wS g cy u.2.2.2.2)))))) H → va_D A (wH h cy σ ++ ([(o, .inl (cy 1, 1, .inr (.inl f)))] ++ (wC g cy u.1 ++ (wl ad cy (z 0) (g 20) u.2.1 ++ (wl ad cy (z 0) (g 21) u.2.2.1 ++ (wl ad cy (z 0) (g 22) u.2.2.2.1 ++ wS g cy u.2.2.2.2)))))) → va_S A s.heap H locs → lv_has ls 9 [(0, .ref b), (1, .ref (h 16)), (2, .ref (g 0)), (3, .ref o), (4, .int (nI i))] → W p l e9 room_1 s m #[Value.ref b] below meth c H locs k0 n0 Q (F0 m 342 ls []) := by
  intro H locs ls hP hD hS hl
  have hx := hC.1
  have hb := hC.2.1
  have hml := hC.2.2.2.1
  have hown := hC.2.2.2.2.1
  have hts := hC.2.2.2.2.2.1
  unfold wp_case2 at hF
  refine lv_aload_n hx hb dL_law_342 rfl (lv_at hl 1 rfl) ?_
  refine lv_aload_n hx hb dL_law_343 rfl (lv_at hl 0 rfl) ?_
  refine lv_iload hx hb dL_law_344 (lv_at hl 4 rfl) ?_
  refine lv_iconst (v := 1) hx hb dL_law_346 (by decide) ?_
  refine lv_iadd hx hb dL_law_347 ?_
  refine va_sld hx hb hX hbl hbA hS hi1 dL_law_348 ?_
  rw [hx1]
  refine lv_aload_n hx hb dL_law_349 rfl (lv_at hl 3 rfl) ?_
  refine lwWrap (x := wO h cy o σ f) (wn := fun (u : SX × (Nat → Int64)) => wO h cy o u.1 u.2) (As := [.ref (h 16), .int a1, .ref o]) (rest := []) (fpA _ _ _) hC hK hXS hXZ hN hP hD hS hA (m_L_fill l hl9 dC dI h cy sa o _ fu σ f a1 _ hF) k_L_fill q554 ⟨rfl, rfl⟩ ⟨Nat.le_of_ble_eq_true rfl, Nat.le_of_ble_eq_true rfl⟩ hl.1 rfl rfl (Nat.le_of_ble_eq_true rfl) dL_law_350 ⟨by show _ ≤ 603072; omega, by show _ ≤ 7211114; omega⟩ (fun r350 v9 H1 locs hF hP1 hD1 hS => ?_)
  obtain ⟨s350, f350⟩ := v9
  have hP := va_P.perm (fpA _ _ _).symm hP1
  have hD := va_D.perm (fpA _ _ _).symm hD1
  generalize H1 = H at hP hS ⊢
  have hP : va_P (dC, dI) classes (wH h cy s350 ++ ([(o, .inl (cy 1, 1, .inr (.inl f350)))] ++ (wC g cy u.1 ++ (wl ad cy (z 0) (g 20) u.2.1 ++ (wl ad cy (z 0) (g 21) u.2.2.1 ++ (wl ad cy (z 0) (g 22) u.2.2.2.1 ++ wS g cy u.2.2.2.2)))))) H := hP
  have hD : va_D A (wH h cy s350 ++ ([(o, .inl (cy 1, 1, .inr (.inl f350)))] ++ (wC g cy u.1 ++ (wl ad cy (z 0) (g 20) u.2.1 ++ (wl ad cy (z 0) (g 21) u.2.2.1 ++ (wl ad cy (z 0) (g 22) u.2.2.2.1 ++ wS g cy u.2.2.2.2)))))) := hD
  refine lv_istore (lv' := [(5, .int r350), (0, .ref b), (1, .ref (h 16)), (2, .ref (g 0)), (3, .ref o), (4, .int (nI i))]) hx hb dL_law_353 hl (by decide) rfl (fun ls hl => ?_)
  refine lv_aload_n hx hb dL_law_355 rfl (lv_at hl 3 rfl) ?_
  refine lv_aload_n hx hb dL_law_356 rfl (lv_at hl 1 rfl) ?_
  refine lv_iload hx hb dL_law_357 (lv_at hl 5 rfl) ?_
  refine lv_iconst (v := 1) hx hb dL_law_359 (by decide) ?_
  refine lv_iadd hx hb dL_law_360 ?_
  refine va_sld hx hb hX hbl hbA hS hi1 dL_law_361 ?_
  rw [hx1]
  refine cfVi (x := wC g cy u.1 ++ (wl ad cy (z 0) (g 20) u.2.1 ++ (wl ad cy (z 0) (g 21) u.2.2.1 ++ (wl ad cy (z 0) (g 22) u.2.2.2.1 ++ wS g cy u.2.2.2.2)))) (As := [.int a1]) (rest := []) (fpF _ _ _) hC hK hP hD hZ hvk hS hA rfl (m_X4_fill l dC dI g cy z ad _ fu u a1 _ hF) k_X4_fill q1144 ⟨rfl, rfl⟩ ⟨Nat.le_of_ble_eq_true rfl, Nat.le_of_ble_eq_true rfl⟩ hl.1 rfl rfl (Nat.le_of_ble_eq_true rfl) dL_law_362 ⟨by show _ ≤ 603072; omega, by show _ ≤ 7211114; omega⟩ (fun r362 s362 H1 locs hF hP1 hD1 hS => ?_)
  have hP := va_P.perm (fpF _ _ _).symm hP1
  have hD := va_D.perm (fpF _ _ _).symm hD1
  generalize H1 = H at hP hS ⊢
  have hP : va_P (dC, dI) classes (wH h cy s350 ++ ([(o, .inl (cy 1, 1, .inr (.inl f350)))] ++ (wC g cy s362.1 ++ (wl ad cy (z 0) (g 20) s362.2.1 ++ (wl ad cy (z 0) (g 21) s362.2.2.1 ++ (wl ad cy (z 0) (g 22) s362.2.2.2.1 ++ wS g cy s362.2.2.2.2)))))) H := hP
  have hD : va_D A (wH h cy s350 ++ ([(o, .inl (cy 1, 1, .inr (.inl f350)))] ++ (wC g cy s362.1 ++ (wl ad cy (z 0) (g 20) s362.2.1 ++ (wl ad cy (z 0) (g 21) s362.2.2.1 ++ (wl ad cy (z 0) (g 22) s362.2.2.2.1 ++ wS g cy s362.2.2.2.2)))))) := hD
  refine lv_istore (lv' := [(6, .int r362), (5, .int r350), (0, .ref b), (1, .ref (h 16)), (2, .ref (g 0)), (3, .ref o), (4, .int (nI i))]) hx hb dL_law_365 hl (by decide) rfl (fun ls hl => ?_)
  refine lv_aload_n hx hb dL_law_367 rfl (lv_at hl 4 rfl) ?_
  have hPc := fw_get (fp2 _ _ _ _) hP
  refine cpVi (q0 := 0) (As := []) (rest := []) hC hK hPc rfl rfl (m_X4_thrown l dC dI g cy s362.1 _ hF) k_X4_thrown q1009 ⟨rfl, rfl⟩ ⟨Nat.le_of_ble_eq_true rfl, Nat.le_of_ble_eq_true rfl⟩ hl.1 rfl rfl (Nat.le_of_ble_eq_true rfl) dL_law_368 ⟨by show _ ≤ 603072; omega, by show _ ≤ 7211114; omega⟩ (fun r368 hF => ?_)
  refine lv_iload hx hb dL_law_371 (lv_at hl 1 rfl) ?_
  refine lv_icmp_eq (tgt := 378) hx hb dL_law_373 (by decide) (fun cz => ?_) (fun cz => ?_)
  · have hF := hF.1 cz
    refine lv_iload hx hb dL_law_378 (lv_at hl 1 rfl) ?_
    refine lv_if_ne (tgt := 395) hx hb dL_law_380 (by decide) (fun cz => ?_) (fun cz => ?_)
    · have hF := hF.1 cz
      refine lv_goto (tgt := 1951) hx hb dL_law_395 (by decide) ?_
      refine W.widen (k := k0 + 30) (n := n0 + 480) (by omega) (by omega) ?_
      exact hJ _ _ _ hF _ _ _ hP hD hS (lv_sub hl [2, 3, 4, 5, 6] rfl)
    · have hF := hF.2 cz
      refine lv_aload_n hx hb dL_law_383 rfl (lv_at hl 5 rfl) ?_
      refine lv_iconst (v := 0) hx hb dL_law_384 (by decide) ?_
      refine va_lald hx hb hK.1 hP 21 1 rfl rfl (show vp_in 0 1 from vp_in_nI (n := 0) (by omega) (by omega)) dL_law_385 ?_
      refine lv_iload hx hb dL_law_386 (lv_at hl 0 rfl) ?_
      refine lv_i2l hx hb dL_law_388 rfl ?_
      refine W.lcmp hx hb dL_law_389 ?_
      refine lv_if_eq (tgt := 395) hx hb dL_law_390 (by decide) (fun cz => ?_) (fun cz => ?_)
      · have hF := hF.1 cz
        refine lv_goto (tgt := 1951) hx hb dL_law_395 (by decide) ?_
        refine W.widen (k := k0 + 30) (n := n0 + 480) (by omega) (by omega) ?_
        exact hJ _ _ _ hF _ _ _ hP hD hS (lv_sub hl [2, 3, 4, 5, 6] rfl)
      · have hF := hF.2 cz
        refine lv_iconst (v := 0) hx hb dL_law_393 (by decide) ?_
        exact hF.elim
  · have hF := hF.2 cz
    refine lv_iconst (v := 0) hx hb dL_law_376 (by decide) ?_
    exact hF.elim
