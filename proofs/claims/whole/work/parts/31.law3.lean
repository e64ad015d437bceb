def wp_case0 (fu : Nat) (a1 : Int32) (σ : SX) (f : Nat → Int64) (u : FX) (K : SX → (Nat → Int64) → FX → Prop) : Prop := (wp_L_setKind fu σ f ((a1.toUInt32 % 65536).toInt32) (fun r237 s237 f237 => (wp_X4_setKind fu u ((a1.toUInt32 % 65536).toInt32) (fun r250 s250 => (wp_X4_thrown s250.1 (fun r256 => ((r256 = r237 → ((¬ r237 = 0 → (K s237 f237 s250)) ∧ (r237 = 0 → (((lg_cmp (f237 (0 : Int32).toNatClampNeg) r250.toInt64) = 0 → (K s237 f237 s250)) ∧ (¬ (lg_cmp (f237 (0 : Int32).toNatClampNeg) r250.toInt64) = 0 → False))))) ∧ (¬ r256 = r237 → False))))))))
set_option maxHeartbeats 4000000 in
set_option maxRecDepth 100000 in
theorem m_case0 {p : Program} {e9 : Env} {s : State} {m : MethodId} {below : List Frame} {meth : Method} {c : Code} (l : Launch) (hl9 : l.stackTraces = false) {dC : Nat → ClassId} {dI : Nat → Nat → Nat} {h g : Nat → Nat} {cy : Nat → ClassId} {sa z ad : Nat → Nat} {o b L fu i k0 n0 : Nat} {xs : Nat → Int32} {A : Nat → Prop} {Q : State → Prop} {a0 a1 a2 : Int32}
  (hC : Cx p s m #[Value.ref b] meth c RL code 9 ret) (hK : kwX dC dI cy s) (hXS : XS sa s) (hXZ : XZ A s s.heap) (hN : NCL s) (hZ : ZF z ad A s s.heap) (hvk : vk_R "PegshoreHouseModel" 92 "std" (z 4) s) (hX : va_X b L xs s s.heap) (hbl : b < s.heap.size) (hbA : ¬ A b) (hA : ∀ q : Nat, s.heap.size ≤ q → A q)
  (hi1 : vp_in (nI i + 1) L) (hi2 : vp_in (nI i + 2) L) (hx1 : xs (nI i + 1).toNatClampNeg = a1) (hx2 : xs (nI i + 2).toNatClampNeg = a2) (hk0 : k0 + 30 ≤ 603072) (hn0 : n0 + 480 ≤ 7211114)
  (K : SX → (Nat → Int64) → FX → Prop) (hJ : ∀ σ f u, K σ f u → ∀ (H : Heap) (locs : List Loc) (ls : Array Slot), va_P (dC, dI) classes (wH h cy σ ++ ([(o, .inl (cy 1, 1, .inr (.inl f)))] ++ (wC g cy u.1 ++ (wl ad cy (z 0) (g 20) u.2.1 ++ (wl ad cy (z 0) (g 21) u.2.2.1 ++ (wl ad cy (z 0) (g 22) u.2.2.2.1 ++ wS g cy u.2.2.2.2)))))) H → va_D A (wH h cy σ ++ ([(o, .inl (cy 1, 1, .inr (.inl f)))] ++ (wC g cy u.1 ++ (wl ad cy (z 0) (g 20) u.2.1 ++ (wl ad cy (z 0) (g 21) u.2.2.1 ++ (wl ad cy (z 0) (g 22) u.2.2.2.1 ++ wS g cy u.2.2.2.2)))))) → va_S A s.heap H locs → lv_has ls 9 [(0, .ref b), (1, .ref (h 16)), (2, .ref (g 0)), (3, .ref o), (4, .int (nI i))] → W p l e9 room_1 s m #[Value.ref b] below meth c H locs (k0 + 30) (n0 + 480) Q (F0 m 1951 ls [])) (σ : SX) (f : Nat → Int64) (u : FX) (hF : wp_case0 fu a1 σ f u K) : ∀ (H : Heap) (locs : List Loc) (ls : Array Slot), va_P (dC, dI) classes (wH h cy σ ++ ([(o, .inl (cy 1, 1, .inr (.inl f)))] ++ (wC g cy u.1 ++ (wl ad cy (z 0) (g 20) u.2.1 ++ (wl ad cy (z 0) (g 21) u.2.2.1 ++ (wl ad cy (z 0) (g 22) u.2.2.2.1 ++ wS g cy u.2.2.2.2)))))) H → va_D A (wH h cy σ ++ ([(o, .inl (cy 1, 1, .inr (.inl f)))] ++ (wC g cy u.1 ++ (wl ad cy (z 0) (g 20) u.2.1 ++ (wl ad cy (z 0) (g 21) u.2.2.1 ++ (wl ad cy (z 0) (g 22) u.2.2.2.1 ++ wS g cy u.2.2.2.2)))))) → va_S A s.heap H locs → lv_has ls 9 [(0, .ref b), (1, .ref (h 16)), (2, .ref (g 0)), (3, .ref o), (4, .int (nI i))] → W p l e9 room_1 s m #[Value.ref b] below meth c H locs k0 n0 Q (F0 m 228 ls []) := by
  intro H locs ls hP hD hS hl
  have hx := hC.1
  have hb := hC.2.1
  have hml := hC.2.2.2.1
  have hown := hC.2.2.2.2.1
  have hts := hC.2.2.2.2.2.1
  unfold wp_case0 at hF
  refine lv_aload_n hx hb dL_law_228 rfl (lv_at hl 1 rfl) ?_
  refine lv_aload_n hx hb dL_law_229 rfl (lv_at hl 0 rfl) ?_
  refine lv_iload hx hb dL_law_230 (lv_at hl 4 rfl) ?_
  refine lv_iconst (v := 1) hx hb dL_law_232 (by decide) ?_
  refine lv_iadd hx hb dL_law_233 ?_
  refine va_sld hx hb hX hbl hbA hS hi1 dL_law_234 ?_
  rw [hx1]
  refine lv_i2c (v := (a1.toUInt32 % 65536).toInt32) hx hb dL_law_235 rfl ?_
  refine lv_aload_n hx hb dL_law_236 rfl (lv_at hl 3 rfl) ?_
  refine lwWrap (x := wO h cy o σ f) (wn := fun (u : SX × (Nat → Int64)) => wO h cy o u.1 u.2) (As := [.ref (h 16), .int ((a1.toUInt32 % 65536).toInt32), .ref o]) (rest := []) (fpA _ _ _) hC hK hXS hXZ hN hP hD hS hA (m_L_setKind l hl9 dC dI h cy sa o _ fu σ f ((a1.toUInt32 % 65536).toInt32) _ hF) k_L_setKind q389 ⟨rfl, rfl⟩ ⟨Nat.le_of_ble_eq_true rfl, Nat.le_of_ble_eq_true rfl⟩ hl.1 rfl rfl (Nat.le_of_ble_eq_true rfl) dL_law_237 ⟨by show _ ≤ 603072; omega, by show _ ≤ 7211114; omega⟩ (fun r237 v9 H1 locs hF hP1 hD1 hS => ?_)
  obtain ⟨s237, f237⟩ := v9
  have hP := va_P.perm (fpA _ _ _).symm hP1
  have hD := va_D.perm (fpA _ _ _).symm hD1
  generalize H1 = H at hP hS ⊢
  have hP : va_P (dC, dI) classes (wH h cy s237 ++ ([(o, .inl (cy 1, 1, .inr (.inl f237)))] ++ (wC g cy u.1 ++ (wl ad cy (z 0) (g 20) u.2.1 ++ (wl ad cy (z 0) (g 21) u.2.2.1 ++ (wl ad cy (z 0) (g 22) u.2.2.2.1 ++ wS g cy u.2.2.2.2)))))) H := hP
  have hD : va_D A (wH h cy s237 ++ ([(o, .inl (cy 1, 1, .inr (.inl f237)))] ++ (wC g cy u.1 ++ (wl ad cy (z 0) (g 20) u.2.1 ++ (wl ad cy (z 0) (g 21) u.2.2.1 ++ (wl ad cy (z 0) (g 22) u.2.2.2.1 ++ wS g cy u.2.2.2.2)))))) := hD
  refine lv_istore (lv' := [(5, .int r237), (0, .ref b), (1, .ref (h 16)), (2, .ref (g 0)), (3, .ref o), (4, .int (nI i))]) hx hb dL_law_240 hl (by decide) rfl (fun ls hl => ?_)
  refine lv_aload_n hx hb dL_law_242 rfl (lv_at hl 3 rfl) ?_
  refine lv_aload_n hx hb dL_law_243 rfl (lv_at hl 1 rfl) ?_
  refine lv_iload hx hb dL_law_244 (lv_at hl 5 rfl) ?_
  refine lv_iconst (v := 1) hx hb dL_law_246 (by decide) ?_
  refine lv_iadd hx hb dL_law_247 ?_
  refine va_sld hx hb hX hbl hbA hS hi1 dL_law_248 ?_
  rw [hx1]
  refine lv_i2c (v := (a1.toUInt32 % 65536).toInt32) hx hb dL_law_249 rfl ?_
  refine cfVi (x := wC g cy u.1 ++ (wl ad cy (z 0) (g 20) u.2.1 ++ (wl ad cy (z 0) (g 21) u.2.2.1 ++ (wl ad cy (z 0) (g 22) u.2.2.2.1 ++ wS g cy u.2.2.2.2)))) (As := [.int ((a1.toUInt32 % 65536).toInt32)]) (rest := []) (fpF _ _ _) hC hK hP hD hZ hvk hS hA rfl (m_X4_setKind l dC dI g cy z ad _ fu u ((a1.toUInt32 % 65536).toInt32) _ hF) k_X4_setKind q1013 ⟨rfl, rfl⟩ ⟨Nat.le_of_ble_eq_true rfl, Nat.le_of_ble_eq_true rfl⟩ hl.1 rfl rfl (Nat.le_of_ble_eq_true rfl) dL_law_250 ⟨by show _ ≤ 603072; omega, by show _ ≤ 7211114; omega⟩ (fun r250 s250 H1 locs hF hP1 hD1 hS => ?_)
  have hP := va_P.perm (fpF _ _ _).symm hP1
  have hD := va_D.perm (fpF _ _ _).symm hD1
  generalize H1 = H at hP hS ⊢
  have hP : va_P (dC, dI) classes (wH h cy s237 ++ ([(o, .inl (cy 1, 1, .inr (.inl f237)))] ++ (wC g cy s250.1 ++ (wl ad cy (z 0) (g 20) s250.2.1 ++ (wl ad cy (z 0) (g 21) s250.2.2.1 ++ (wl ad cy (z 0) (g 22) s250.2.2.2.1 ++ wS g cy s250.2.2.2.2)))))) H := hP
  have hD : va_D A (wH h cy s237 ++ ([(o, .inl (cy 1, 1, .inr (.inl f237)))] ++ (wC g cy s250.1 ++ (wl ad cy (z 0) (g 20) s250.2.1 ++ (wl ad cy (z 0) (g 21) s250.2.2.1 ++ (wl ad cy (z 0) (g 22) s250.2.2.2.1 ++ wS g cy s250.2.2.2.2)))))) := hD
  refine lv_istore (lv' := [(6, .int r250), (5, .int r237), (0, .ref b), (1, .ref (h 16)), (2, .ref (g 0)), (3, .ref o), (4, .int (nI i))]) hx hb dL_law_253 hl (by decide) rfl (fun ls hl => ?_)
  refine lv_aload_n hx hb dL_law_255 rfl (lv_at hl 4 rfl) ?_
  have hPc := fw_get (fp2 _ _ _ _) hP
  refine cpVi (q0 := 0) (As := []) (rest := []) hC hK hPc rfl rfl (m_X4_thrown l dC dI g cy s250.1 _ hF) k_X4_thrown q1009 ⟨rfl, rfl⟩ ⟨Nat.le_of_ble_eq_true rfl, Nat.le_of_ble_eq_true rfl⟩ hl.1 rfl rfl (Nat.le_of_ble_eq_true rfl) dL_law_256 ⟨by show _ ≤ 603072; omega, by show _ ≤ 7211114; omega⟩ (fun r256 hF => ?_)
  refine lv_iload hx hb dL_law_259 (lv_at hl 1 rfl) ?_
  refine lv_icmp_eq (tgt := 266) hx hb dL_law_261 (by decide) (fun cz => ?_) (fun cz => ?_)
  · have hF := hF.1 cz
    refine lv_iload hx hb dL_law_266 (lv_at hl 1 rfl) ?_
    refine lv_if_ne (tgt := 283) hx hb dL_law_268 (by decide) (fun cz => ?_) (fun cz => ?_)
    · have hF := hF.1 cz
      refine lv_goto (tgt := 1951) hx hb dL_law_283 (by decide) ?_
      refine W.widen (k := k0 + 30) (n := n0 + 480) (by omega) (by omega) ?_
      exact hJ _ _ _ hF _ _ _ hP hD hS (lv_sub hl [2, 3, 4, 5, 6] rfl)
    · have hF := hF.2 cz
      refine lv_aload_n hx hb dL_law_271 rfl (lv_at hl 5 rfl) ?_
      refine lv_iconst (v := 0) hx hb dL_law_272 (by decide) ?_
      refine va_lald hx hb hK.1 hP 21 1 rfl rfl (show vp_in 0 1 from vp_in_nI (n := 0) (by omega) (by omega)) dL_law_273 ?_
      refine lv_iload hx hb dL_law_274 (lv_at hl 0 rfl) ?_
      refine lv_i2l hx hb dL_law_276 rfl ?_
      refine W.lcmp hx hb dL_law_277 ?_
      refine lv_if_eq (tgt := 283) hx hb dL_law_278 (by decide) (fun cz => ?_) (fun cz => ?_)
      · have hF := hF.1 cz
        refine lv_goto (tgt := 1951) hx hb dL_law_283 (by decide) ?_
        refine W.widen (k := k0 + 30) (n := n0 + 480) (by omega) (by omega) ?_
        exact hJ _ _ _ hF _ _ _ hP hD hS (lv_sub hl [2, 3, 4, 5, 6] rfl)
      · have hF := hF.2 cz
        refine lv_iconst (v := 0) hx hb dL_law_281 (by decide) ?_
        exact hF.elim
  · have hF := hF.2 cz
    refine lv_iconst (v := 0) hx hb dL_law_264 (by decide) ?_
    exact hF.elim
def wp_case1 (fu : Nat) (a1 : Int32) (σ : SX) (f : Nat → Int64) (u : FX) (K : SX → (Nat → Int64) → FX → Prop) : Prop := (wp_L_drill fu σ f a1 (fun r294 s294 f294 => (wp_X4_drill fu u a1 (fun r306 s306 => (wp_X4_thrown s306.1 (fun r312 => ((r312 = r294 → ((¬ r294 = 0 → (K s294 f294 s306)) ∧ (r294 = 0 → (((lg_cmp (f294 (0 : Int32).toNatClampNeg) r306.toInt64) = 0 → (K s294 f294 s306)) ∧ (¬ (lg_cmp (f294 (0 : Int32).toNatClampNeg) r306.toInt64) = 0 → False))))) ∧ (¬ r312 = r294 → False))))))))
set_option maxHeartbeats 4000000 in
set_option maxRecDepth 100000 in
theorem m_case1 {p : Program} {e9 : Env} {s : State} {m : MethodId} {below : List Frame} {meth : Method} {c : Code} (l : Launch) (hl9 : l.stackTraces = false) {dC : Nat → ClassId} {dI : Nat → Nat → Nat} {h g : Nat → Nat} {cy : Nat → ClassId} {sa z ad : Nat → Nat} {o b L fu i k0 n0 : Nat} {xs : Nat → Int32} {A : Nat → Prop} {Q : State → Prop} {a0 a1 a2 : Int32}
  (hC : Cx p s m #[Value.ref b] meth c RL code 9 ret) (hK : kwX dC dI cy s) (hXS : XS sa s) (hXZ : XZ A s s.heap) (hN : NCL s) (hZ : ZF z ad A s s.heap) (hvk : vk_R "PegshoreHouseModel" 92 "std" (z 4) s) (hX : va_X b L xs s s.heap) (hbl : b < s.heap.size) (hbA : ¬ A b) (hA : ∀ q : Nat, s.heap.size ≤ q → A q)
  (hi1 : vp_in (nI i + 1) L) (hi2 : vp_in (nI i + 2) L) (hx1 : xs (nI i + 1).toNatClampNeg = a1) (hx2 : xs (nI i + 2).toNatClampNeg = a2) (hk0 : k0 + 30 ≤ 603072) (hn0 : n0 + 480 ≤ 7211114)
  (K : SX → (Nat → Int64) → FX → Prop) (hJ : ∀ σ f u, K σ f u → ∀ (H : Heap) (locs : List Loc) (ls : Array Slot), va_P (dC, dI) classes (wH h cy σ ++ ([(o, .inl (cy 1, 1, .inr (.inl f)))] ++ (wC g cy u.1 ++ (wl ad cy (z 0) (g 20) u.2.1 ++ (wl ad cy (z 0) (g 21) u.2.2.1 ++ (wl ad cy (z 0) (g 22) u.2.2.2.1 ++ wS g cy u.2.2.2.2)))))) H → va_D A (wH h cy σ ++ ([(o, .inl (cy 1, 1, .inr (.inl f)))] ++ (wC g cy u.1 ++ (wl ad cy (z 0) (g 20) u.2.1 ++ (wl ad cy (z 0) (g 21) u.2.2.1 ++ (wl ad cy (z 0) (g 22) u.2.2.2.1 ++ wS g cy u.2.2.2.2)))))) → va_S A s.heap H locs → lv_has ls 9 [(0, .ref b), (1, .ref (h 16)), (2, .ref (g 0)), (3, .ref o), (4, .int (nI i))] → W p l e9 room_1 s m #[Value.ref b] below meth c H locs (k0 + 30) (n0 + 480) Q (F0 m 1951 ls [])) (σ : SX) (f : Nat → Int64) (u : FX) (hF : wp_case1 fu a1 σ f u K) : ∀ (H : Heap) (locs : List Loc) (ls : Array Slot), va_P (dC, dI) classes (wH h cy σ ++ ([(o, .inl (cy 1, 1, .inr (.inl f)))] ++ (wC g cy u.1 ++ (wl ad cy (z 0) (g 20) u.2.1 ++ (wl ad cy (z 0) (g 21) u.2.2.1 ++ (wl ad cy (z 0) (g 22) u.2.2.2.1 ++ wS g cy u.2.2.2.2)))))) H → va_D A (wH h cy σ ++ ([(o, .inl (cy 1, 1, .inr (.inl f)))] ++ (wC g cy u.1 ++ (wl ad cy (z 0) (g 20) u.2.1 ++ (wl ad cy (z 0) (g 21) u.2.2.1 ++ (wl ad cy (z 0) (g 22) u.2.2.2.1 ++ wS g cy u.2.2.2.2)))))) → va_S A s.heap H locs → lv_has ls 9 [(0, .ref b), (1, .ref (h 16)), (2, .ref (g 0)), (3, .ref o), (4, .int (nI i))] → W p l e9 room_1 s m #[Value.ref b] below meth c H locs k0 n0 Q (F0 m 286 ls []) := by
  intro H locs ls hP hD hS hl
  have hx := hC.1
  have hb := hC.2.1
  have hml := hC.2.2.2.1
  have hown := hC.2.2.2.2.1
  have hts := hC.2.2.2.2.2.1
  unfold wp_case1 at hF
  refine lv_aload_n hx hb dL_law_286 rfl (lv_at hl 1 rfl) ?_
  refine lv_aload_n hx hb dL_law_287 rfl (lv_at hl 0 rfl) ?_
  refine lv_iload hx hb dL_law_288 (lv_at hl 4 rfl) ?_
  refine lv_iconst (v := 1) hx hb dL_law_290 (by decide) ?_
  refine lv_iadd hx hb dL_law_291 ?_
  refine va_sld hx hb hX hbl hbA hS hi1 dL_law_292 ?_
  rw [hx1]
  refine lv_aload_n hx hb dL_law_293 rfl (lv_at hl 3 rfl) ?_
  refine lwWrap (x := wO h cy o σ f) (wn := fun (u : SX × (Nat → Int64)) => wO h cy o u.1 u.2) (As := [.ref (h 16), .int a1, .ref o]) (rest := []) (fpA _ _ _) hC hK hXS hXZ hN hP hD hS hA (m_L_drill l hl9 dC dI h cy sa o _ fu σ f a1 _ hF) k_L_drill q499 ⟨rfl, rfl⟩ ⟨Nat.le_of_ble_eq_true rfl, Nat.le_of_ble_eq_true rfl⟩ hl.1 rfl rfl (Nat.le_of_ble_eq_true rfl) dL_law_294 ⟨by show _ ≤ 603072; omega, by show _ ≤ 7211114; omega⟩ (fun r294 v9 H1 locs hF hP1 hD1 hS => ?_)
  obtain ⟨s294, f294⟩ := v9
  have hP := va_P.perm (fpA _ _ _).symm hP1
  have hD := va_D.perm (fpA _ _ _).symm hD1
  generalize H1 = H at hP hS ⊢
  have hP : va_P (dC, dI) classes (wH h cy s294 ++ ([(o, .inl (cy 1, 1, .inr (.inl f294)))] ++ (wC g cy u.1 ++ (wl ad cy (z 0) (g 20) u.2.1 ++ (wl ad cy (z 0) (g 21) u.2.2.1 ++ (wl ad cy (z 0) (g 22) u.2.2.2.1 ++ wS g cy u.2.2.2.2)))))) H := hP
  have hD : va_D A (wH h cy s294 ++ ([(o, .inl (cy 1, 1, .inr (.inl f294)))] ++ (wC g cy u.1 ++ (wl ad cy (z 0) (g 20) u.2.1 ++ (wl ad cy (z 0) (g 21) u.2.2.1 ++ (wl ad cy (z 0) (g 22) u.2.2.2.1 ++ wS g cy u.2.2.2.2)))))) := hD
  refine lv_istore (lv' := [(5, .int r294), (0, .ref b), (1, .ref (h 16)), (2, .ref (g 0)), (3, .ref o), (4, .int (nI i))]) hx hb dL_law_297 hl (by decide) rfl (fun ls hl => ?_)
  refine lv_aload_n hx hb dL_law_299 rfl (lv_at hl 3 rfl) ?_
  refine lv_aload_n hx hb dL_law_300 rfl (lv_at hl 1 rfl) ?_
  refine lv_iload hx hb dL_law_301 (lv_at hl 5 rfl) ?_
  refine lv_iconst (v := 1) hx hb dL_law_303 (by decide) ?_
  refine lv_iadd hx hb dL_law_304 ?_
  refine va_sld hx hb hX hbl hbA hS hi1 dL_law_305 ?_
  rw [hx1]
  refine cfVi (x := wC g cy u.1 ++ (wl ad cy (z 0) (g 20) u.2.1 ++ (wl ad cy (z 0) (g 21) u.2.2.1 ++ (wl ad cy (z 0) (g 22) u.2.2.2.1 ++ wS g cy u.2.2.2.2)))) (As := [.int a1]) (rest := []) (fpF _ _ _) hC hK hP hD hZ hvk hS hA rfl (m_X4_drill l dC dI g cy z ad _ fu u a1 _ hF) k_X4_drill q1126 ⟨rfl, rfl⟩ ⟨Nat.le_of_ble_eq_true rfl, Nat.le_of_ble_eq_true rfl⟩ hl.1 rfl rfl (Nat.le_of_ble_eq_true rfl) dL_law_306 ⟨by show _ ≤ 603072; omega, by show _ ≤ 7211114; omega⟩ (fun r306 s306 H1 locs hF hP1 hD1 hS => ?_)
  have hP := va_P.perm (fpF _ _ _).symm hP1
  have hD := va_D.perm (fpF _ _ _).symm hD1
  generalize H1 = H at hP hS ⊢
  have hP : va_P (dC, dI) classes (wH h cy s294 ++ ([(o, .inl (cy 1, 1, .inr (.inl f294)))] ++ (wC g cy s306.1 ++ (wl ad cy (z 0) (g 20) s306.2.1 ++ (wl ad cy (z 0) (g 21) s306.2.2.1 ++ (wl ad cy (z 0) (g 22) s306.2.2.2.1 ++ wS g cy s306.2.2.2.2)))))) H := hP
  have hD : va_D A (wH h cy s294 ++ ([(o, .inl (cy 1, 1, .inr (.inl f294)))] ++ (wC g cy s306.1 ++ (wl ad cy (z 0) (g 20) s306.2.1 ++ (wl ad cy (z 0) (g 21) s306.2.2.1 ++ (wl ad cy (z 0) (g 22) s306.2.2.2.1 ++ wS g cy s306.2.2.2.2)))))) := hD
  refine lv_istore (lv' := [(6, .int r306), (5, .int r294), (0, .ref b), (1, .ref (h 16)), (2, .ref (g 0)), (3, .ref o), (4, .int (nI i))]) hx hb dL_law_309 hl (by decide) rfl (fun ls hl => ?_)
  refine lv_aload_n hx hb dL_law_311 rfl (lv_at hl 4 rfl) ?_
  have hPc := fw_get (fp2 _ _ _ _) hP
  refine cpVi (q0 := 0) (As := []) (rest := []) hC hK hPc rfl rfl (m_X4_thrown l dC dI g cy s306.1 _ hF) k_X4_thrown q1009 ⟨rfl, rfl⟩ ⟨Nat.le_of_ble_eq_true rfl, Nat.le_of_ble_eq_true rfl⟩ hl.1 rfl rfl (Nat.le_of_ble_eq_true rfl) dL_law_312 ⟨by show _ ≤ 603072; omega, by show _ ≤ 7211114; omega⟩ (fun r312 hF => ?_)
  refine lv_iload hx hb dL_law_315 (lv_at hl 1 rfl) ?_
  refine lv_icmp_eq (tgt := 322) hx hb dL_law_317 (by decide) (fun cz => ?_) (fun cz => ?_)
  · have hF := hF.1 cz
    refine lv_iload hx hb dL_law_322 (lv_at hl 1 rfl) ?_
    refine lv_if_ne (tgt := 339) hx hb dL_law_324 (by decide) (fun cz => ?_) (fun cz => ?_)
    · have hF := hF.1 cz
      refine lv_goto (tgt := 1951) hx hb dL_law_339 (by decide) ?_
      refine W.widen (k := k0 + 30) (n := n0 + 480) (by omega) (by omega) ?_
      exact hJ _ _ _ hF _ _ _ hP hD hS (lv_sub hl [2, 3, 4, 5, 6] rfl)
    · have hF := hF.2 cz
      refine lv_aload_n hx hb dL_law_327 rfl (lv_at hl 5 rfl) ?_
      refine lv_iconst (v := 0) hx hb dL_law_328 (by decide) ?_
      refine va_lald hx hb hK.1 hP 21 1 rfl rfl (show vp_in 0 1 from vp_in_nI (n := 0) (by omega) (by omega)) dL_law_329 ?_
      refine lv_iload hx hb dL_law_330 (lv_at hl 0 rfl) ?_
      refine lv_i2l hx hb dL_law_332 rfl ?_
      refine W.lcmp hx hb dL_law_333 ?_
      refine lv_if_eq (tgt := 339) hx hb dL_law_334 (by decide) (fun cz => ?_) (fun cz => ?_)
      · have hF := hF.1 cz
        refine lv_goto (tgt := 1951) hx hb dL_law_339 (by decide) ?_
        refine W.widen (k := k0 + 30) (n := n0 + 480) (by omega) (by omega) ?_
        exact hJ _ _ _ hF _ _ _ hP hD hS (lv_sub hl [2, 3, 4, 5, 6] rfl)
      · have hF := hF.2 cz
        refine lv_iconst (v := 0) hx hb dL_law_337 (by decide) ?_
        exact hF.elim
  · have hF := hF.2 cz
    refine lv_iconst (v := 0) hx hb dL_law_320 (by decide) ?_
    exact hF.elim
def wp_case2 (fu : Nat) (a1 : Int32) (σ : SX) (f : Nat → Int64) (u : FX) (K : SX → (Nat → Int64) → FX → Prop) : Prop := (wp_L_fill fu σ f a1 (fun r350 s350 f350 => (wp_X4_fill fu u a1 (fun r362 s362 => (wp_X4_thrown s362.1 (fun r368 => ((r368 = r350 → ((¬ r350 = 0 → (K s350 f350 s362)) ∧ (r350 = 0 → (((lg_cmp (f350 (0 : Int32).toNatClampNeg) r362.toInt64) = 0 → (K s350 f350 s362)) ∧ (¬ (lg_cmp (f350 (0 : Int32).toNatClampNeg) r362.toInt64) = 0 → False))))) ∧ (¬ r368 = r350 → False))))))))
set_option maxHeartbeats 4000000 in
set_option maxRecDepth 100000 in
theorem m_case2 {p : Program} {e9 : Env} {s : State} {m : MethodId} {below : List Frame} {meth : Method} {c : Code} (l : Launch) (hl9 : l.stackTraces = false) {dC : Nat → ClassId} {dI : Nat → Nat → Nat} {h g : Nat → Nat} {cy : Nat → ClassId} {sa z ad : Nat → Nat} {o b L fu i k0 n0 : Nat} {xs : Nat → Int32} {A : Nat → Prop} {Q : State → Prop} {a0 a1 a2 : Int32}
  (hC : Cx p s m #[Value.ref b] meth c RL code 9 ret) (hK : kwX dC dI cy s) (hXS : XS sa s) (hXZ : XZ A s s.heap) (hN : NCL s) (hZ : ZF z ad A s s.heap) (hvk : vk_R "PegshoreHouseModel" 92 "std" (z 4) s) (hX : va_X b L xs s s.heap) (hbl : b < s.heap.size) (hbA : ¬ A b) (hA : ∀ q : Nat, s.heap.size ≤ q → A q)
  (hi1 : vp_in (nI i + 1) L) (hi2 : vp_in (nI i + 2) L) (hx1 : xs (nI i + 1).toNatClampNeg = a1) (hx2 : xs (nI i + 2).toNatClampNeg = a2) (hk0 : k0 + 30 ≤ 603072) (hn0 : n0 + 480 ≤ 7211114)
  (K : SX → (Nat → Int64) → FX → Prop) (hJ : ∀ σ f u, K σ f u → ∀ (H : Heap) (locs : List Loc) (ls : Array Slot), va_P (dC, dI) classes (wH h cy σ ++ ([(o, .inl (cy 1, 1, .inr (.inl f)))] ++ (wC g cy u.1 ++ (wl ad cy (z 0) (g 20) u.2.1 ++ (wl ad cy (z 0) (g 21) u.2.2.1 ++ (wl ad cy (z 0) (g 22) u.2.2.2.1 ++ wS g cy u.2.2.2.2)))))) H → va_D A (wH h cy σ ++ ([(o, .inl (cy 1, 1, .inr (.inl f)))] ++ (wC g cy u.1 ++ (wl ad cy (z 0) (g 20) u.2.1 ++ (wl ad cy (z 0) (g 21) u.2.2.1 ++ (wl ad cy (z 0) (g 22) u.2.2.2.1 ++ wS g cy u.2.2.2.2)))))) → va_S A s.heap H locs → lv_has ls 9 [(0, .ref b), (1, .ref (h 16)), (2, .ref (g 0)), (3, .ref o), (4, .int (nI i))] → W p l e9 room_1 s m #[Value.ref b] below meth c H locs (k0 + 30) (n0 + 480) Q (F0 m 1951 ls [])) (σ : SX) (f : Nat → Int64) (u : FX) (hF : wp_case2 fu a1 σ f u K) : ∀ (H : Heap) (locs : List Loc) (ls : Array Slot), va_P (dC, dI) classes (wH h cy σ ++ ([(o, .inl (cy 1, 1, .inr (.inl f)))] ++ (wC g cy u.1 ++ (wl ad cy (z 0) (g 20) u.2.1 ++ (wl ad cy (z 0) (g 21) u.2.2.1 ++ (wl ad cy (z 0) (g 22) u.2.2.2.1 ++ wS g cy u.2.2.2.2)))))) H → va_D A (wH h cy σ ++ ([(o, .inl (cy 1, 1, .inr (.inl f)))] ++ (wC g cy u.1 ++ (wl ad cy (z 0) (g 20) u.2.1 ++ (wl ad cy (z 0) (g 21) u.2.2.1 ++ (wl ad cy (z 0) (g 22) u.2.2.2.1 ++ wS g cy u.2.2.2.2)))))) → va_S A s.heap H locs → lv_has ls 9 [(0, .ref b), (1, .ref (h 16)), (2, .ref (g 0)), (3, .ref o), (4, .int (nI i))] → W p l e9 room_1 s m #[Value.ref b] below meth c H locs k0 n0 Q (F0 m 342 ls []) := by
  intro H locs ls hP hD hS hl
  have hx := hC.1
  have hb := hC.2.1
  have hml := hC.2.2.2.1
  have hown := hC.2.2.2.2.1
  have hts := hC.2.2.2.2.2.1
  unfold wp_case2 at hF
  refine lv_aload_n hx hb dL_law_342 rfl (lv_at hl 1 rfl) ?_
  refine lv_aload_n hx hb dL_law_343 rfl (lv_at hl 0 rfl) ?_
  refine lv_iload hx hb dL_law_344 (lv_at hl 4 rfl) ?_
  refine lv_iconst (v := 1) hx hb dL_law_346 (by decide) ?_
  refine lv_iadd hx hb dL_law_347 ?_
  refine va_sld hx hb hX hbl hbA hS hi1 dL_law_348 ?_
  rw [hx1]
  refine lv_aload_n hx hb dL_law_349 rfl (lv_at hl 3 rfl) ?_
  refine lwWrap (x := wO h cy o σ f) (wn := fun (u : SX × (Nat → Int64)) => wO h cy o u.1 u.2) (As := [.ref (h 16), .int a1, .ref o]) (rest := []) (fpA _ _ _) hC hK hXS hXZ hN hP hD hS hA (m_L_fill l hl9 dC dI h cy sa o _ fu σ f a1 _ hF) k_L_fill q554 ⟨rfl, rfl⟩ ⟨Nat.le_of_ble_eq_true rfl, Nat.le_of_ble_eq_true rfl⟩ hl.1 rfl rfl (Nat.le_of_ble_eq_true rfl) dL_law_350 ⟨by show _ ≤ 603072; omega, by show _ ≤ 7211114; omega⟩ (fun r350 v9 H1 locs hF hP1 hD1 hS => ?_)
  obtain ⟨s350, f350⟩ := v9
  have hP := va_P.perm (fpA _ _ _).symm hP1
  have hD := va_D.perm (fpA _ _ _).symm hD1
  generalize H1 = H at hP hS ⊢
  have hP : va_P (dC, dI) classes (wH h cy s350 ++ ([(o, .inl (cy 1, 1, .inr (.inl f350)))] ++ (wC g cy u.1 ++ (wl ad cy (z 0) (g 20) u.2.1 ++ (wl ad cy (z 0) (g 21) u.2.2.1 ++ (wl ad cy (z 0) (g 22) u.2.2.2.1 ++ wS g cy u.2.2.2.2)))))) H := hP
  have hD : va_D A (wH h cy s350 ++ ([(o, .inl (cy 1, 1, .inr (.inl f350)))] ++ (wC g cy u.1 ++ (wl ad cy (z 0) (g 20) u.2.1 ++ (wl ad cy (z 0) (g 21) u.2.2.1 ++ (wl ad cy (z 0) (g 22) u.2.2.2.1 ++ wS g cy u.2.2.2.2)))))) := hD
  refine lv_istore (lv' := [(5, .int r350), (0, .ref b), (1, .ref (h 16)), (2, .ref (g 0)), (3, .ref o), (4, .int (nI i))]) hx hb dL_law_353 hl (by decide) rfl (fun ls hl => ?_)
  refine lv_aload_n hx hb dL_law_355 rfl (lv_at hl 3 rfl) ?_
  refine lv_aload_n hx hb dL_law_356 rfl (lv_at hl 1 rfl) ?_
  refine lv_iload hx hb dL_law_357 (lv_at hl 5 rfl) ?_
  refine lv_iconst (v := 1) hx hb dL_law_359 (by decide) ?_
  refine lv_iadd hx hb dL_law_360 ?_
  refine va_sld hx hb hX hbl hbA hS hi1 dL_law_361 ?_
  rw [hx1]
  refine cfVi (x := wC g cy u.1 ++ (wl ad cy (z 0) (g 20) u.2.1 ++ (wl ad cy (z 0) (g 21) u.2.2.1 ++ (wl ad cy (z 0) (g 22) u.2.2.2.1 ++ wS g cy u.2.2.2.2)))) (As := [.int a1]) (rest := []) (fpF _ _ _) hC hK hP hD hZ hvk hS hA rfl (m_X4_fill l dC dI g cy z ad _ fu u a1 _ hF) k_X4_fill q1144 ⟨rfl, rfl⟩ ⟨Nat.le_of_ble_eq_true rfl, Nat.le_of_ble_eq_true rfl⟩ hl.1 rfl rfl (Nat.le_of_ble_eq_true rfl) dL_law_362 ⟨by show _ ≤ 603072; omega, by show _ ≤ 7211114; omega⟩ (fun r362 s362 H1 locs hF hP1 hD1 hS => ?_)
  have hP := va_P.perm (fpF _ _ _).symm hP1
  have hD := va_D.perm (fpF _ _ _).symm hD1
  generalize H1 = H at hP hS ⊢
  have hP : va_P (dC, dI) classes (wH h cy s350 ++ ([(o, .inl (cy 1, 1, .inr (.inl f350)))] ++ (wC g cy s362.1 ++ (wl ad cy (z 0) (g 20) s362.2.1 ++ (wl ad cy (z 0) (g 21) s362.2.2.1 ++ (wl ad cy (z 0) (g 22) s362.2.2.2.1 ++ wS g cy s362.2.2.2.2)))))) H := hP
  have hD : va_D A (wH h cy s350 ++ ([(o, .inl (cy 1, 1, .inr (.inl f350)))] ++ (wC g cy s362.1 ++ (wl ad cy (z 0) (g 20) s362.2.1 ++ (wl ad cy (z 0) (g 21) s362.2.2.1 ++ (wl ad cy (z 0) (g 22) s362.2.2.2.1 ++ wS g cy s362.2.2.2.2)))))) := hD
  refine lv_istore (lv' := [(6, .int r362), (5, .int r350), (0, .ref b), (1, .ref (h 16)), (2, .ref (g 0)), (3, .ref o), (4, .int (nI i))]) hx hb dL_law_365 hl (by decide) rfl (fun ls hl => ?_)
  refine lv_aload_n hx hb dL_law_367 rfl (lv_at hl 4 rfl) ?_
  have hPc := fw_get (fp2 _ _ _ _) hP
  refine cpVi (q0 := 0) (As := []) (rest := []) hC hK hPc rfl rfl (m_X4_thrown l dC dI g cy s362.1 _ hF) k_X4_thrown q1009 ⟨rfl, rfl⟩ ⟨Nat.le_of_ble_eq_true rfl, Nat.le_of_ble_eq_true rfl⟩ hl.1 rfl rfl (Nat.le_of_ble_eq_true rfl) dL_law_368 ⟨by show _ ≤ 603072; omega, by show _ ≤ 7211114; omega⟩ (fun r368 hF => ?_)
  refine lv_iload hx hb dL_law_371 (lv_at hl 1 rfl) ?_
  refine lv_icmp_eq (tgt := 378) hx hb dL_law_373 (by decide) (fun cz => ?_) (fun cz => ?_)
  · have hF := hF.1 cz
    refine lv_iload hx hb dL_law_378 (lv_at hl 1 rfl) ?_
    refine lv_if_ne (tgt := 395) hx hb dL_law_380 (by decide) (fun cz => ?_) (fun cz => ?_)
    · have hF := hF.1 cz
      refine lv_goto (tgt := 1951) hx hb dL_law_395 (by decide) ?_
      refine W.widen (k := k0 + 30) (n := n0 + 480) (by omega) (by omega) ?_
      exact hJ _ _ _ hF _ _ _ hP hD hS (lv_sub hl [2, 3, 4, 5, 6] rfl)
    · have hF := hF.2 cz
      refine lv_aload_n hx hb dL_law_383 rfl (lv_at hl 5 rfl) ?_
      refine lv_iconst (v := 0) hx hb dL_law_384 (by decide) ?_
      refine va_lald hx hb hK.1 hP 21 1 rfl rfl (show vp_in 0 1 from vp_in_nI (n := 0) (by omega) (by omega)) dL_law_385 ?_
      refine lv_iload hx hb dL_law_386 (lv_at hl 0 rfl) ?_
      refine lv_i2l hx hb dL_law_388 rfl ?_
      refine W.lcmp hx hb dL_law_389 ?_
      refine lv_if_eq (tgt := 395) hx hb dL_law_390 (by decide) (fun cz => ?_) (fun cz => ?_)
      · have hF := hF.1 cz
        refine lv_goto (tgt := 1951) hx hb dL_law_395 (by decide) ?_
        refine W.widen (k := k0 + 30) (n := n0 + 480) (by omega) (by omega) ?_
        exact hJ _ _ _ hF _ _ _ hP hD hS (lv_sub hl [2, 3, 4, 5, 6] rfl)
      · have hF := hF.2 cz
        refine lv_iconst (v := 0) hx hb dL_law_393 (by decide) ?_
        exact hF.elim
  · have hF := hF.2 cz
    refine lv_iconst (v := 0) hx hb dL_law_376 (by decide) ?_
    exact hF.elim
def wp_case3 (fu : Nat) (a1 : Int32) (σ : SX) (f : Nat → Int64) (u : FX) (K : SX → (Nat → Int64) → FX → Prop) : Prop := (wp_L_hole σ f a1 (fun r406 s406 f406 => (wp_X4_hole fu u.1 a1 (fun r418 s418 => (wp_X4_thrown ((s418, u.2).1) (fun r424 => ((r424 = r406 → ((¬ r406 = 0 → (K s406 f406 (s418, u.2))) ∧ (r406 = 0 → (((lg_cmp (f406 (0 : Int32).toNatClampNeg) r418.toInt64) = 0 → (K s406 f406 (s418, u.2))) ∧ (¬ (lg_cmp (f406 (0 : Int32).toNatClampNeg) r418.toInt64) = 0 → False))))) ∧ (¬ r424 = r406 → False))))))))
set_option maxHeartbeats 4000000 in
set_option maxRecDepth 100000 in
theorem m_case3 {p : Program} {e9 : Env} {s : State} {m : MethodId} {below : List Frame} {meth : Method} {c : Code} (l : Launch) (hl9 : l.stackTraces = false) {dC : Nat → ClassId} {dI : Nat → Nat → Nat} {h g : Nat → Nat} {cy : Nat → ClassId} {sa z ad : Nat → Nat} {o b L fu i k0 n0 : Nat} {xs : Nat → Int32} {A : Nat → Prop} {Q : State → Prop} {a0 a1 a2 : Int32}
  (hC : Cx p s m #[Value.ref b] meth c RL code 9 ret) (hK : kwX dC dI cy s) (hXS : XS sa s) (hXZ : XZ A s s.heap) (hN : NCL s) (hZ : ZF z ad A s s.heap) (hvk : vk_R "PegshoreHouseModel" 92 "std" (z 4) s) (hX : va_X b L xs s s.heap) (hbl : b < s.heap.size) (hbA : ¬ A b) (hA : ∀ q : Nat, s.heap.size ≤ q → A q)
  (hi1 : vp_in (nI i + 1) L) (hi2 : vp_in (nI i + 2) L) (hx1 : xs (nI i + 1).toNatClampNeg = a1) (hx2 : xs (nI i + 2).toNatClampNeg = a2) (hk0 : k0 + 30 ≤ 603072) (hn0 : n0 + 480 ≤ 7211114)
  (K : SX → (Nat → Int64) → FX → Prop) (hJ : ∀ σ f u, K σ f u → ∀ (H : Heap) (locs : List Loc) (ls : Array Slot), va_P (dC, dI) classes (wH h cy σ ++ ([(o, .inl (cy 1, 1, .inr (.inl f)))] ++ (wC g cy u.1 ++ (wl ad cy (z 0) (g 20) u.2.1 ++ (wl ad cy (z 0) (g 21) u.2.2.1 ++ (wl ad cy (z 0) (g 22) u.2.2.2.1 ++ wS g cy u.2.2.2.2)))))) H → va_D A (wH h cy σ ++ ([(o, .inl (cy 1, 1, .inr (.inl f)))] ++ (wC g cy u.1 ++ (wl ad cy (z 0) (g 20) u.2.1 ++ (wl ad cy (z 0) (g 21) u.2.2.1 ++ (wl ad cy (z 0) (g 22) u.2.2.2.1 ++ wS g cy u.2.2.2.2)))))) → va_S A s.heap H locs → lv_has ls 9 [(0, .ref b), (1, .ref (h 16)), (2, .ref (g 0)), (3, .ref o), (4, .int (nI i))] → W p l e9 room_1 s m #[Value.ref b] below meth c H locs (k0 + 30) (n0 + 480) Q (F0 m 1951 ls [])) (σ : SX) (f : Nat → Int64) (u : FX) (hF : wp_case3 fu a1 σ f u K) : ∀ (H : Heap) (locs : List Loc) (ls : Array Slot), va_P (dC, dI) classes (wH h cy σ ++ ([(o, .inl (cy 1, 1, .inr (.inl f)))] ++ (wC g cy u.1 ++ (wl ad cy (z 0) (g 20) u.2.1 ++ (wl ad cy (z 0) (g 21) u.2.2.1 ++ (wl ad cy (z 0) (g 22) u.2.2.2.1 ++ wS g cy u.2.2.2.2)))))) H → va_D A (wH h cy σ ++ ([(o, .inl (cy 1, 1, .inr (.inl f)))] ++ (wC g cy u.1 ++ (wl ad cy (z 0) (g 20) u.2.1 ++ (wl ad cy (z 0) (g 21) u.2.2.1 ++ (wl ad cy (z 0) (g 22) u.2.2.2.1 ++ wS g cy u.2.2.2.2)))))) → va_S A s.heap H locs → lv_has ls 9 [(0, .ref b), (1, .ref (h 16)), (2, .ref (g 0)), (3, .ref o), (4, .int (nI i))] → W p l e9 room_1 s m #[Value.ref b] below meth c H locs k0 n0 Q (F0 m 398 ls []) := by
  intro H locs ls hP hD hS hl
  have hx := hC.1
  have hb := hC.2.1
  have hml := hC.2.2.2.1
  have hown := hC.2.2.2.2.1
  have hts := hC.2.2.2.2.2.1
  unfold wp_case3 at hF
  refine lv_aload_n hx hb dL_law_398 rfl (lv_at hl 1 rfl) ?_
  refine lv_aload_n hx hb dL_law_399 rfl (lv_at hl 0 rfl) ?_
  refine lv_iload hx hb dL_law_400 (lv_at hl 4 rfl) ?_
  refine lv_iconst (v := 1) hx hb dL_law_402 (by decide) ?_
  refine lv_iadd hx hb dL_law_403 ?_
  refine va_sld hx hb hX hbl hbA hS hi1 dL_law_404 ?_
  rw [hx1]
  refine lv_aload_n hx hb dL_law_405 rfl (lv_at hl 3 rfl) ?_
  refine lwWrap (x := wO h cy o σ f) (wn := fun (u : SX × (Nat → Int64)) => wO h cy o u.1 u.2) (As := [.ref (h 16), .int a1, .ref o]) (rest := []) (fpA _ _ _) hC hK hXS hXZ hN hP hD hS hA (m_L_hole l hl9 dC dI h cy sa o _ σ f a1 _ hF) k_L_hole q566 ⟨rfl, rfl⟩ ⟨Nat.le_of_ble_eq_true rfl, Nat.le_of_ble_eq_true rfl⟩ hl.1 rfl rfl (Nat.le_of_ble_eq_true rfl) dL_law_406 ⟨by show _ ≤ 603072; omega, by show _ ≤ 7211114; omega⟩ (fun r406 v9 H1 locs hF hP1 hD1 hS => ?_)
  obtain ⟨s406, f406⟩ := v9
  have hP := va_P.perm (fpA _ _ _).symm hP1
  have hD := va_D.perm (fpA _ _ _).symm hD1
  generalize H1 = H at hP hS ⊢
  have hP : va_P (dC, dI) classes (wH h cy s406 ++ ([(o, .inl (cy 1, 1, .inr (.inl f406)))] ++ (wC g cy u.1 ++ (wl ad cy (z 0) (g 20) u.2.1 ++ (wl ad cy (z 0) (g 21) u.2.2.1 ++ (wl ad cy (z 0) (g 22) u.2.2.2.1 ++ wS g cy u.2.2.2.2)))))) H := hP
  have hD : va_D A (wH h cy s406 ++ ([(o, .inl (cy 1, 1, .inr (.inl f406)))] ++ (wC g cy u.1 ++ (wl ad cy (z 0) (g 20) u.2.1 ++ (wl ad cy (z 0) (g 21) u.2.2.1 ++ (wl ad cy (z 0) (g 22) u.2.2.2.1 ++ wS g cy u.2.2.2.2)))))) := hD
  refine lv_istore (lv' := [(5, .int r406), (0, .ref b), (1, .ref (h 16)), (2, .ref (g 0)), (3, .ref o), (4, .int (nI i))]) hx hb dL_law_409 hl (by decide) rfl (fun ls hl => ?_)
  refine lv_aload_n hx hb dL_law_411 rfl (lv_at hl 3 rfl) ?_
  refine lv_aload_n hx hb dL_law_412 rfl (lv_at hl 1 rfl) ?_
  refine lv_iload hx hb dL_law_413 (lv_at hl 5 rfl) ?_
  refine lv_iconst (v := 1) hx hb dL_law_415 (by decide) ?_
  refine lv_iadd hx hb dL_law_416 ?_
  refine va_sld hx hb hX hbl hbA hS hi1 dL_law_417 ?_
  rw [hx1]
  have hPc := fw_get (fp2 _ _ _ _) hP
  have hDc := fw_getD (fp2 _ _ _ _) hD
  have hFc := fw_free (fp2 _ _ _ _) hD hS hA
  refine cwVi (q0 := 0) (As := [.int a1]) (rest := []) hC hK hPc hDc rfl rfl hS hFc (m_X4_hole l dC dI g cy _ fu u.1 a1 _ hF) k_X4_hole q1151 ⟨rfl, rfl⟩ ⟨Nat.le_of_ble_eq_true rfl, Nat.le_of_ble_eq_true rfl⟩ hl.1 rfl rfl (Nat.le_of_ble_eq_true rfl) dL_law_418 ⟨by show _ ≤ 603072; omega, by show _ ≤ 7211114; omega⟩ (fun r418 s418 H1 locs hF hP9 hD9 hk1 hS => ?_)
  obtain ⟨hP1, hD1⟩ := fw_join (fp2 _ _ _ _) hP hD hk1 hFc hP9 hD9
  have hP := va_P.perm (fp2 _ _ _ _).symm hP1
  have hD := va_D.perm (fp2 _ _ _ _).symm hD1
  generalize H1 = H at hP hS ⊢
  have hP : va_P (dC, dI) classes (wH h cy s406 ++ ([(o, .inl (cy 1, 1, .inr (.inl f406)))] ++ (wC g cy (s418, u.2).1 ++ (wl ad cy (z 0) (g 20) (s418, u.2).2.1 ++ (wl ad cy (z 0) (g 21) (s418, u.2).2.2.1 ++ (wl ad cy (z 0) (g 22) (s418, u.2).2.2.2.1 ++ wS g cy (s418, u.2).2.2.2.2)))))) H := hP
  have hD : va_D A (wH h cy s406 ++ ([(o, .inl (cy 1, 1, .inr (.inl f406)))] ++ (wC g cy (s418, u.2).1 ++ (wl ad cy (z 0) (g 20) (s418, u.2).2.1 ++ (wl ad cy (z 0) (g 21) (s418, u.2).2.2.1 ++ (wl ad cy (z 0) (g 22) (s418, u.2).2.2.2.1 ++ wS g cy (s418, u.2).2.2.2.2)))))) := hD
  refine lv_istore (lv' := [(6, .int r418), (5, .int r406), (0, .ref b), (1, .ref (h 16)), (2, .ref (g 0)), (3, .ref o), (4, .int (nI i))]) hx hb dL_law_421 hl (by decide) rfl (fun ls hl => ?_)
  refine lv_aload_n hx hb dL_law_423 rfl (lv_at hl 4 rfl) ?_
  have hPc := fw_get (fp2 _ _ _ _) hP
  refine cpVi (q0 := 0) (As := []) (rest := []) hC hK hPc rfl rfl (m_X4_thrown l dC dI g cy ((s418, u.2).1) _ hF) k_X4_thrown q1009 ⟨rfl, rfl⟩ ⟨Nat.le_of_ble_eq_true rfl, Nat.le_of_ble_eq_true rfl⟩ hl.1 rfl rfl (Nat.le_of_ble_eq_true rfl) dL_law_424 ⟨by show _ ≤ 603072; omega, by show _ ≤ 7211114; omega⟩ (fun r424 hF => ?_)
  refine lv_iload hx hb dL_law_427 (lv_at hl 1 rfl) ?_
  refine lv_icmp_eq (tgt := 434) hx hb dL_law_429 (by decide) (fun cz => ?_) (fun cz => ?_)
  · have hF := hF.1 cz
    refine lv_iload hx hb dL_law_434 (lv_at hl 1 rfl) ?_
    refine lv_if_ne (tgt := 451) hx hb dL_law_436 (by decide) (fun cz => ?_) (fun cz => ?_)
    · have hF := hF.1 cz
      refine lv_goto (tgt := 1951) hx hb dL_law_451 (by decide) ?_
      refine W.widen (k := k0 + 30) (n := n0 + 480) (by omega) (by omega) ?_
      exact hJ _ _ _ hF _ _ _ hP hD hS (lv_sub hl [2, 3, 4, 5, 6] rfl)
    · have hF := hF.2 cz
      refine lv_aload_n hx hb dL_law_439 rfl (lv_at hl 5 rfl) ?_
      refine lv_iconst (v := 0) hx hb dL_law_440 (by decide) ?_
      refine va_lald hx hb hK.1 hP 21 1 rfl rfl (show vp_in 0 1 from vp_in_nI (n := 0) (by omega) (by omega)) dL_law_441 ?_
      refine lv_iload hx hb dL_law_442 (lv_at hl 0 rfl) ?_
      refine lv_i2l hx hb dL_law_444 rfl ?_
      refine W.lcmp hx hb dL_law_445 ?_
      refine lv_if_eq (tgt := 451) hx hb dL_law_446 (by decide) (fun cz => ?_) (fun cz => ?_)
      · have hF := hF.1 cz
        refine lv_goto (tgt := 1951) hx hb dL_law_451 (by decide) ?_
        refine W.widen (k := k0 + 30) (n := n0 + 480) (by omega) (by omega) ?_
        exact hJ _ _ _ hF _ _ _ hP hD hS (lv_sub hl [2, 3, 4, 5, 6] rfl)
      · have hF := hF.2 cz
        refine lv_iconst (v := 0) hx hb dL_law_449 (by decide) ?_
        exact hF.elim
  · have hF := hF.2 cz
    refine lv_iconst (v := 0) hx hb dL_law_432 (by decide) ?_
    exact hF.elim
def wp_case4 (a1 : Int32) (σ : SX) (f : Nat → Int64) (u : FX) (K : SX → (Nat → Int64) → FX → Prop) : Prop := (wp_L_cell σ f a1 (fun r462 s462 f462 => (wp_X4_cell u.1 a1 (fun r474 s474 => (wp_X4_thrown ((s474, u.2).1) (fun r480 => ((r480 = r462 → ((¬ r462 = 0 → (K s462 f462 (s474, u.2))) ∧ (r462 = 0 → (((lg_cmp (f462 (0 : Int32).toNatClampNeg) r474.toInt64) = 0 → (K s462 f462 (s474, u.2))) ∧ (¬ (lg_cmp (f462 (0 : Int32).toNatClampNeg) r474.toInt64) = 0 → False))))) ∧ (¬ r480 = r462 → False))))))))
set_option maxHeartbeats 4000000 in
set_option maxRecDepth 100000 in
theorem m_case4 {p : Program} {e9 : Env} {s : State} {m : MethodId} {below : List Frame} {meth : Method} {c : Code} (l : Launch) (hl9 : l.stackTraces = false) {dC : Nat → ClassId} {dI : Nat → Nat → Nat} {h g : Nat → Nat} {cy : Nat → ClassId} {sa z ad : Nat → Nat} {o b L fu i k0 n0 : Nat} {xs : Nat → Int32} {A : Nat → Prop} {Q : State → Prop} {a0 a1 a2 : Int32}
  (hC : Cx p s m #[Value.ref b] meth c RL code 9 ret) (hK : kwX dC dI cy s) (hXS : XS sa s) (hXZ : XZ A s s.heap) (hN : NCL s) (hZ : ZF z ad A s s.heap) (hvk : vk_R "PegshoreHouseModel" 92 "std" (z 4) s) (hX : va_X b L xs s s.heap) (hbl : b < s.heap.size) (hbA : ¬ A b) (hA : ∀ q : Nat, s.heap.size ≤ q → A q)
  (hi1 : vp_in (nI i + 1) L) (hi2 : vp_in (nI i + 2) L) (hx1 : xs (nI i + 1).toNatClampNeg = a1) (hx2 : xs (nI i + 2).toNatClampNeg = a2) (hk0 : k0 + 30 ≤ 603072) (hn0 : n0 + 480 ≤ 7211114)
  (K : SX → (Nat → Int64) → FX → Prop) (hJ : ∀ σ f u, K σ f u → ∀ (H : Heap) (locs : List Loc) (ls : Array Slot), va_P (dC, dI) classes (wH h cy σ ++ ([(o, .inl (cy 1, 1, .inr (.inl f)))] ++ (wC g cy u.1 ++ (wl ad cy (z 0) (g 20) u.2.1 ++ (wl ad cy (z 0) (g 21) u.2.2.1 ++ (wl ad cy (z 0) (g 22) u.2.2.2.1 ++ wS g cy u.2.2.2.2)))))) H → va_D A (wH h cy σ ++ ([(o, .inl (cy 1, 1, .inr (.inl f)))] ++ (wC g cy u.1 ++ (wl ad cy (z 0) (g 20) u.2.1 ++ (wl ad cy (z 0) (g 21) u.2.2.1 ++ (wl ad cy (z 0) (g 22) u.2.2.2.1 ++ wS g cy u.2.2.2.2)))))) → va_S A s.heap H locs → lv_has ls 9 [(0, .ref b), (1, .ref (h 16)), (2, .ref (g 0)), (3, .ref o), (4, .int (nI i))] → W p l e9 room_1 s m #[Value.ref b] below meth c H locs (k0 + 30) (n0 + 480) Q (F0 m 1951 ls [])) (σ : SX) (f : Nat → Int64) (u : FX) (hF : wp_case4 a1 σ f u K) : ∀ (H : Heap) (locs : List Loc) (ls : Array Slot), va_P (dC, dI) classes (wH h cy σ ++ ([(o, .inl (cy 1, 1, .inr (.inl f)))] ++ (wC g cy u.1 ++ (wl ad cy (z 0) (g 20) u.2.1 ++ (wl ad cy (z 0) (g 21) u.2.2.1 ++ (wl ad cy (z 0) (g 22) u.2.2.2.1 ++ wS g cy u.2.2.2.2)))))) H → va_D A (wH h cy σ ++ ([(o, .inl (cy 1, 1, .inr (.inl f)))] ++ (wC g cy u.1 ++ (wl ad cy (z 0) (g 20) u.2.1 ++ (wl ad cy (z 0) (g 21) u.2.2.1 ++ (wl ad cy (z 0) (g 22) u.2.2.2.1 ++ wS g cy u.2.2.2.2)))))) → va_S A s.heap H locs → lv_has ls 9 [(0, .ref b), (1, .ref (h 16)), (2, .ref (g 0)), (3, .ref o), (4, .int (nI i))] → W p l e9 room_1 s m #[Value.ref b] below meth c H locs k0 n0 Q (F0 m 454 ls []) := by
  intro H locs ls hP hD hS hl
  have hx := hC.1
  have hb := hC.2.1
  have hml := hC.2.2.2.1
  have hown := hC.2.2.2.2.1
  have hts := hC.2.2.2.2.2.1
  unfold wp_case4 at hF
  refine lv_aload_n hx hb dL_law_454 rfl (lv_at hl 1 rfl) ?_
  refine lv_aload_n hx hb dL_law_455 rfl (lv_at hl 0 rfl) ?_
  refine lv_iload hx hb dL_law_456 (lv_at hl 4 rfl) ?_
  refine lv_iconst (v := 1) hx hb dL_law_458 (by decide) ?_
  refine lv_iadd hx hb dL_law_459 ?_
  refine va_sld hx hb hX hbl hbA hS hi1 dL_law_460 ?_
  rw [hx1]
  refine lv_aload_n hx hb dL_law_461 rfl (lv_at hl 3 rfl) ?_
  refine lwWrap (x := wO h cy o σ f) (wn := fun (u : SX × (Nat → Int64)) => wO h cy o u.1 u.2) (As := [.ref (h 16), .int a1, .ref o]) (rest := []) (fpA _ _ _) hC hK hXS hXZ hN hP hD hS hA (m_L_cell l hl9 dC dI h cy sa o _ σ f a1 _ hF) k_L_cell q589 ⟨rfl, rfl⟩ ⟨Nat.le_of_ble_eq_true rfl, Nat.le_of_ble_eq_true rfl⟩ hl.1 rfl rfl (Nat.le_of_ble_eq_true rfl) dL_law_462 ⟨by show _ ≤ 603072; omega, by show _ ≤ 7211114; omega⟩ (fun r462 v9 H1 locs hF hP1 hD1 hS => ?_)
  obtain ⟨s462, f462⟩ := v9
  have hP := va_P.perm (fpA _ _ _).symm hP1
  have hD := va_D.perm (fpA _ _ _).symm hD1
  generalize H1 = H at hP hS ⊢
  have hP : va_P (dC, dI) classes (wH h cy s462 ++ ([(o, .inl (cy 1, 1, .inr (.inl f462)))] ++ (wC g cy u.1 ++ (wl ad cy (z 0) (g 20) u.2.1 ++ (wl ad cy (z 0) (g 21) u.2.2.1 ++ (wl ad cy (z 0) (g 22) u.2.2.2.1 ++ wS g cy u.2.2.2.2)))))) H := hP
  have hD : va_D A (wH h cy s462 ++ ([(o, .inl (cy 1, 1, .inr (.inl f462)))] ++ (wC g cy u.1 ++ (wl ad cy (z 0) (g 20) u.2.1 ++ (wl ad cy (z 0) (g 21) u.2.2.1 ++ (wl ad cy (z 0) (g 22) u.2.2.2.1 ++ wS g cy u.2.2.2.2)))))) := hD
  refine lv_istore (lv' := [(5, .int r462), (0, .ref b), (1, .ref (h 16)), (2, .ref (g 0)), (3, .ref o), (4, .int (nI i))]) hx hb dL_law_465 hl (by decide) rfl (fun ls hl => ?_)
  refine lv_aload_n hx hb dL_law_467 rfl (lv_at hl 3 rfl) ?_
  refine lv_aload_n hx hb dL_law_468 rfl (lv_at hl 1 rfl) ?_
  refine lv_iload hx hb dL_law_469 (lv_at hl 5 rfl) ?_
  refine lv_iconst (v := 1) hx hb dL_law_471 (by decide) ?_
  refine lv_iadd hx hb dL_law_472 ?_
  refine va_sld hx hb hX hbl hbA hS hi1 dL_law_473 ?_
  rw [hx1]
  have hPc := fw_get (fp2 _ _ _ _) hP
  have hDc := fw_getD (fp2 _ _ _ _) hD
  have hFc := fw_free (fp2 _ _ _ _) hD hS hA
  refine cwVi (q0 := 0) (As := [.int a1]) (rest := []) hC hK hPc hDc rfl rfl hS hFc (m_X4_cell l dC dI g cy _ u.1 a1 _ hF) k_X4_cell q1155 ⟨rfl, rfl⟩ ⟨Nat.le_of_ble_eq_true rfl, Nat.le_of_ble_eq_true rfl⟩ hl.1 rfl rfl (Nat.le_of_ble_eq_true rfl) dL_law_474 ⟨by show _ ≤ 603072; omega, by show _ ≤ 7211114; omega⟩ (fun r474 s474 H1 locs hF hP9 hD9 hk1 hS => ?_)
  obtain ⟨hP1, hD1⟩ := fw_join (fp2 _ _ _ _) hP hD hk1 hFc hP9 hD9
  have hP := va_P.perm (fp2 _ _ _ _).symm hP1
  have hD := va_D.perm (fp2 _ _ _ _).symm hD1
  generalize H1 = H at hP hS ⊢
  have hP : va_P (dC, dI) classes (wH h cy s462 ++ ([(o, .inl (cy 1, 1, .inr (.inl f462)))] ++ (wC g cy (s474, u.2).1 ++ (wl ad cy (z 0) (g 20) (s474, u.2).2.1 ++ (wl ad cy (z 0) (g 21) (s474, u.2).2.2.1 ++ (wl ad cy (z 0) (g 22) (s474, u.2).2.2.2.1 ++ wS g cy (s474, u.2).2.2.2.2)))))) H := hP
  have hD : va_D A (wH h cy s462 ++ ([(o, .inl (cy 1, 1, .inr (.inl f462)))] ++ (wC g cy (s474, u.2).1 ++ (wl ad cy (z 0) (g 20) (s474, u.2).2.1 ++ (wl ad cy (z 0) (g 21) (s474, u.2).2.2.1 ++ (wl ad cy (z 0) (g 22) (s474, u.2).2.2.2.1 ++ wS g cy (s474, u.2).2.2.2.2)))))) := hD
  refine lv_istore (lv' := [(6, .int r474), (5, .int r462), (0, .ref b), (1, .ref (h 16)), (2, .ref (g 0)), (3, .ref o), (4, .int (nI i))]) hx hb dL_law_477 hl (by decide) rfl (fun ls hl => ?_)
  refine lv_aload_n hx hb dL_law_479 rfl (lv_at hl 4 rfl) ?_
  have hPc := fw_get (fp2 _ _ _ _) hP
  refine cpVi (q0 := 0) (As := []) (rest := []) hC hK hPc rfl rfl (m_X4_thrown l dC dI g cy ((s474, u.2).1) _ hF) k_X4_thrown q1009 ⟨rfl, rfl⟩ ⟨Nat.le_of_ble_eq_true rfl, Nat.le_of_ble_eq_true rfl⟩ hl.1 rfl rfl (Nat.le_of_ble_eq_true rfl) dL_law_480 ⟨by show _ ≤ 603072; omega, by show _ ≤ 7211114; omega⟩ (fun r480 hF => ?_)
  refine lv_iload hx hb dL_law_483 (lv_at hl 1 rfl) ?_
  refine lv_icmp_eq (tgt := 490) hx hb dL_law_485 (by decide) (fun cz => ?_) (fun cz => ?_)
  · have hF := hF.1 cz
    refine lv_iload hx hb dL_law_490 (lv_at hl 1 rfl) ?_
    refine lv_if_ne (tgt := 507) hx hb dL_law_492 (by decide) (fun cz => ?_) (fun cz => ?_)
    · have hF := hF.1 cz
      refine lv_goto (tgt := 1951) hx hb dL_law_507 (by decide) ?_
      refine W.widen (k := k0 + 30) (n := n0 + 480) (by omega) (by omega) ?_
      exact hJ _ _ _ hF _ _ _ hP hD hS (lv_sub hl [2, 3, 4, 5, 6] rfl)
    · have hF := hF.2 cz
      refine lv_aload_n hx hb dL_law_495 rfl (lv_at hl 5 rfl) ?_
      refine lv_iconst (v := 0) hx hb dL_law_496 (by decide) ?_
      refine va_lald hx hb hK.1 hP 21 1 rfl rfl (show vp_in 0 1 from vp_in_nI (n := 0) (by omega) (by omega)) dL_law_497 ?_
      refine lv_iload hx hb dL_law_498 (lv_at hl 0 rfl) ?_
      refine lv_i2l hx hb dL_law_500 rfl ?_
      refine W.lcmp hx hb dL_law_501 ?_
      refine lv_if_eq (tgt := 507) hx hb dL_law_502 (by decide) (fun cz => ?_) (fun cz => ?_)
      · have hF := hF.1 cz
        refine lv_goto (tgt := 1951) hx hb dL_law_507 (by decide) ?_
        refine W.widen (k := k0 + 30) (n := n0 + 480) (by omega) (by omega) ?_
        exact hJ _ _ _ hF _ _ _ hP hD hS (lv_sub hl [2, 3, 4, 5, 6] rfl)
      · have hF := hF.2 cz
        refine lv_iconst (v := 0) hx hb dL_law_505 (by decide) ?_
        exact hF.elim
  · have hF := hF.2 cz
    refine lv_iconst (v := 0) hx hb dL_law_488 (by decide) ?_
    exact hF.elim
def wp_case5 (σ : SX) (f : Nat → Int64) (u : FX) (K : SX → (Nat → Int64) → FX → Prop) : Prop := (wp_X3_lines σ (fun r511 => (wp_X4_lines u.1 (fun r515 s515 => ((r511 = r515 → (K σ f (s515, u.2))) ∧ (¬ r511 = r515 → False))))))
set_option maxHeartbeats 4000000 in
set_option maxRecDepth 100000 in
theorem m_case5 {p : Program} {e9 : Env} {s : State} {m : MethodId} {below : List Frame} {meth : Method} {c : Code} (l : Launch) (hl9 : l.stackTraces = false) {dC : Nat → ClassId} {dI : Nat → Nat → Nat} {h g : Nat → Nat} {cy : Nat → ClassId} {sa z ad : Nat → Nat} {o b L fu i k0 n0 : Nat} {xs : Nat → Int32} {A : Nat → Prop} {Q : State → Prop} {a0 a1 a2 : Int32}
  (hC : Cx p s m #[Value.ref b] meth c RL code 9 ret) (hK : kwX dC dI cy s) (hXS : XS sa s) (hXZ : XZ A s s.heap) (hN : NCL s) (hZ : ZF z ad A s s.heap) (hvk : vk_R "PegshoreHouseModel" 92 "std" (z 4) s) (hX : va_X b L xs s s.heap) (hbl : b < s.heap.size) (hbA : ¬ A b) (hA : ∀ q : Nat, s.heap.size ≤ q → A q)
  (hi1 : vp_in (nI i + 1) L) (hi2 : vp_in (nI i + 2) L) (hx1 : xs (nI i + 1).toNatClampNeg = a1) (hx2 : xs (nI i + 2).toNatClampNeg = a2) (hk0 : k0 + 30 ≤ 603072) (hn0 : n0 + 480 ≤ 7211114)
  (K : SX → (Nat → Int64) → FX → Prop) (hJ : ∀ σ f u, K σ f u → ∀ (H : Heap) (locs : List Loc) (ls : Array Slot), va_P (dC, dI) classes (wH h cy σ ++ ([(o, .inl (cy 1, 1, .inr (.inl f)))] ++ (wC g cy u.1 ++ (wl ad cy (z 0) (g 20) u.2.1 ++ (wl ad cy (z 0) (g 21) u.2.2.1 ++ (wl ad cy (z 0) (g 22) u.2.2.2.1 ++ wS g cy u.2.2.2.2)))))) H → va_D A (wH h cy σ ++ ([(o, .inl (cy 1, 1, .inr (.inl f)))] ++ (wC g cy u.1 ++ (wl ad cy (z 0) (g 20) u.2.1 ++ (wl ad cy (z 0) (g 21) u.2.2.1 ++ (wl ad cy (z 0) (g 22) u.2.2.2.1 ++ wS g cy u.2.2.2.2)))))) → va_S A s.heap H locs → lv_has ls 9 [(0, .ref b), (1, .ref (h 16)), (2, .ref (g 0)), (3, .ref o), (4, .int (nI i))] → W p l e9 room_1 s m #[Value.ref b] below meth c H locs (k0 + 30) (n0 + 480) Q (F0 m 1951 ls [])) (σ : SX) (f : Nat → Int64) (u : FX) (hF : wp_case5 σ f u K) : ∀ (H : Heap) (locs : List Loc) (ls : Array Slot), va_P (dC, dI) classes (wH h cy σ ++ ([(o, .inl (cy 1, 1, .inr (.inl f)))] ++ (wC g cy u.1 ++ (wl ad cy (z 0) (g 20) u.2.1 ++ (wl ad cy (z 0) (g 21) u.2.2.1 ++ (wl ad cy (z 0) (g 22) u.2.2.2.1 ++ wS g cy u.2.2.2.2)))))) H → va_D A (wH h cy σ ++ ([(o, .inl (cy 1, 1, .inr (.inl f)))] ++ (wC g cy u.1 ++ (wl ad cy (z 0) (g 20) u.2.1 ++ (wl ad cy (z 0) (g 21) u.2.2.1 ++ (wl ad cy (z 0) (g 22) u.2.2.2.1 ++ wS g cy u.2.2.2.2)))))) → va_S A s.heap H locs → lv_has ls 9 [(0, .ref b), (1, .ref (h 16)), (2, .ref (g 0)), (3, .ref o), (4, .int (nI i))] → W p l e9 room_1 s m #[Value.ref b] below meth c H locs k0 n0 Q (F0 m 510 ls []) := by
  intro H locs ls hP hD hS hl
  have hx := hC.1
  have hb := hC.2.1
  have hml := hC.2.2.2.1
  have hown := hC.2.2.2.2.1
  have hts := hC.2.2.2.2.2.1
  unfold wp_case5 at hF
  refine lv_aload_n hx hb dL_law_510 rfl (lv_at hl 1 rfl) ?_
  have hPc := fw_get (fp0 _ _) hP
  refine cpVi (q0 := 16) (As := []) (rest := []) hC hK hPc rfl rfl (m_X3_lines l dC dI h cy σ _ hF) k_X3_lines q160 ⟨rfl, rfl⟩ ⟨Nat.le_of_ble_eq_true rfl, Nat.le_of_ble_eq_true rfl⟩ hl.1 rfl rfl (Nat.le_of_ble_eq_true rfl) dL_law_511 ⟨by show _ ≤ 603072; omega, by show _ ≤ 7211114; omega⟩ (fun r511 hF => ?_)
  refine lv_aload_n hx hb dL_law_514 rfl (lv_at hl 2 rfl) ?_
  have hPc := fw_get (fp2 _ _ _ _) hP
  have hDc := fw_getD (fp2 _ _ _ _) hD
  have hFc := fw_free (fp2 _ _ _ _) hD hS hA
  refine cwVi (q0 := 0) (As := []) (rest := [.int r511]) hC hK hPc hDc rfl rfl hS hFc (m_X4_lines l dC dI g cy _ u.1 _ hF) k_X4_lines q1163 ⟨rfl, rfl⟩ ⟨Nat.le_of_ble_eq_true rfl, Nat.le_of_ble_eq_true rfl⟩ hl.1 rfl rfl (Nat.le_of_ble_eq_true rfl) dL_law_515 ⟨by show _ ≤ 603072; omega, by show _ ≤ 7211114; omega⟩ (fun r515 s515 H1 locs hF hP9 hD9 hk1 hS => ?_)
  obtain ⟨hP1, hD1⟩ := fw_join (fp2 _ _ _ _) hP hD hk1 hFc hP9 hD9
  have hP := va_P.perm (fp2 _ _ _ _).symm hP1
  have hD := va_D.perm (fp2 _ _ _ _).symm hD1
  generalize H1 = H at hP hS ⊢
  have hP : va_P (dC, dI) classes (wH h cy σ ++ ([(o, .inl (cy 1, 1, .inr (.inl f)))] ++ (wC g cy (s515, u.2).1 ++ (wl ad cy (z 0) (g 20) (s515, u.2).2.1 ++ (wl ad cy (z 0) (g 21) (s515, u.2).2.2.1 ++ (wl ad cy (z 0) (g 22) (s515, u.2).2.2.2.1 ++ wS g cy (s515, u.2).2.2.2.2)))))) H := hP
  have hD : va_D A (wH h cy σ ++ ([(o, .inl (cy 1, 1, .inr (.inl f)))] ++ (wC g cy (s515, u.2).1 ++ (wl ad cy (z 0) (g 20) (s515, u.2).2.1 ++ (wl ad cy (z 0) (g 21) (s515, u.2).2.2.1 ++ (wl ad cy (z 0) (g 22) (s515, u.2).2.2.2.1 ++ wS g cy (s515, u.2).2.2.2.2)))))) := hD
  refine lv_icmp_eq (tgt := 1951) hx hb dL_law_518 (by decide) (fun cz => ?_) (fun cz => ?_)
  · have hF := hF.1 cz
    refine W.widen (k := k0 + 30) (n := n0 + 480) (by omega) (by omega) ?_
    exact hJ _ _ _ hF _ _ _ hP hD hS (lv_sub hl [0, 1, 2, 3, 4] rfl)
  · have hF := hF.2 cz
    refine lv_iconst (v := 0) hx hb dL_law_521 (by decide) ?_
    exact hF.elim
def wp_case6 (fu : Nat) (σ : SX) (f : Nat → Int64) (u : FX) (K : SX → (Nat → Int64) → FX → Prop) : Prop := (wp_X3_symmetries fu σ (fun r524 => (wp_X4_symmetries fu u.1 (fun r528 s528 => ((r524 = r528 → (K σ f (s528, u.2))) ∧ (¬ r524 = r528 → False))))))
set_option maxHeartbeats 4000000 in
set_option maxRecDepth 100000 in
theorem m_case6 {p : Program} {e9 : Env} {s : State} {m : MethodId} {below : List Frame} {meth : Method} {c : Code} (l : Launch) (hl9 : l.stackTraces = false) {dC : Nat → ClassId} {dI : Nat → Nat → Nat} {h g : Nat → Nat} {cy : Nat → ClassId} {sa z ad : Nat → Nat} {o b L fu i k0 n0 : Nat} {xs : Nat → Int32} {A : Nat → Prop} {Q : State → Prop} {a0 a1 a2 : Int32}
  (hC : Cx p s m #[Value.ref b] meth c RL code 9 ret) (hK : kwX dC dI cy s) (hXS : XS sa s) (hXZ : XZ A s s.heap) (hN : NCL s) (hZ : ZF z ad A s s.heap) (hvk : vk_R "PegshoreHouseModel" 92 "std" (z 4) s) (hX : va_X b L xs s s.heap) (hbl : b < s.heap.size) (hbA : ¬ A b) (hA : ∀ q : Nat, s.heap.size ≤ q → A q)
  (hi1 : vp_in (nI i + 1) L) (hi2 : vp_in (nI i + 2) L) (hx1 : xs (nI i + 1).toNatClampNeg = a1) (hx2 : xs (nI i + 2).toNatClampNeg = a2) (hk0 : k0 + 30 ≤ 603072) (hn0 : n0 + 480 ≤ 7211114)
  (K : SX → (Nat → Int64) → FX → Prop) (hJ : ∀ σ f u, K σ f u → ∀ (H : Heap) (locs : List Loc) (ls : Array Slot), va_P (dC, dI) classes (wH h cy σ ++ ([(o, .inl (cy 1, 1, .inr (.inl f)))] ++ (wC g cy u.1 ++ (wl ad cy (z 0) (g 20) u.2.1 ++ (wl ad cy (z 0) (g 21) u.2.2.1 ++ (wl ad cy (z 0) (g 22) u.2.2.2.1 ++ wS g cy u.2.2.2.2)))))) H → va_D A (wH h cy σ ++ ([(o, .inl (cy 1, 1, .inr (.inl f)))] ++ (wC g cy u.1 ++ (wl ad cy (z 0) (g 20) u.2.1 ++ (wl ad cy (z 0) (g 21) u.2.2.1 ++ (wl ad cy (z 0) (g 22) u.2.2.2.1 ++ wS g cy u.2.2.2.2)))))) → va_S A s.heap H locs → lv_has ls 9 [(0, .ref b), (1, .ref (h 16)), (2, .ref (g 0)), (3, .ref o), (4, .int (nI i))] → W p l e9 room_1 s m #[Value.ref b] below meth c H locs (k0 + 30) (n0 + 480) Q (F0 m 1951 ls [])) (σ : SX) (f : Nat → Int64) (u : FX) (hF : wp_case6 fu σ f u K) : ∀ (H : Heap) (locs : List Loc) (ls : Array Slot), va_P (dC, dI) classes (wH h cy σ ++ ([(o, .inl (cy 1, 1, .inr (.inl f)))] ++ (wC g cy u.1 ++ (wl ad cy (z 0) (g 20) u.2.1 ++ (wl ad cy (z 0) (g 21) u.2.2.1 ++ (wl ad cy (z 0) (g 22) u.2.2.2.1 ++ wS g cy u.2.2.2.2)))))) H → va_D A (wH h cy σ ++ ([(o, .inl (cy 1, 1, .inr (.inl f)))] ++ (wC g cy u.1 ++ (wl ad cy (z 0) (g 20) u.2.1 ++ (wl ad cy (z 0) (g 21) u.2.2.1 ++ (wl ad cy (z 0) (g 22) u.2.2.2.1 ++ wS g cy u.2.2.2.2)))))) → va_S A s.heap H locs → lv_has ls 9 [(0, .ref b), (1, .ref (h 16)), (2, .ref (g 0)), (3, .ref o), (4, .int (nI i))] → W p l e9 room_1 s m #[Value.ref b] below meth c H locs k0 n0 Q (F0 m 523 ls []) := by
  intro H locs ls hP hD hS hl
  have hx := hC.1
  have hb := hC.2.1
  have hml := hC.2.2.2.1
  have hown := hC.2.2.2.2.1
  have hts := hC.2.2.2.2.2.1
  unfold wp_case6 at hF
  refine lv_aload_n hx hb dL_law_523 rfl (lv_at hl 1 rfl) ?_
  have hPc := fw_get (fp0 _ _) hP
  refine cpVi (q0 := 16) (As := []) (rest := []) hC hK hPc rfl rfl (m_X3_symmetries l dC dI h cy fu σ _ hF) k_X3_symmetries q172 ⟨rfl, rfl⟩ ⟨Nat.le_of_ble_eq_true rfl, Nat.le_of_ble_eq_true rfl⟩ hl.1 rfl rfl (Nat.le_of_ble_eq_true rfl) dL_law_524 ⟨by show _ ≤ 603072; omega, by show _ ≤ 7211114; omega⟩ (fun r524 hF => ?_)
  refine lv_aload_n hx hb dL_law_527 rfl (lv_at hl 2 rfl) ?_
  have hPc := fw_get (fp2 _ _ _ _) hP
  have hDc := fw_getD (fp2 _ _ _ _) hD
  have hFc := fw_free (fp2 _ _ _ _) hD hS hA
  refine cwVi (q0 := 0) (As := []) (rest := [.int r524]) hC hK hPc hDc rfl rfl hS hFc (m_X4_symmetries l dC dI g cy _ fu u.1 _ hF) k_X4_symmetries q1167 ⟨rfl, rfl⟩ ⟨Nat.le_of_ble_eq_true rfl, Nat.le_of_ble_eq_true rfl⟩ hl.1 rfl rfl (Nat.le_of_ble_eq_true rfl) dL_law_528 ⟨by show _ ≤ 603072; omega, by show _ ≤ 7211114; omega⟩ (fun r528 s528 H1 locs hF hP9 hD9 hk1 hS => ?_)
  obtain ⟨hP1, hD1⟩ := fw_join (fp2 _ _ _ _) hP hD hk1 hFc hP9 hD9
  have hP := va_P.perm (fp2 _ _ _ _).symm hP1
  have hD := va_D.perm (fp2 _ _ _ _).symm hD1
  generalize H1 = H at hP hS ⊢
  have hP : va_P (dC, dI) classes (wH h cy σ ++ ([(o, .inl (cy 1, 1, .inr (.inl f)))] ++ (wC g cy (s528, u.2).1 ++ (wl ad cy (z 0) (g 20) (s528, u.2).2.1 ++ (wl ad cy (z 0) (g 21) (s528, u.2).2.2.1 ++ (wl ad cy (z 0) (g 22) (s528, u.2).2.2.2.1 ++ wS g cy (s528, u.2).2.2.2.2)))))) H := hP
  have hD : va_D A (wH h cy σ ++ ([(o, .inl (cy 1, 1, .inr (.inl f)))] ++ (wC g cy (s528, u.2).1 ++ (wl ad cy (z 0) (g 20) (s528, u.2).2.1 ++ (wl ad cy (z 0) (g 21) (s528, u.2).2.2.1 ++ (wl ad cy (z 0) (g 22) (s528, u.2).2.2.2.1 ++ wS g cy (s528, u.2).2.2.2.2)))))) := hD
  refine lv_icmp_eq (tgt := 1951) hx hb dL_law_531 (by decide) (fun cz => ?_) (fun cz => ?_)
  · have hF := hF.1 cz
    refine W.widen (k := k0 + 30) (n := n0 + 480) (by omega) (by omega) ?_
    exact hJ _ _ _ hF _ _ _ hP hD hS (lv_sub hl [0, 1, 2, 3, 4] rfl)
  · have hF := hF.2 cz
    refine lv_iconst (v := 0) hx hb dL_law_534 (by decide) ?_
    exact hF.elim
def wp_case7 (a1 : Int32) (σ : SX) (f : Nat → Int64) (u : FX) (K : SX → (Nat → Int64) → FX → Prop) : Prop := (wp_L_put σ f a1 (fun r544 s544 f544 => (wp_X4_put u a1 (fun r556 s556 => (wp_X4_thrown s556.1 (fun r562 => ((r562 = r544 → ((¬ r544 = 0 → (K s544 f544 s556)) ∧ (r544 = 0 → (((lg_cmp (f544 (0 : Int32).toNatClampNeg) r556.toInt64) = 0 → (K s544 f544 s556)) ∧ (¬ (lg_cmp (f544 (0 : Int32).toNatClampNeg) r556.toInt64) = 0 → False))))) ∧ (¬ r562 = r544 → False))))))))
set_option maxHeartbeats 4000000 in
set_option maxRecDepth 100000 in
theorem m_case7 {p : Program} {e9 : Env} {s : State} {m : MethodId} {below : List Frame} {meth : Method} {c : Code} (l : Launch) (hl9 : l.stackTraces = false) {dC : Nat → ClassId} {dI : Nat → Nat → Nat} {h g : Nat → Nat} {cy : Nat → ClassId} {sa z ad : Nat → Nat} {o b L fu i k0 n0 : Nat} {xs : Nat → Int32} {A : Nat → Prop} {Q : State → Prop} {a0 a1 a2 : Int32}
  (hC : Cx p s m #[Value.ref b] meth c RL code 9 ret) (hK : kwX dC dI cy s) (hXS : XS sa s) (hXZ : XZ A s s.heap) (hN : NCL s) (hZ : ZF z ad A s s.heap) (hvk : vk_R "PegshoreHouseModel" 92 "std" (z 4) s) (hX : va_X b L xs s s.heap) (hbl : b < s.heap.size) (hbA : ¬ A b) (hA : ∀ q : Nat, s.heap.size ≤ q → A q)
  (hi1 : vp_in (nI i + 1) L) (hi2 : vp_in (nI i + 2) L) (hx1 : xs (nI i + 1).toNatClampNeg = a1) (hx2 : xs (nI i + 2).toNatClampNeg = a2) (hk0 : k0 + 30 ≤ 603072) (hn0 : n0 + 480 ≤ 7211114)
  (K : SX → (Nat → Int64) → FX → Prop) (hJ : ∀ σ f u, K σ f u → ∀ (H : Heap) (locs : List Loc) (ls : Array Slot), va_P (dC, dI) classes (wH h cy σ ++ ([(o, .inl (cy 1, 1, .inr (.inl f)))] ++ (wC g cy u.1 ++ (wl ad cy (z 0) (g 20) u.2.1 ++ (wl ad cy (z 0) (g 21) u.2.2.1 ++ (wl ad cy (z 0) (g 22) u.2.2.2.1 ++ wS g cy u.2.2.2.2)))))) H → va_D A (wH h cy σ ++ ([(o, .inl (cy 1, 1, .inr (.inl f)))] ++ (wC g cy u.1 ++ (wl ad cy (z 0) (g 20) u.2.1 ++ (wl ad cy (z 0) (g 21) u.2.2.1 ++ (wl ad cy (z 0) (g 22) u.2.2.2.1 ++ wS g cy u.2.2.2.2)))))) → va_S A s.heap H locs → lv_has ls 9 [(0, .ref b), (1, .ref (h 16)), (2, .ref (g 0)), (3, .ref o), (4, .int (nI i))] → W p l e9 room_1 s m #[Value.ref b] below meth c H locs (k0 + 30) (n0 + 480) Q (F0 m 1951 ls [])) (σ : SX) (f : Nat → Int64) (u : FX) (hF : wp_case7 a1 σ f u K) : ∀ (H : Heap) (locs : List Loc) (ls : Array Slot), va_P (dC, dI) classes (wH h cy σ ++ ([(o, .inl (cy 1, 1, .inr (.inl f)))] ++ (wC g cy u.1 ++ (wl ad cy (z 0) (g 20) u.2.1 ++ (wl ad cy (z 0) (g 21) u.2.2.1 ++ (wl ad cy (z 0) (g 22) u.2.2.2.1 ++ wS g cy u.2.2.2.2)))))) H → va_D A (wH h cy σ ++ ([(o, .inl (cy 1, 1, .inr (.inl f)))] ++ (wC g cy u.1 ++ (wl ad cy (z 0) (g 20) u.2.1 ++ (wl ad cy (z 0) (g 21) u.2.2.1 ++ (wl ad cy (z 0) (g 22) u.2.2.2.1 ++ wS g cy u.2.2.2.2)))))) → va_S A s.heap H locs → lv_has ls 9 [(0, .ref b), (1, .ref (h 16)), (2, .ref (g 0)), (3, .ref o), (4, .int (nI i))] → W p l e9 room_1 s m #[Value.ref b] below meth c H locs k0 n0 Q (F0 m 536 ls []) := by
  intro H locs ls hP hD hS hl
  have hx := hC.1
  have hb := hC.2.1
  have hml := hC.2.2.2.1
  have hown := hC.2.2.2.2.1
  have hts := hC.2.2.2.2.2.1
  unfold wp_case7 at hF
  refine lv_aload_n hx hb dL_law_536 rfl (lv_at hl 1 rfl) ?_
  refine lv_aload_n hx hb dL_law_537 rfl (lv_at hl 0 rfl) ?_
  refine lv_iload hx hb dL_law_538 (lv_at hl 4 rfl) ?_
  refine lv_iconst (v := 1) hx hb dL_law_540 (by decide) ?_
  refine lv_iadd hx hb dL_law_541 ?_
  refine va_sld hx hb hX hbl hbA hS hi1 dL_law_542 ?_
  rw [hx1]
  refine lv_aload_n hx hb dL_law_543 rfl (lv_at hl 3 rfl) ?_
  refine lwWrap (x := wO h cy o σ f) (wn := fun (u : SX × (Nat → Int64)) => wO h cy o u.1 u.2) (As := [.ref (h 16), .int a1, .ref o]) (rest := []) (fpA _ _ _) hC hK hXS hXZ hN hP hD hS hA (m_L_put l hl9 dC dI h cy sa o _ σ f a1 _ hF) k_L_put q637 ⟨rfl, rfl⟩ ⟨Nat.le_of_ble_eq_true rfl, Nat.le_of_ble_eq_true rfl⟩ hl.1 rfl rfl (Nat.le_of_ble_eq_true rfl) dL_law_544 ⟨by show _ ≤ 603072; omega, by show _ ≤ 7211114; omega⟩ (fun r544 v9 H1 locs hF hP1 hD1 hS => ?_)
  obtain ⟨s544, f544⟩ := v9
  have hP := va_P.perm (fpA _ _ _).symm hP1
  have hD := va_D.perm (fpA _ _ _).symm hD1
  generalize H1 = H at hP hS ⊢
  have hP : va_P (dC, dI) classes (wH h cy s544 ++ ([(o, .inl (cy 1, 1, .inr (.inl f544)))] ++ (wC g cy u.1 ++ (wl ad cy (z 0) (g 20) u.2.1 ++ (wl ad cy (z 0) (g 21) u.2.2.1 ++ (wl ad cy (z 0) (g 22) u.2.2.2.1 ++ wS g cy u.2.2.2.2)))))) H := hP
  have hD : va_D A (wH h cy s544 ++ ([(o, .inl (cy 1, 1, .inr (.inl f544)))] ++ (wC g cy u.1 ++ (wl ad cy (z 0) (g 20) u.2.1 ++ (wl ad cy (z 0) (g 21) u.2.2.1 ++ (wl ad cy (z 0) (g 22) u.2.2.2.1 ++ wS g cy u.2.2.2.2)))))) := hD
  refine lv_istore (lv' := [(5, .int r544), (0, .ref b), (1, .ref (h 16)), (2, .ref (g 0)), (3, .ref o), (4, .int (nI i))]) hx hb dL_law_547 hl (by decide) rfl (fun ls hl => ?_)
  refine lv_aload_n hx hb dL_law_549 rfl (lv_at hl 3 rfl) ?_
  refine lv_aload_n hx hb dL_law_550 rfl (lv_at hl 1 rfl) ?_
  refine lv_iload hx hb dL_law_551 (lv_at hl 5 rfl) ?_
  refine lv_iconst (v := 1) hx hb dL_law_553 (by decide) ?_
  refine lv_iadd hx hb dL_law_554 ?_
  refine va_sld hx hb hX hbl hbA hS hi1 dL_law_555 ?_
  rw [hx1]
  refine cfVi (x := wC g cy u.1 ++ (wl ad cy (z 0) (g 20) u.2.1 ++ (wl ad cy (z 0) (g 21) u.2.2.1 ++ (wl ad cy (z 0) (g 22) u.2.2.2.1 ++ wS g cy u.2.2.2.2)))) (As := [.int a1]) (rest := []) (fpF _ _ _) hC hK hP hD hZ hvk hS hA rfl (m_X4_put l dC dI g cy z ad _ u a1 _ hF) k_X4_put q1198 ⟨rfl, rfl⟩ ⟨Nat.le_of_ble_eq_true rfl, Nat.le_of_ble_eq_true rfl⟩ hl.1 rfl rfl (Nat.le_of_ble_eq_true rfl) dL_law_556 ⟨by show _ ≤ 603072; omega, by show _ ≤ 7211114; omega⟩ (fun r556 s556 H1 locs hF hP1 hD1 hS => ?_)
  have hP := va_P.perm (fpF _ _ _).symm hP1
  have hD := va_D.perm (fpF _ _ _).symm hD1
  generalize H1 = H at hP hS ⊢
  have hP : va_P (dC, dI) classes (wH h cy s544 ++ ([(o, .inl (cy 1, 1, .inr (.inl f544)))] ++ (wC g cy s556.1 ++ (wl ad cy (z 0) (g 20) s556.2.1 ++ (wl ad cy (z 0) (g 21) s556.2.2.1 ++ (wl ad cy (z 0) (g 22) s556.2.2.2.1 ++ wS g cy s556.2.2.2.2)))))) H := hP
  have hD : va_D A (wH h cy s544 ++ ([(o, .inl (cy 1, 1, .inr (.inl f544)))] ++ (wC g cy s556.1 ++ (wl ad cy (z 0) (g 20) s556.2.1 ++ (wl ad cy (z 0) (g 21) s556.2.2.1 ++ (wl ad cy (z 0) (g 22) s556.2.2.2.1 ++ wS g cy s556.2.2.2.2)))))) := hD
  refine lv_istore (lv' := [(6, .int r556), (5, .int r544), (0, .ref b), (1, .ref (h 16)), (2, .ref (g 0)), (3, .ref o), (4, .int (nI i))]) hx hb dL_law_559 hl (by decide) rfl (fun ls hl => ?_)
  refine lv_aload_n hx hb dL_law_561 rfl (lv_at hl 4 rfl) ?_
  have hPc := fw_get (fp2 _ _ _ _) hP
  refine cpVi (q0 := 0) (As := []) (rest := []) hC hK hPc rfl rfl (m_X4_thrown l dC dI g cy s556.1 _ hF) k_X4_thrown q1009 ⟨rfl, rfl⟩ ⟨Nat.le_of_ble_eq_true rfl, Nat.le_of_ble_eq_true rfl⟩ hl.1 rfl rfl (Nat.le_of_ble_eq_true rfl) dL_law_562 ⟨by show _ ≤ 603072; omega, by show _ ≤ 7211114; omega⟩ (fun r562 hF => ?_)
  refine lv_iload hx hb dL_law_565 (lv_at hl 1 rfl) ?_
  refine lv_icmp_eq (tgt := 572) hx hb dL_law_567 (by decide) (fun cz => ?_) (fun cz => ?_)
  · have hF := hF.1 cz
    refine lv_iload hx hb dL_law_572 (lv_at hl 1 rfl) ?_
    refine lv_if_ne (tgt := 589) hx hb dL_law_574 (by decide) (fun cz => ?_) (fun cz => ?_)
    · have hF := hF.1 cz
      refine lv_goto (tgt := 1951) hx hb dL_law_589 (by decide) ?_
      refine W.widen (k := k0 + 30) (n := n0 + 480) (by omega) (by omega) ?_
      exact hJ _ _ _ hF _ _ _ hP hD hS (lv_sub hl [2, 3, 4, 5, 6] rfl)
    · have hF := hF.2 cz
      refine lv_aload_n hx hb dL_law_577 rfl (lv_at hl 5 rfl) ?_
      refine lv_iconst (v := 0) hx hb dL_law_578 (by decide) ?_
      refine va_lald hx hb hK.1 hP 21 1 rfl rfl (show vp_in 0 1 from vp_in_nI (n := 0) (by omega) (by omega)) dL_law_579 ?_
      refine lv_iload hx hb dL_law_580 (lv_at hl 0 rfl) ?_
      refine lv_i2l hx hb dL_law_582 rfl ?_
      refine W.lcmp hx hb dL_law_583 ?_
      refine lv_if_eq (tgt := 589) hx hb dL_law_584 (by decide) (fun cz => ?_) (fun cz => ?_)
      · have hF := hF.1 cz
        refine lv_goto (tgt := 1951) hx hb dL_law_589 (by decide) ?_
        refine W.widen (k := k0 + 30) (n := n0 + 480) (by omega) (by omega) ?_
        exact hJ _ _ _ hF _ _ _ hP hD hS (lv_sub hl [2, 3, 4, 5, 6] rfl)
      · have hF := hF.2 cz
        refine lv_iconst (v := 0) hx hb dL_law_587 (by decide) ?_
        exact hF.elim
  · have hF := hF.2 cz
    refine lv_iconst (v := 0) hx hb dL_law_570 (by decide) ?_
    exact hF.elim
def wp_case8 (σ : SX) (f : Nat → Int64) (u : FX) (K : SX → (Nat → Int64) → FX → Prop) : Prop := (wp_X3_now σ (fun r593 => (wp_X4_now u.1 (fun r597 s597 => ((r593 = r597 → (K σ f (s597, u.2))) ∧ (¬ r593 = r597 → False))))))
set_option maxHeartbeats 4000000 in
set_option maxRecDepth 100000 in
theorem m_case8 {p : Program} {e9 : Env} {s : State} {m : MethodId} {below : List Frame} {meth : Method} {c : Code} (l : Launch) (hl9 : l.stackTraces = false) {dC : Nat → ClassId} {dI : Nat → Nat → Nat} {h g : Nat → Nat} {cy : Nat → ClassId} {sa z ad : Nat → Nat} {o b L fu i k0 n0 : Nat} {xs : Nat → Int32} {A : Nat → Prop} {Q : State → Prop} {a0 a1 a2 : Int32}
  (hC : Cx p s m #[Value.ref b] meth c RL code 9 ret) (hK : kwX dC dI cy s) (hXS : XS sa s) (hXZ : XZ A s s.heap) (hN : NCL s) (hZ : ZF z ad A s s.heap) (hvk : vk_R "PegshoreHouseModel" 92 "std" (z 4) s) (hX : va_X b L xs s s.heap) (hbl : b < s.heap.size) (hbA : ¬ A b) (hA : ∀ q : Nat, s.heap.size ≤ q → A q)
  (hi1 : vp_in (nI i + 1) L) (hi2 : vp_in (nI i + 2) L) (hx1 : xs (nI i + 1).toNatClampNeg = a1) (hx2 : xs (nI i + 2).toNatClampNeg = a2) (hk0 : k0 + 30 ≤ 603072) (hn0 : n0 + 480 ≤ 7211114)
  (K : SX → (Nat → Int64) → FX → Prop) (hJ : ∀ σ f u, K σ f u → ∀ (H : Heap) (locs : List Loc) (ls : Array Slot), va_P (dC, dI) classes (wH h cy σ ++ ([(o, .inl (cy 1, 1, .inr (.inl f)))] ++ (wC g cy u.1 ++ (wl ad cy (z 0) (g 20) u.2.1 ++ (wl ad cy (z 0) (g 21) u.2.2.1 ++ (wl ad cy (z 0) (g 22) u.2.2.2.1 ++ wS g cy u.2.2.2.2)))))) H → va_D A (wH h cy σ ++ ([(o, .inl (cy 1, 1, .inr (.inl f)))] ++ (wC g cy u.1 ++ (wl ad cy (z 0) (g 20) u.2.1 ++ (wl ad cy (z 0) (g 21) u.2.2.1 ++ (wl ad cy (z 0) (g 22) u.2.2.2.1 ++ wS g cy u.2.2.2.2)))))) → va_S A s.heap H locs → lv_has ls 9 [(0, .ref b), (1, .ref (h 16)), (2, .ref (g 0)), (3, .ref o), (4, .int (nI i))] → W p l e9 room_1 s m #[Value.ref b] below meth c H locs (k0 + 30) (n0 + 480) Q (F0 m 1951 ls [])) (σ : SX) (f : Nat → Int64) (u : FX) (hF : wp_case8 σ f u K) : ∀ (H : Heap) (locs : List Loc) (ls : Array Slot), va_P (dC, dI) classes (wH h cy σ ++ ([(o, .inl (cy 1, 1, .inr (.inl f)))] ++ (wC g cy u.1 ++ (wl ad cy (z 0) (g 20) u.2.1 ++ (wl ad cy (z 0) (g 21) u.2.2.1 ++ (wl ad cy (z 0) (g 22) u.2.2.2.1 ++ wS g cy u.2.2.2.2)))))) H → va_D A (wH h cy σ ++ ([(o, .inl (cy 1, 1, .inr (.inl f)))] ++ (wC g cy u.1 ++ (wl ad cy (z 0) (g 20) u.2.1 ++ (wl ad cy (z 0) (g 21) u.2.2.1 ++ (wl ad cy (z 0) (g 22) u.2.2.2.1 ++ wS g cy u.2.2.2.2)))))) → va_S A s.heap H locs → lv_has ls 9 [(0, .ref b), (1, .ref (h 16)), (2, .ref (g 0)), (3, .ref o), (4, .int (nI i))] → W p l e9 room_1 s m #[Value.ref b] below meth c H locs k0 n0 Q (F0 m 592 ls []) := by
  intro H locs ls hP hD hS hl
  have hx := hC.1
  have hb := hC.2.1
  have hml := hC.2.2.2.1
  have hown := hC.2.2.2.2.1
  have hts := hC.2.2.2.2.2.1
  unfold wp_case8 at hF
  refine lv_aload_n hx hb dL_law_592 rfl (lv_at hl 1 rfl) ?_
  have hPc := fw_get (fp0 _ _) hP
  refine cpVi (q0 := 16) (As := []) (rest := []) hC hK hPc rfl rfl (m_X3_now l dC dI h cy σ _ hF) k_X3_now q202 ⟨rfl, rfl⟩ ⟨Nat.le_of_ble_eq_true rfl, Nat.le_of_ble_eq_true rfl⟩ hl.1 rfl rfl (Nat.le_of_ble_eq_true rfl) dL_law_593 ⟨by show _ ≤ 603072; omega, by show _ ≤ 7211114; omega⟩ (fun r593 hF => ?_)
  refine lv_aload_n hx hb dL_law_596 rfl (lv_at hl 2 rfl) ?_
  have hPc := fw_get (fp2 _ _ _ _) hP
  have hDc := fw_getD (fp2 _ _ _ _) hD
  have hFc := fw_free (fp2 _ _ _ _) hD hS hA
  refine cwVi (q0 := 0) (As := []) (rest := [.int r593]) hC hK hPc hDc rfl rfl hS hFc (m_X4_now l dC dI g cy _ u.1 _ hF) k_X4_now q1202 ⟨rfl, rfl⟩ ⟨Nat.le_of_ble_eq_true rfl, Nat.le_of_ble_eq_true rfl⟩ hl.1 rfl rfl (Nat.le_of_ble_eq_true rfl) dL_law_597 ⟨by show _ ≤ 603072; omega, by show _ ≤ 7211114; omega⟩ (fun r597 s597 H1 locs hF hP9 hD9 hk1 hS => ?_)
  obtain ⟨hP1, hD1⟩ := fw_join (fp2 _ _ _ _) hP hD hk1 hFc hP9 hD9
  have hP := va_P.perm (fp2 _ _ _ _).symm hP1
  have hD := va_D.perm (fp2 _ _ _ _).symm hD1
  generalize H1 = H at hP hS ⊢
  have hP : va_P (dC, dI) classes (wH h cy σ ++ ([(o, .inl (cy 1, 1, .inr (.inl f)))] ++ (wC g cy (s597, u.2).1 ++ (wl ad cy (z 0) (g 20) (s597, u.2).2.1 ++ (wl ad cy (z 0) (g 21) (s597, u.2).2.2.1 ++ (wl ad cy (z 0) (g 22) (s597, u.2).2.2.2.1 ++ wS g cy (s597, u.2).2.2.2.2)))))) H := hP
  have hD : va_D A (wH h cy σ ++ ([(o, .inl (cy 1, 1, .inr (.inl f)))] ++ (wC g cy (s597, u.2).1 ++ (wl ad cy (z 0) (g 20) (s597, u.2).2.1 ++ (wl ad cy (z 0) (g 21) (s597, u.2).2.2.1 ++ (wl ad cy (z 0) (g 22) (s597, u.2).2.2.2.1 ++ wS g cy (s597, u.2).2.2.2.2)))))) := hD
  refine lv_icmp_eq (tgt := 1951) hx hb dL_law_600 (by decide) (fun cz => ?_) (fun cz => ?_)
  · have hF := hF.1 cz
    refine W.widen (k := k0 + 30) (n := n0 + 480) (by omega) (by omega) ?_
    exact hJ _ _ _ hF _ _ _ hP hD hS (lv_sub hl [0, 1, 2, 3, 4] rfl)
  · have hF := hF.2 cz
    refine lv_iconst (v := 0) hx hb dL_law_603 (by decide) ?_
    exact hF.elim
def wp_case9 (fu : Nat) (a1 : Int32) (a2 : Int32) (σ : SX) (f : Nat → Int64) (u : FX) (K : SX → (Nat → Int64) → FX → Prop) : Prop := (wp_L_mayJump fu σ f a1 a2 (fun r619 s619 f619 => (wp_X4_mayJump fu u.1 a1 a2 (fun r637 s637 => (wp_X4_thrown ((s637, u.2).1) (fun r643 => ((r643 = r619 → ((¬ r619 = 0 → (K s619 f619 (s637, u.2))) ∧ (r619 = 0 → ((r637 = 0 → (((lg_cmp (f619 (0 : Int32).toNatClampNeg) 0) = 0 → (K s619 f619 (s637, u.2))) ∧ (¬ (lg_cmp (f619 (0 : Int32).toNatClampNeg) 0) = 0 → False))) ∧ (¬ r637 = 0 → (((lg_cmp (f619 (0 : Int32).toNatClampNeg) 1) = 0 → (K s619 f619 (s637, u.2))) ∧ (¬ (lg_cmp (f619 (0 : Int32).toNatClampNeg) 1) = 0 → False))))))) ∧ (¬ r643 = r619 → False))))))))
set_option maxHeartbeats 4000000 in
set_option maxRecDepth 100000 in
theorem m_case9 {p : Program} {e9 : Env} {s : State} {m : MethodId} {below : List Frame} {meth : Method} {c : Code} (l : Launch) (hl9 : l.stackTraces = false) {dC : Nat → ClassId} {dI : Nat → Nat → Nat} {h g : Nat → Nat} {cy : Nat → ClassId} {sa z ad : Nat → Nat} {o b L fu i k0 n0 : Nat} {xs : Nat → Int32} {A : Nat → Prop} {Q : State → Prop} {a0 a1 a2 : Int32}
  (hC : Cx p s m #[Value.ref b] meth c RL code 9 ret) (hK : kwX dC dI cy s) (hXS : XS sa s) (hXZ : XZ A s s.heap) (hN : NCL s) (hZ : ZF z ad A s s.heap) (hvk : vk_R "PegshoreHouseModel" 92 "std" (z 4) s) (hX : va_X b L xs s s.heap) (hbl : b < s.heap.size) (hbA : ¬ A b) (hA : ∀ q : Nat, s.heap.size ≤ q → A q)
  (hi1 : vp_in (nI i + 1) L) (hi2 : vp_in (nI i + 2) L) (hx1 : xs (nI i + 1).toNatClampNeg = a1) (hx2 : xs (nI i + 2).toNatClampNeg = a2) (hk0 : k0 + 30 ≤ 603072) (hn0 : n0 + 480 ≤ 7211114)
  (K : SX → (Nat → Int64) → FX → Prop) (hJ : ∀ σ f u, K σ f u → ∀ (H : Heap) (locs : List Loc) (ls : Array Slot), va_P (dC, dI) classes (wH h cy σ ++ ([(o, .inl (cy 1, 1, .inr (.inl f)))] ++ (wC g cy u.1 ++ (wl ad cy (z 0) (g 20) u.2.1 ++ (wl ad cy (z 0) (g 21) u.2.2.1 ++ (wl ad cy (z 0) (g 22) u.2.2.2.1 ++ wS g cy u.2.2.2.2)))))) H → va_D A (wH h cy σ ++ ([(o, .inl (cy 1, 1, .inr (.inl f)))] ++ (wC g cy u.1 ++ (wl ad cy (z 0) (g 20) u.2.1 ++ (wl ad cy (z 0) (g 21) u.2.2.1 ++ (wl ad cy (z 0) (g 22) u.2.2.2.1 ++ wS g cy u.2.2.2.2)))))) → va_S A s.heap H locs → lv_has ls 9 [(0, .ref b), (1, .ref (h 16)), (2, .ref (g 0)), (3, .ref o), (4, .int (nI i))] → W p l e9 room_1 s m #[Value.ref b] below meth c H locs (k0 + 30) (n0 + 480) Q (F0 m 1951 ls [])) (σ : SX) (f : Nat → Int64) (u : FX) (hF : wp_case9 fu a1 a2 σ f u K) : ∀ (H : Heap) (locs : List Loc) (ls : Array Slot), va_P (dC, dI) classes (wH h cy σ ++ ([(o, .inl (cy 1, 1, .inr (.inl f)))] ++ (wC g cy u.1 ++ (wl ad cy (z 0) (g 20) u.2.1 ++ (wl ad cy (z 0) (g 21) u.2.2.1 ++ (wl ad cy (z 0) (g 22) u.2.2.2.1 ++ wS g cy u.2.2.2.2)))))) H → va_D A (wH h cy σ ++ ([(o, .inl (cy 1, 1, .inr (.inl f)))] ++ (wC g cy u.1 ++ (wl ad cy (z 0) (g 20) u.2.1 ++ (wl ad cy (z 0) (g 21) u.2.2.1 ++ (wl ad cy (z 0) (g 22) u.2.2.2.1 ++ wS g cy u.2.2.2.2)))))) → va_S A s.heap H locs → lv_has ls 9 [(0, .ref b), (1, .ref (h 16)), (2, .ref (g 0)), (3, .ref o), (4, .int (nI i))] → W p l e9 room_1 s m #[Value.ref b] below meth c H locs k0 n0 Q (F0 m 605 ls []) := by
  intro H locs ls hP hD hS hl
  have hx := hC.1
  have hb := hC.2.1
  have hml := hC.2.2.2.1
  have hown := hC.2.2.2.2.1
  have hts := hC.2.2.2.2.2.1
  unfold wp_case9 at hF
  refine lv_aload_n hx hb dL_law_605 rfl (lv_at hl 1 rfl) ?_
  refine lv_aload_n hx hb dL_law_606 rfl (lv_at hl 0 rfl) ?_
  refine lv_iload hx hb dL_law_607 (lv_at hl 4 rfl) ?_
  refine lv_iconst (v := 1) hx hb dL_law_609 (by decide) ?_
  refine lv_iadd hx hb dL_law_610 ?_
  refine va_sld hx hb hX hbl hbA hS hi1 dL_law_611 ?_
  rw [hx1]
  refine lv_aload_n hx hb dL_law_612 rfl (lv_at hl 0 rfl) ?_
  refine lv_iload hx hb dL_law_613 (lv_at hl 4 rfl) ?_
  refine lv_iconst (v := 2) hx hb dL_law_615 (by decide) ?_
  refine lv_iadd hx hb dL_law_616 ?_
  refine va_sld hx hb hX hbl hbA hS hi2 dL_law_617 ?_
  rw [hx2]
  refine lv_aload_n hx hb dL_law_618 rfl (lv_at hl 3 rfl) ?_
  refine lwWrap (x := wO h cy o σ f) (wn := fun (u : SX × (Nat → Int64)) => wO h cy o u.1 u.2) (As := [.ref (h 16), .int a1, .int a2, .ref o]) (rest := []) (fpA _ _ _) hC hK hXS hXZ hN hP hD hS hA (m_L_mayJump l hl9 dC dI h cy sa o _ fu σ f a1 a2 _ hF) k_L_mayJump q649 ⟨rfl, rfl⟩ ⟨Nat.le_of_ble_eq_true rfl, Nat.le_of_ble_eq_true rfl⟩ hl.1 rfl rfl (Nat.le_of_ble_eq_true rfl) dL_law_619 ⟨by show _ ≤ 603072; omega, by show _ ≤ 7211114; omega⟩ (fun r619 v9 H1 locs hF hP1 hD1 hS => ?_)
  obtain ⟨s619, f619⟩ := v9
  have hP := va_P.perm (fpA _ _ _).symm hP1
  have hD := va_D.perm (fpA _ _ _).symm hD1
  generalize H1 = H at hP hS ⊢
  have hP : va_P (dC, dI) classes (wH h cy s619 ++ ([(o, .inl (cy 1, 1, .inr (.inl f619)))] ++ (wC g cy u.1 ++ (wl ad cy (z 0) (g 20) u.2.1 ++ (wl ad cy (z 0) (g 21) u.2.2.1 ++ (wl ad cy (z 0) (g 22) u.2.2.2.1 ++ wS g cy u.2.2.2.2)))))) H := hP
  have hD : va_D A (wH h cy s619 ++ ([(o, .inl (cy 1, 1, .inr (.inl f619)))] ++ (wC g cy u.1 ++ (wl ad cy (z 0) (g 20) u.2.1 ++ (wl ad cy (z 0) (g 21) u.2.2.1 ++ (wl ad cy (z 0) (g 22) u.2.2.2.1 ++ wS g cy u.2.2.2.2)))))) := hD
  refine lv_istore (lv' := [(5, .int r619), (0, .ref b), (1, .ref (h 16)), (2, .ref (g 0)), (3, .ref o), (4, .int (nI i))]) hx hb dL_law_622 hl (by decide) rfl (fun ls hl => ?_)
  refine lv_aload_n hx hb dL_law_624 rfl (lv_at hl 3 rfl) ?_
  refine lv_aload_n hx hb dL_law_625 rfl (lv_at hl 1 rfl) ?_
  refine lv_iload hx hb dL_law_626 (lv_at hl 5 rfl) ?_
  refine lv_iconst (v := 1) hx hb dL_law_628 (by decide) ?_
  refine lv_iadd hx hb dL_law_629 ?_
  refine va_sld hx hb hX hbl hbA hS hi1 dL_law_630 ?_
  rw [hx1]
  refine lv_aload_n hx hb dL_law_631 rfl (lv_at hl 1 rfl) ?_
  refine lv_iload hx hb dL_law_632 (lv_at hl 5 rfl) ?_
  refine lv_iconst (v := 2) hx hb dL_law_634 (by decide) ?_
  refine lv_iadd hx hb dL_law_635 ?_
  refine va_sld hx hb hX hbl hbA hS hi2 dL_law_636 ?_
  rw [hx2]
  have hPc := fw_get (fp2 _ _ _ _) hP
  have hDc := fw_getD (fp2 _ _ _ _) hD
  have hFc := fw_free (fp2 _ _ _ _) hD hS hA
  refine cwVi (q0 := 0) (As := [.int a1, .int a2]) (rest := []) hC hK hPc hDc rfl rfl hS hFc (m_X4_mayJump l dC dI g cy _ fu u.1 a1 a2 _ hF) k_X4_mayJump q1206 ⟨rfl, rfl⟩ ⟨Nat.le_of_ble_eq_true rfl, Nat.le_of_ble_eq_true rfl⟩ hl.1 rfl rfl (Nat.le_of_ble_eq_true rfl) dL_law_637 ⟨by show _ ≤ 603072; omega, by show _ ≤ 7211114; omega⟩ (fun r637 s637 H1 locs hF hP9 hD9 hk1 hS => ?_)
  obtain ⟨hP1, hD1⟩ := fw_join (fp2 _ _ _ _) hP hD hk1 hFc hP9 hD9
  have hP := va_P.perm (fp2 _ _ _ _).symm hP1
  have hD := va_D.perm (fp2 _ _ _ _).symm hD1
  generalize H1 = H at hP hS ⊢
  have hP : va_P (dC, dI) classes (wH h cy s619 ++ ([(o, .inl (cy 1, 1, .inr (.inl f619)))] ++ (wC g cy (s637, u.2).1 ++ (wl ad cy (z 0) (g 20) (s637, u.2).2.1 ++ (wl ad cy (z 0) (g 21) (s637, u.2).2.2.1 ++ (wl ad cy (z 0) (g 22) (s637, u.2).2.2.2.1 ++ wS g cy (s637, u.2).2.2.2.2)))))) H := hP
  have hD : va_D A (wH h cy s619 ++ ([(o, .inl (cy 1, 1, .inr (.inl f619)))] ++ (wC g cy (s637, u.2).1 ++ (wl ad cy (z 0) (g 20) (s637, u.2).2.1 ++ (wl ad cy (z 0) (g 21) (s637, u.2).2.2.1 ++ (wl ad cy (z 0) (g 22) (s637, u.2).2.2.2.1 ++ wS g cy (s637, u.2).2.2.2.2)))))) := hD
  refine lv_istore (lv' := [(6, .int r637), (5, .int r619), (0, .ref b), (1, .ref (h 16)), (2, .ref (g 0)), (3, .ref o), (4, .int (nI i))]) hx hb dL_law_640 hl (by decide) rfl (fun ls hl => ?_)
  refine lv_aload_n hx hb dL_law_642 rfl (lv_at hl 4 rfl) ?_
  have hPc := fw_get (fp2 _ _ _ _) hP
  refine cpVi (q0 := 0) (As := []) (rest := []) hC hK hPc rfl rfl (m_X4_thrown l dC dI g cy ((s637, u.2).1) _ hF) k_X4_thrown q1009 ⟨rfl, rfl⟩ ⟨Nat.le_of_ble_eq_true rfl, Nat.le_of_ble_eq_true rfl⟩ hl.1 rfl rfl (Nat.le_of_ble_eq_true rfl) dL_law_643 ⟨by show _ ≤ 603072; omega, by show _ ≤ 7211114; omega⟩ (fun r643 hF => ?_)
  refine lv_iload hx hb dL_law_646 (lv_at hl 1 rfl) ?_
  refine lv_icmp_eq (tgt := 653) hx hb dL_law_648 (by decide) (fun cz => ?_) (fun cz => ?_)
  · have hF := hF.1 cz
    refine lv_iload hx hb dL_law_653 (lv_at hl 1 rfl) ?_
    refine lv_if_ne (tgt := 677) hx hb dL_law_655 (by decide) (fun cz => ?_) (fun cz => ?_)
    · have hF := hF.1 cz
      refine lv_goto (tgt := 1951) hx hb dL_law_677 (by decide) ?_
      refine W.widen (k := k0 + 30) (n := n0 + 480) (by omega) (by omega) ?_
      exact hJ _ _ _ hF _ _ _ hP hD hS (lv_sub hl [2, 3, 4, 5, 6] rfl)
    · have hF := hF.2 cz
      refine lv_aload_n hx hb dL_law_658 rfl (lv_at hl 5 rfl) ?_
      refine lv_iconst (v := 0) hx hb dL_law_659 (by decide) ?_
      refine va_lald hx hb hK.1 hP 21 1 rfl rfl (show vp_in 0 1 from vp_in_nI (n := 0) (by omega) (by omega)) dL_law_660 ?_
      refine lv_iload hx hb dL_law_661 (lv_at hl 0 rfl) ?_
      refine lv_if_eq (tgt := 670) hx hb dL_law_663 (by decide) (fun cz => ?_) (fun cz => ?_)
      · have hF := hF.1 cz
        refine lv_lconst (v := 0) hx hb dL_law_670 (by decide) ?_
        refine W.lcmp hx hb dL_law_671 ?_
        refine lv_if_eq (tgt := 677) hx hb dL_law_672 (by decide) (fun cz => ?_) (fun cz => ?_)
        · have hF := hF.1 cz
          refine lv_goto (tgt := 1951) hx hb dL_law_677 (by decide) ?_
          refine W.widen (k := k0 + 30) (n := n0 + 480) (by omega) (by omega) ?_
          exact hJ _ _ _ hF _ _ _ hP hD hS (lv_sub hl [2, 3, 4, 5, 6] rfl)
        · have hF := hF.2 cz
          refine lv_iconst (v := 0) hx hb dL_law_675 (by decide) ?_
          exact hF.elim
      · have hF := hF.2 cz
        refine lv_lconst (v := 1) hx hb dL_law_666 (by decide) ?_
        refine lv_goto (tgt := 671) hx hb dL_law_667 (by decide) ?_
        refine W.lcmp hx hb dL_law_671 ?_
        refine lv_if_eq (tgt := 677) hx hb dL_law_672 (by decide) (fun cz => ?_) (fun cz => ?_)
        · have hF := hF.1 cz
          refine lv_goto (tgt := 1951) hx hb dL_law_677 (by decide) ?_
          refine W.widen (k := k0 + 30) (n := n0 + 480) (by omega) (by omega) ?_
          exact hJ _ _ _ hF _ _ _ hP hD hS (lv_sub hl [2, 3, 4, 5, 6] rfl)
        · have hF := hF.2 cz
          refine lv_iconst (v := 0) hx hb dL_law_675 (by decide) ?_
          exact hF.elim
  · have hF := hF.2 cz
    refine lv_iconst (v := 0) hx hb dL_law_651 (by decide) ?_
    exact hF.elim
