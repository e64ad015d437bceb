/-! ===== one call of the law ===== -/
theorem nI_63 (x : Int32) : ∃ v : Nat, v < 64 ∧ x &&& 63 = nI v := by
  refine ⟨(x.toBitVec &&& (63 : BitVec 32)).toNat, ?_, ?_⟩
  · rw [BitVec.toNat_and]
    exact Nat.lt_of_le_of_lt Nat.and_le_right (by decide)
  · apply Int32.toBitVec_inj.mp
    show x.toBitVec &&& (63 : Int32).toBitVec = (Int32.ofNat (x.toBitVec &&& (63 : BitVec 32)).toNat).toBitVec
    rw [show (Int32.ofNat (x.toBitVec &&& (63 : BitVec 32)).toNat).toBitVec = BitVec.ofNat 32 (x.toBitVec &&& (63 : BitVec 32)).toNat from rfl, BitVec.ofNat_toNat, BitVec.setWidth_eq]
    rfl
set_option maxHeartbeats 4000000 in
set_option maxRecDepth 100000 in
theorem law_one {p : Program} {e9 : Env} {s : State} {m : MethodId} {below : List Frame} {meth : Method} {c : Code} (l : Launch) (hl9 : l.stackTraces = false) {dC : Nat → ClassId} {dI : Nat → Nat → Nat} {h g : Nat → Nat} {cy : Nat → ClassId} {sa z ad : Nat → Nat} {o b L fu i k0 n0 : Nat} {xs : Nat → Int32} {A : Nat → Prop} {Q : State → Prop}
  (hC : Cx p s m #[Value.ref b] meth c RL code 9 ret) (hK : kwX dC dI cy s) (hXS : XS sa s) (hXZ : XZ A s s.heap) (hN : NCL s) (hZ : ZF z ad A s s.heap) (hvk : vk_R "PegshoreHouseModel" 92 "std" (z 4) s) (hX : va_X b L xs s s.heap) (hbl : b < s.heap.size) (hbA : ¬ A b) (hA : ∀ q : Nat, s.heap.size ≤ q → A q)
  (hfu : 20000 ≤ fu) (hiL : i + 3 ≤ L) (hL9 : L < 2 ^ 31) (hk0 : k0 + 30 ≤ 603072) (hn0 : n0 + 480 ≤ 7211114)
  (hJ : ∀ (σ : SX) (f : Nat → Int64) (u : FX), Inv σ u → ∀ (H : Heap) (locs : List Loc) (ls : Array Slot), va_P (dC, dI) classes (wH h cy σ ++ ([(o, .inl (cy 1, 1, .inr (.inl f)))] ++ (wC g cy u.1 ++ (wl ad cy (z 0) (g 20) u.2.1 ++ (wl ad cy (z 0) (g 21) u.2.2.1 ++ (wl ad cy (z 0) (g 22) u.2.2.2.1 ++ wS g cy u.2.2.2.2)))))) H → va_D A (wH h cy σ ++ ([(o, .inl (cy 1, 1, .inr (.inl f)))] ++ (wC g cy u.1 ++ (wl ad cy (z 0) (g 20) u.2.1 ++ (wl ad cy (z 0) (g 21) u.2.2.1 ++ (wl ad cy (z 0) (g 22) u.2.2.2.1 ++ wS g cy u.2.2.2.2)))))) → va_S A s.heap H locs → lv_has ls 9 [(0, .ref b), (1, .ref (h 16)), (2, .ref (g 0)), (3, .ref o), (4, .int (nI i))] → W p l e9 room_1 s m #[Value.ref b] below meth c H locs (k0 + 30) (n0 + 480) Q (F0 m 1951 ls []))
  (σ : SX) (f : Nat → Int64) (u : FX) (hI : Inv σ u) : ∀ (H : Heap) (locs : List Loc) (ls : Array Slot), va_P (dC, dI) classes (wH h cy σ ++ ([(o, .inl (cy 1, 1, .inr (.inl f)))] ++ (wC g cy u.1 ++ (wl ad cy (z 0) (g 20) u.2.1 ++ (wl ad cy (z 0) (g 21) u.2.2.1 ++ (wl ad cy (z 0) (g 22) u.2.2.2.1 ++ wS g cy u.2.2.2.2)))))) H → va_D A (wH h cy σ ++ ([(o, .inl (cy 1, 1, .inr (.inl f)))] ++ (wC g cy u.1 ++ (wl ad cy (z 0) (g 20) u.2.1 ++ (wl ad cy (z 0) (g 21) u.2.2.1 ++ (wl ad cy (z 0) (g 22) u.2.2.2.1 ++ wS g cy u.2.2.2.2)))))) → va_S A s.heap H locs → lv_has ls 9 [(0, .ref b), (1, .ref (h 16)), (2, .ref (g 0)), (3, .ref o), (4, .int (nI i))] → W p l e9 room_1 s m #[Value.ref b] below meth c H locs k0 n0 Q (F0 m 32 ls []) := by
  intro H locs ls hP hD hS hl
  have hx := hC.1
  have hb := hC.2.1
  have hi0 : vp_in (nI i) L := (z_in (by omega)).mpr (by omega)
  have hi1 : vp_in (nI i + 1) L := by rw [← nI_succ]; exact (z_in (by omega)).mpr (by omega)
  have hi2 : vp_in (nI i + 2) L := by rw [show nI i + 2 = nI (i + 2) from nI_add i 2]; exact (z_in (by omega)).mpr (by omega)
  refine lv_aload_n hx hb dL_law_32 rfl (lv_at hl 0 rfl) ?_
  refine lv_iload hx hb dL_law_33 (lv_at hl 4 rfl) ?_
  refine va_sld hx hb hX hbl hbA hS hi0 dL_law_35 ?_
  refine lv_bipush (v := 63) hx hb dL_law_36 (by decide) ?_
  refine lv_iand hx hb dL_law_38 ?_
  obtain ⟨v, hv, ev⟩ := nI_63 (xs (nI i).toNatClampNeg)
  rw [ev]
  rcases (show v = 0 ∨ v = 1 ∨ v = 2 ∨ v = 3 ∨ v = 4 ∨ v = 5 ∨ v = 6 ∨ v = 7 ∨ v = 8 ∨ v = 9 ∨ v = 10 ∨ v = 11 ∨ v = 12 ∨ v = 13 ∨ v = 14 ∨ v = 15 ∨ v = 16 ∨ v = 17 ∨ v = 18 ∨ v = 19 ∨ v = 20 ∨ v = 21 ∨ v = 22 ∨ v = 23 ∨ v = 24 ∨ v = 25 ∨ v = 26 ∨ v = 27 ∨ v = 28 ∨ v = 29 ∨ v = 30 ∨ v = 31 ∨ v = 32 ∨ v = 33 ∨ v = 34 ∨ v = 35 ∨ v = 36 ∨ v = 37 ∨ v = 38 ∨ v = 39 ∨ v = 40 ∨ v = 41 ∨ v = 42 ∨ v = 43 ∨ 44 ≤ v by omega) with rfl | rfl | rfl | rfl | rfl | rfl | rfl | rfl | rfl | rfl | rfl | rfl | rfl | rfl | rfl | rfl | rfl | rfl | rfl | rfl | rfl | rfl | rfl | rfl | rfl | rfl | rfl | rfl | rfl | rfl | rfl | rfl | rfl | rfl | rfl | rfl | rfl | rfl | rfl | rfl | rfl | rfl | rfl | rfl | hv2
  · refine lv_tableIn (off := 189) (tgt := 228) hx hb dL_law_39 (by decide +kernel) (by decide +kernel) (by decide +kernel) (by decide) ?_
    exact m_case0 (a0 := 0) (fu := fu) l hl9 hC hK hXS hXZ hN hZ hvk hX hbl hbA hA hi1 hi2 rfl rfl hk0 hn0 (fun σ _ u => Inv σ u) hJ σ f u (c_0 hfu hI (fun _ _ _ h => h)) H locs ls hP hD hS hl
  · refine lv_tableIn (off := 247) (tgt := 286) hx hb dL_law_39 (by decide +kernel) (by decide +kernel) (by decide +kernel) (by decide) ?_
    exact m_case1 (a0 := 0) (fu := fu) l hl9 hC hK hXS hXZ hN hZ hvk hX hbl hbA hA hi1 hi2 rfl rfl hk0 hn0 (fun σ _ u => Inv σ u) hJ σ f u (c_1 hfu hI (fun _ _ _ h => h)) H locs ls hP hD hS hl
  · refine lv_tableIn (off := 303) (tgt := 342) hx hb dL_law_39 (by decide +kernel) (by decide +kernel) (by decide +kernel) (by decide) ?_
    exact m_case2 (a0 := 0) (fu := fu) l hl9 hC hK hXS hXZ hN hZ hvk hX hbl hbA hA hi1 hi2 rfl rfl hk0 hn0 (fun σ _ u => Inv σ u) hJ σ f u (c_2 hfu hI (fun _ _ _ h => h)) H locs ls hP hD hS hl
  · refine lv_tableIn (off := 359) (tgt := 398) hx hb dL_law_39 (by decide +kernel) (by decide +kernel) (by decide +kernel) (by decide) ?_
    exact m_case3 (a0 := 0) (fu := fu) l hl9 hC hK hXS hXZ hN hZ hvk hX hbl hbA hA hi1 hi2 rfl rfl hk0 hn0 (fun σ _ u => Inv σ u) hJ σ f u (c_3 hfu hI (fun _ _ _ h => h)) H locs ls hP hD hS hl
  · refine lv_tableIn (off := 415) (tgt := 454) hx hb dL_law_39 (by decide +kernel) (by decide +kernel) (by decide +kernel) (by decide) ?_
    exact m_case4 (a0 := 0) (fu := fu) l hl9 hC hK hXS hXZ hN hZ hvk hX hbl hbA hA hi1 hi2 rfl rfl hk0 hn0 (fun σ _ u => Inv σ u) hJ σ f u (c_4 hI (fun _ _ _ h => h)) H locs ls hP hD hS hl
  · refine lv_tableIn (off := 471) (tgt := 510) hx hb dL_law_39 (by decide +kernel) (by decide +kernel) (by decide +kernel) (by decide) ?_
    exact m_case5 (a0 := 0) (fu := fu) l hl9 hC hK hXS hXZ hN hZ hvk hX hbl hbA hA hi1 hi2 rfl rfl hk0 hn0 (fun σ _ u => Inv σ u) hJ σ f u (c_5 hI (fun _ _ _ h => h)) H locs ls hP hD hS hl
  · refine lv_tableIn (off := 484) (tgt := 523) hx hb dL_law_39 (by decide +kernel) (by decide +kernel) (by decide +kernel) (by decide) ?_
    exact m_case6 (a0 := 0) (fu := fu) l hl9 hC hK hXS hXZ hN hZ hvk hX hbl hbA hA hi1 hi2 rfl rfl hk0 hn0 (fun σ _ u => Inv σ u) hJ σ f u (c_6 hfu hI (fun _ _ _ h => h)) H locs ls hP hD hS hl
  · refine lv_tableIn (off := 497) (tgt := 536) hx hb dL_law_39 (by decide +kernel) (by decide +kernel) (by decide +kernel) (by decide) ?_
    exact m_case7 (a0 := 0) (fu := fu) l hl9 hC hK hXS hXZ hN hZ hvk hX hbl hbA hA hi1 hi2 rfl rfl hk0 hn0 (fun σ _ u => Inv σ u) hJ σ f u (c_7 hI (fun _ _ _ h => h)) H locs ls hP hD hS hl
  · refine lv_tableIn (off := 553) (tgt := 592) hx hb dL_law_39 (by decide +kernel) (by decide +kernel) (by decide +kernel) (by decide) ?_
    exact m_case8 (a0 := 0) (fu := fu) l hl9 hC hK hXS hXZ hN hZ hvk hX hbl hbA hA hi1 hi2 rfl rfl hk0 hn0 (fun σ _ u => Inv σ u) hJ σ f u (c_8 hI (fun _ _ _ h => h)) H locs ls hP hD hS hl
  · refine lv_tableIn (off := 566) (tgt := 605) hx hb dL_law_39 (by decide +kernel) (by decide +kernel) (by decide +kernel) (by decide) ?_
    exact m_case9 (a0 := 0) (fu := fu) l hl9 hC hK hXS hXZ hN hZ hvk hX hbl hbA hA hi1 hi2 rfl rfl hk0 hn0 (fun σ _ u => Inv σ u) hJ σ f u (c_9 hfu hI (fun _ _ _ h => h)) H locs ls hP hD hS hl
  · refine lv_tableIn (off := 641) (tgt := 680) hx hb dL_law_39 (by decide +kernel) (by decide +kernel) (by decide +kernel) (by decide) ?_
    exact m_case10 (a0 := 0) (fu := fu) l hl9 hC hK hXS hXZ hN hZ hvk hX hbl hbA hA hi1 hi2 rfl rfl hk0 hn0 (fun σ _ u => Inv σ u) hJ σ f u (c_10 hfu hI (fun _ _ _ h => h)) H locs ls hP hD hS hl
  · refine lv_tableIn (off := 709) (tgt := 748) hx hb dL_law_39 (by decide +kernel) (by decide +kernel) (by decide +kernel) (by decide) ?_
    exact m_case11 (a0 := 0) (fu := fu) l hl9 hC hK hXS hXZ hN hZ hvk hX hbl hbA hA hi1 hi2 rfl rfl hk0 hn0 (fun σ _ u => Inv σ u) hJ σ f u (c_11 hfu hI (fun _ _ _ h => h)) H locs ls hP hD hS hl
  · refine lv_tableIn (off := 722) (tgt := 761) hx hb dL_law_39 (by decide +kernel) (by decide +kernel) (by decide +kernel) (by decide) ?_
    exact m_case12 (a0 := 0) (fu := fu) l hl9 hC hK hXS hXZ hN hZ hvk hX hbl hbA hA hi1 hi2 rfl rfl hk0 hn0 (fun σ _ u => Inv σ u) hJ σ f u (c_12 hfu hI (fun _ _ _ h => h)) H locs ls hP hD hS hl
  · refine lv_tableIn (off := 778) (tgt := 817) hx hb dL_law_39 (by decide +kernel) (by decide +kernel) (by decide +kernel) (by decide) ?_
    exact m_case13 (a0 := 0) (fu := fu) l hl9 hC hK hXS hXZ hN hZ hvk hX hbl hbA hA hi1 hi2 rfl rfl hk0 hn0 (fun σ _ u => Inv σ u) hJ σ f u (c_13 hfu hI (fun _ _ _ h => h)) H locs ls hP hD hS hl
  · refine lv_tableIn (off := 822) (tgt := 861) hx hb dL_law_39 (by decide +kernel) (by decide +kernel) (by decide +kernel) (by decide) ?_
    exact m_case14 (a0 := 0) (fu := fu) l hl9 hC hK hXS hXZ hN hZ hvk hX hbl hbA hA hi1 hi2 rfl rfl hk0 hn0 (fun σ _ u => Inv σ u) hJ σ f u (c_14 hI (fun _ _ _ h => h)) H locs ls hP hD hS hl
  · refine lv_tableIn (off := 835) (tgt := 874) hx hb dL_law_39 (by decide +kernel) (by decide +kernel) (by decide +kernel) (by decide) ?_
    exact m_case15 (a0 := 0) (fu := fu) l hl9 hC hK hXS hXZ hN hZ hvk hX hbl hbA hA hi1 hi2 rfl rfl hk0 hn0 (fun σ _ u => Inv σ u) hJ σ f u (c_15 hfu hI (fun _ _ _ h => h)) H locs ls hP hD hS hl
  · refine lv_tableIn (off := 848) (tgt := 887) hx hb dL_law_39 (by decide +kernel) (by decide +kernel) (by decide +kernel) (by decide) ?_
    exact m_case16 (a0 := 0) (fu := fu) l hl9 hC hK hXS hXZ hN hZ hvk hX hbl hbA hA hi1 hi2 rfl rfl hk0 hn0 (fun σ _ u => Inv σ u) hJ σ f u (c_16 hfu hI (fun _ _ _ h => h)) H locs ls hP hD hS hl
  · refine lv_tableIn (off := 904) (tgt := 943) hx hb dL_law_39 (by decide +kernel) (by decide +kernel) (by decide +kernel) (by decide) ?_
    exact m_case17 (a0 := 0) (fu := fu) l hl9 hC hK hXS hXZ hN hZ hvk hX hbl hbA hA hi1 hi2 rfl rfl hk0 hn0 (fun σ _ u => Inv σ u) hJ σ f u (c_17 hI (fun _ _ _ h => h)) H locs ls hP hD hS hl
  · refine lv_tableIn (off := 960) (tgt := 999) hx hb dL_law_39 (by decide +kernel) (by decide +kernel) (by decide +kernel) (by decide) ?_
    exact m_case18 (a0 := 0) (fu := fu) l hl9 hC hK hXS hXZ hN hZ hvk hX hbl hbA hA hi1 hi2 rfl rfl hk0 hn0 (fun σ _ u => Inv σ u) hJ σ f u (c_18 hfu hI (fun _ _ _ h => h)) H locs ls hP hD hS hl
  · refine lv_tableIn (off := 973) (tgt := 1012) hx hb dL_law_39 (by decide +kernel) (by decide +kernel) (by decide +kernel) (by decide) ?_
    exact m_case19 (a0 := 0) (fu := fu) l hl9 hC hK hXS hXZ hN hZ hvk hX hbl hbA hA hi1 hi2 rfl rfl hk0 hn0 (fun σ _ u => Inv σ u) hJ σ f u (c_19 hfu hI (fun _ _ _ h => h)) H locs ls hP hD hS hl
  · refine lv_tableIn (off := 987) (tgt := 1026) hx hb dL_law_39 (by decide +kernel) (by decide +kernel) (by decide +kernel) (by decide) ?_
    exact m_case20 (a0 := 0) (fu := fu) l hl9 hC hK hXS hXZ hN hZ hvk hX hbl hbA hA hi1 hi2 rfl rfl hk0 hn0 (fun σ _ u => Inv σ u) hJ σ f u (c_20 hfu hI (fun _ _ _ h => h)) H locs ls hP hD hS hl
  · refine lv_tableIn (off := 1031) (tgt := 1070) hx hb dL_law_39 (by decide +kernel) (by decide +kernel) (by decide +kernel) (by decide) ?_
    exact m_case21 (a0 := 0) (fu := fu) l hl9 hC hK hXS hXZ hN hZ hvk hX hbl hbA hA hi1 hi2 rfl rfl hk0 hn0 (fun σ _ u => Inv σ u) hJ σ f u (c_21 hfu hI (fun _ _ _ h => h)) H locs ls hP hD hS hl
  · refine lv_tableIn (off := 1106) (tgt := 1145) hx hb dL_law_39 (by decide +kernel) (by decide +kernel) (by decide +kernel) (by decide) ?_
    exact m_case22 (a0 := 0) (fu := fu) l hl9 hC hK hXS hXZ hN hZ hvk hX hbl hbA hA hi1 hi2 rfl rfl hk0 hn0 (fun σ _ u => Inv σ u) hJ σ f u (c_22 hfu hI (fun _ _ _ h => h)) H locs ls hP hD hS hl
  · refine lv_tableIn (off := 1119) (tgt := 1158) hx hb dL_law_39 (by decide +kernel) (by decide +kernel) (by decide +kernel) (by decide) ?_
    exact m_case23 (a0 := 0) (fu := fu) l hl9 hC hK hXS hXZ hN hZ hvk hX hbl hbA hA hi1 hi2 rfl rfl hk0 hn0 (fun σ _ u => Inv σ u) hJ σ f u (c_23 hfu hI (fun _ _ _ h => h)) H locs ls hP hD hS hl
  · refine lv_tableIn (off := 1132) (tgt := 1171) hx hb dL_law_39 (by decide +kernel) (by decide +kernel) (by decide +kernel) (by decide) ?_
    exact m_case24 (a0 := 0) (fu := fu) l hl9 hC hK hXS hXZ hN hZ hvk hX hbl hbA hA hi1 hi2 rfl rfl hk0 hn0 (fun σ _ u => Inv σ u) hJ σ f u (c_24 hfu hI (fun _ _ _ h => h)) H locs ls hP hD hS hl
  · refine lv_tableIn (off := 1145) (tgt := 1184) hx hb dL_law_39 (by decide +kernel) (by decide +kernel) (by decide +kernel) (by decide) ?_
    exact m_case25 (a0 := 0) (fu := fu) l hl9 hC hK hXS hXZ hN hZ hvk hX hbl hbA hA hi1 hi2 rfl rfl hk0 hn0 (fun σ _ u => Inv σ u) hJ σ f u (c_25 hfu hI (fun _ _ _ h => h)) H locs ls hP hD hS hl
  · refine lv_tableIn (off := 1189) (tgt := 1228) hx hb dL_law_39 (by decide +kernel) (by decide +kernel) (by decide +kernel) (by decide) ?_
    exact m_case26 (a0 := 0) (fu := fu) l hl9 hC hK hXS hXZ hN hZ hvk hX hbl hbA hA hi1 hi2 rfl rfl hk0 hn0 (fun σ _ u => Inv σ u) hJ σ f u (c_26 hfu hI (fun _ _ _ h => h)) H locs ls hP hD hS hl
  · refine lv_tableIn (off := 1233) (tgt := 1272) hx hb dL_law_39 (by decide +kernel) (by decide +kernel) (by decide +kernel) (by decide) ?_
    exact m_case27 (a0 := 0) (fu := fu) l hl9 hC hK hXS hXZ hN hZ hvk hX hbl hbA hA hi1 hi2 rfl rfl hk0 hn0 (fun σ _ u => Inv σ u) hJ σ f u (c_27 hI (fun _ _ _ h => h)) H locs ls hP hD hS hl
  · refine lv_tableIn (off := 1301) (tgt := 1340) hx hb dL_law_39 (by decide +kernel) (by decide +kernel) (by decide +kernel) (by decide) ?_
    exact m_case28 (a0 := 0) (fu := fu) l hl9 hC hK hXS hXZ hN hZ hvk hX hbl hbA hA hi1 hi2 rfl rfl hk0 hn0 (fun σ _ u => Inv σ u) hJ σ f u (c_28 hfu hI (fun _ _ _ h => h)) H locs ls hP hD hS hl
  · refine lv_tableIn (off := 1357) (tgt := 1396) hx hb dL_law_39 (by decide +kernel) (by decide +kernel) (by decide +kernel) (by decide) ?_
    exact m_case29 (a0 := 0) (fu := fu) l hl9 hC hK hXS hXZ hN hZ hvk hX hbl hbA hA hi1 hi2 rfl rfl hk0 hn0 (fun σ _ u => Inv σ u) hJ σ f u (c_29 hfu hI (fun _ _ _ h => h)) H locs ls hP hD hS hl
  · refine lv_tableIn (off := 1370) (tgt := 1409) hx hb dL_law_39 (by decide +kernel) (by decide +kernel) (by decide +kernel) (by decide) ?_
    exact m_case30 (a0 := 0) (fu := fu) l hl9 hC hK hXS hXZ hN hZ hvk hX hbl hbA hA hi1 hi2 rfl rfl hk0 hn0 (fun σ _ u => Inv σ u) hJ σ f u (c_30 hfu hI (fun _ _ _ h => h)) H locs ls hP hD hS hl
  · refine lv_tableIn (off := 1414) (tgt := 1453) hx hb dL_law_39 (by decide +kernel) (by decide +kernel) (by decide +kernel) (by decide) ?_
    exact m_case31 (a0 := 0) (fu := fu) l hl9 hC hK hXS hXZ hN hZ hvk hX hbl hbA hA hi1 hi2 rfl rfl hk0 hn0 (fun σ _ u => Inv σ u) hJ σ f u (c_31 hfu hI (fun _ _ _ h => h)) H locs ls hP hD hS hl
  · refine lv_tableIn (off := 1455) (tgt := 1494) hx hb dL_law_39 (by decide +kernel) (by decide +kernel) (by decide +kernel) (by decide) ?_
    exact m_case32 (a0 := 0) (fu := fu) l hl9 hC hK hXS hXZ hN hZ hvk hX hbl hbA hA hi1 hi2 rfl rfl hk0 hn0 (fun σ _ u => Inv σ u) hJ σ f u (c_32 hI (fun _ _ _ h => h)) H locs ls hP hD hS hl
  · refine lv_tableIn (off := 1523) (tgt := 1562) hx hb dL_law_39 (by decide +kernel) (by decide +kernel) (by decide +kernel) (by decide) ?_
    exact m_case33 (a0 := 0) (fu := fu) l hl9 hC hK hXS hXZ hN hZ hvk hX hbl hbA hA hi1 hi2 rfl rfl hk0 hn0 (fun σ _ u => Inv σ u) hJ σ f u (c_33 hfu hI (fun _ _ _ h => h)) H locs ls hP hD hS hl
  · refine lv_tableIn (off := 1586) (tgt := 1625) hx hb dL_law_39 (by decide +kernel) (by decide +kernel) (by decide +kernel) (by decide) ?_
    exact m_case34 (a0 := 0) (fu := fu) l hl9 hC hK hXS hXZ hN hZ hvk hX hbl hbA hA hi1 hi2 rfl rfl hk0 hn0 (fun σ _ u => Inv σ u) hJ σ f u (c_34 hfu hI (fun _ _ _ h => h)) H locs ls hP hD hS hl
  · refine lv_tableIn (off := 1599) (tgt := 1638) hx hb dL_law_39 (by decide +kernel) (by decide +kernel) (by decide +kernel) (by decide) ?_
    exact m_case35 (a0 := 0) (fu := fu) l hl9 hC hK hXS hXZ hN hZ hvk hX hbl hbA hA hi1 hi2 rfl rfl hk0 hn0 (fun σ _ u => Inv σ u) hJ σ f u (c_35 hfu hI (fun _ _ _ h => h)) H locs ls hP hD hS hl
  · refine lv_tableIn (off := 1643) (tgt := 1682) hx hb dL_law_39 (by decide +kernel) (by decide +kernel) (by decide +kernel) (by decide) ?_
    exact m_case36 (a0 := 0) (fu := fu) l hl9 hC hK hXS hXZ hN hZ hvk hX hbl hbA hA hi1 hi2 rfl rfl hk0 hn0 (fun σ _ u => Inv σ u) hJ σ f u (c_36 hI (fun _ _ _ h => h)) H locs ls hP hD hS hl
  · refine lv_tableIn (off := 1699) (tgt := 1738) hx hb dL_law_39 (by decide +kernel) (by decide +kernel) (by decide +kernel) (by decide) ?_
    exact m_case37 (a0 := 0) (fu := fu) l hl9 hC hK hXS hXZ hN hZ hvk hX hbl hbA hA hi1 hi2 rfl rfl hk0 hn0 (fun σ _ u => Inv σ u) hJ σ f u (c_37 hfu hI (fun _ _ _ h => h)) H locs ls hP hD hS hl
  · refine lv_tableIn (off := 1743) (tgt := 1782) hx hb dL_law_39 (by decide +kernel) (by decide +kernel) (by decide +kernel) (by decide) ?_
    exact m_case38 (a0 := 0) (fu := fu) l hl9 hC hK hXS hXZ hN hZ hvk hX hbl hbA hA hi1 hi2 rfl rfl hk0 hn0 (fun σ _ u => Inv σ u) hJ σ f u (c_38 hfu hI (fun _ _ _ h => h)) H locs ls hP hD hS hl
  · refine lv_tableIn (off := 1787) (tgt := 1826) hx hb dL_law_39 (by decide +kernel) (by decide +kernel) (by decide +kernel) (by decide) ?_
    exact m_case39 (a0 := 0) (fu := fu) l hl9 hC hK hXS hXZ hN hZ hvk hX hbl hbA hA hi1 hi2 rfl rfl hk0 hn0 (fun σ _ u => Inv σ u) hJ σ f u (c_39 hI (fun _ _ _ h => h)) H locs ls hP hD hS hl
  · refine lv_tableIn (off := 1800) (tgt := 1839) hx hb dL_law_39 (by decide +kernel) (by decide +kernel) (by decide +kernel) (by decide) ?_
    exact m_case40 (a0 := 0) (fu := fu) l hl9 hC hK hXS hXZ hN hZ hvk hX hbl hbA hA hi1 hi2 rfl rfl hk0 hn0 (fun σ _ u => Inv σ u) hJ σ f u (c_40 hfu hI (fun _ _ _ h => h)) H locs ls hP hD hS hl
  · refine lv_tableIn (off := 1814) (tgt := 1853) hx hb dL_law_39 (by decide +kernel) (by decide +kernel) (by decide +kernel) (by decide) ?_
    exact m_case41 (a0 := 0) (fu := fu) l hl9 hC hK hXS hXZ hN hZ hvk hX hbl hbA hA hi1 hi2 rfl rfl hk0 hn0 (fun σ _ u => Inv σ u) hJ σ f u (c_41 hfu hI (fun _ _ _ h => h)) H locs ls hP hD hS hl
  · refine lv_tableIn (off := 1858) (tgt := 1897) hx hb dL_law_39 (by decide +kernel) (by decide +kernel) (by decide +kernel) (by decide) ?_
    exact m_case42 (a0 := 0) (fu := fu) l hl9 hC hK hXS hXZ hN hZ hvk hX hbl hbA hA hi1 hi2 rfl rfl hk0 hn0 (fun σ _ u => Inv σ u) hJ σ f u (c_42 hfu hI (fun _ _ _ h => h)) H locs ls hP hD hS hl
  · refine lv_tableIn (off := 1899) (tgt := 1938) hx hb dL_law_39 (by decide +kernel) (by decide +kernel) (by decide +kernel) (by decide) ?_
    exact m_case43 (a0 := 0) (fu := fu) l hl9 hC hK hXS hXZ hN hZ hvk hX hbl hbA hA hi1 hi2 rfl rfl hk0 hn0 (fun σ _ u => Inv σ u) hJ σ f u (c_43 hfu hI (fun _ _ _ h => h)) H locs ls hP hD hS hl
  · refine lv_tableOut (tgt := 1951) hx hb dL_law_39 (Or.inr ?_) (by decide) ?_
    · rw [nI_toInt (by omega)]; omega
    · refine W.widen (k := k0 + 30) (n := n0 + 480) (by omega) (by omega) ?_
      exact hJ σ f u hI H locs ls hP hD hS hl
/-! ===== the loop ===== -/
theorem nI_L3 {i L : Nat} (hL : L < 2 ^ 31) (hi : i < 2 ^ 31) : nI L - 3 < nI i ↔ L < i + 3 := by
  rcases Nat.lt_or_ge L 3 with h | h
  · refine ⟨fun _ => by omega, fun _ => ?_⟩
    have e : ∀ m : Int32, m < 0 → m < nI i := fun m hm => Int32.lt_iff_toInt_lt.mpr (by
      rw [nI_toInt hi]
      have := Int32.lt_iff_toInt_lt.mp hm
      have e0 : (0 : Int32).toInt = 0 := rfl
      omega)
    rcases (show L = 0 ∨ L = 1 ∨ L = 2 by omega) with rfl | rfl | rfl
    · exact e _ (by decide)
    · exact e _ (by decide)
    · exact e _ (by decide)
  · rw [show nI L - 3 = nI (L - 3) from pk_sub h, nI_ltI (by omega) (by omega)]
    omega
set_option maxHeartbeats 4000000 in
set_option maxRecDepth 100000 in
theorem law_head {p : Program} {e9 : Env} {s : State} {m : MethodId} {below : List Frame} {meth : Method} {c : Code} (l : Launch) (hl9 : l.stackTraces = false) {dC : Nat → ClassId} {dI : Nat → Nat → Nat} {h g : Nat → Nat} {cy : Nat → ClassId} {sa z ad : Nat → Nat} {o b L fu i k0 n0 : Nat} {xs : Nat → Int32} {A : Nat → Prop}
  (hC : Cx p s m #[Value.ref b] meth c RL code 9 ret) (hK : kwX dC dI cy s) (hXS : XS sa s) (hXZ : XZ A s s.heap) (hN : NCL s) (hZ : ZF z ad A s s.heap) (hvk : vk_R "PegshoreHouseModel" 92 "std" (z 4) s) (hX : va_X b L xs s s.heap) (hbl : b < s.heap.size) (hbA : ¬ A b) (hA : ∀ q : Nat, s.heap.size ≤ q → A q)
  (hAf : ∀ q : Nat, A q → s.heap.size ≤ q) (hfu : 20000 ≤ fu) (hL9 : L < 2 ^ 31 - 8) (hi9 : i ≤ L) (hk0 : k0 + 30 ≤ 603072) (hn0 : n0 + 480 ≤ 7211114)
  (hN3 : i + 3 ≤ L → ∀ (σ : SX) (f : Nat → Int64) (u : FX), Inv σ u → ∀ (H : Heap) (locs : List Loc) (ls : Array Slot), va_P (dC, dI) classes (wH h cy σ ++ ([(o, .inl (cy 1, 1, .inr (.inl f)))] ++ (wC g cy u.1 ++ (wl ad cy (z 0) (g 20) u.2.1 ++ (wl ad cy (z 0) (g 21) u.2.2.1 ++ (wl ad cy (z 0) (g 22) u.2.2.2.1 ++ wS g cy u.2.2.2.2)))))) H → va_D A (wH h cy σ ++ ([(o, .inl (cy 1, 1, .inr (.inl f)))] ++ (wC g cy u.1 ++ (wl ad cy (z 0) (g 20) u.2.1 ++ (wl ad cy (z 0) (g 21) u.2.2.1 ++ (wl ad cy (z 0) (g 22) u.2.2.2.1 ++ wS g cy u.2.2.2.2)))))) → va_S A s.heap H locs → lv_has ls 9 [(0, .ref b), (1, .ref (h 16)), (2, .ref (g 0)), (3, .ref o), (4, .int (nI (i + 3)))] → W p l e9 room_1 s m #[Value.ref b] below meth c H locs (k0 + 30) (n0 + 480) (lw_Z below #[Value.ref b] s) (F0 m 23 ls []))
  (σ : SX) (f : Nat → Int64) (u : FX) (hI : Inv σ u) : ∀ (H : Heap) (locs : List Loc) (ls : Array Slot), va_P (dC, dI) classes (wH h cy σ ++ ([(o, .inl (cy 1, 1, .inr (.inl f)))] ++ (wC g cy u.1 ++ (wl ad cy (z 0) (g 20) u.2.1 ++ (wl ad cy (z 0) (g 21) u.2.2.1 ++ (wl ad cy (z 0) (g 22) u.2.2.2.1 ++ wS g cy u.2.2.2.2)))))) H → va_D A (wH h cy σ ++ ([(o, .inl (cy 1, 1, .inr (.inl f)))] ++ (wC g cy u.1 ++ (wl ad cy (z 0) (g 20) u.2.1 ++ (wl ad cy (z 0) (g 21) u.2.2.1 ++ (wl ad cy (z 0) (g 22) u.2.2.2.1 ++ wS g cy u.2.2.2.2)))))) → va_S A s.heap H locs → lv_has ls 9 [(0, .ref b), (1, .ref (h 16)), (2, .ref (g 0)), (3, .ref o), (4, .int (nI i))] → W p l e9 room_1 s m #[Value.ref b] below meth c H locs k0 n0 (lw_Z below #[Value.ref b] s) (F0 m 23 ls []) := by
  intro H locs ls hP hD hS hl
  have hx := hC.1
  have hb := hC.2.1
  have hr := hC.2.2.1
  have hlocks := hC.2.2.2.2.2.2
  refine lv_iload hx hb dL_law_23 (lv_at hl 4 rfl) ?_
  refine lv_aload_n hx hb dL_law_25 rfl (lv_at hl 0 rfl) ?_
  refine va_slen hx hb hX hbl hbA hS dL_law_26 ?_
  refine lv_iconst (v := 3) hx hb dL_law_27 (by decide) ?_
  refine lv_isub hx hb dL_law_28 ?_
  refine lv_icmp_gt (tgt := 1957) hx hb dL_law_29 (by decide) (fun q => ?_) (fun q => ?_)
  · refine lv_iconst (v := 1) hx hb dL_law_1957 (by decide) ?_
    refine va_forget (fun q hq => hAf _ (hS.2.2 q hq)) ?_
    refine W.widen (k := 603072) (n := 7211114) (by omega) (by omega) ?_
    refine W.base ?_
    exact lw_ret (Drawn.sameBut.refl s.drawn lw_cs) hx hb hr hlocks dL_law_1958
  · have q2 : ¬ nI L - 3 < nI i := q
    rw [nI_L3 (by omega) (by omega)] at q2
    have h3 : i + 3 ≤ L := by omega
    refine law_one l hl9 hC hK hXS hXZ hN hZ hvk hX hbl hbA hA hfu h3 (by omega) hk0 hn0 (fun σ f u hI H locs ls hP hD hS hl => ?_) σ f u hI H locs ls hP hD hS hl
    refine lv_iinc (v := nI (i + 3)) (k := 4) hx hb dL_law_1951 hl rfl (nI_add i 3) (by decide) rfl (fun ls hl => ?_)
    refine lv_goto (tgt := 23) hx hb dL_law_1954 (by decide) ?_
    exact hN3 h3 σ f u hI H locs ls hP hD hS (lv_sub hl [1, 2, 3, 4, 0] rfl)
set_option maxHeartbeats 4000000 in
set_option maxRecDepth 100000 in
theorem law_loop {p : Program} {e9 : Env} {s : State} {m : MethodId} {below : List Frame} {meth : Method} {c : Code} (l : Launch) (hl9 : l.stackTraces = false) {dC : Nat → ClassId} {dI : Nat → Nat → Nat} {h g : Nat → Nat} {cy : Nat → ClassId} {sa z ad : Nat → Nat} {o b L fu kb nb : Nat} {xs : Nat → Int32} {A : Nat → Prop}
  (hC : Cx p s m #[Value.ref b] meth c RL code 9 ret) (hK : kwX dC dI cy s) (hXS : XS sa s) (hXZ : XZ A s s.heap) (hN : NCL s) (hZ : ZF z ad A s s.heap) (hvk : vk_R "PegshoreHouseModel" 92 "std" (z 4) s) (hX : va_X b L xs s s.heap) (hbl : b < s.heap.size) (hbA : ¬ A b) (hA : ∀ q : Nat, s.heap.size ≤ q → A q)
  (hAf : ∀ q : Nat, A q → s.heap.size ≤ q) (hfu : 20000 ≤ fu) (hL : L ≤ 1536) (hk0 : kb + 15390 ≤ 603072) (hn0 : nb + 246240 ≤ 7211114) :
  ∀ (t j : Nat), 512 ≤ j + t → 3 * j ≤ L → ∀ (σ : SX) (f : Nat → Int64) (u : FX), Inv σ u → ∀ (H : Heap) (locs : List Loc) (ls : Array Slot), va_P (dC, dI) classes (wH h cy σ ++ ([(o, .inl (cy 1, 1, .inr (.inl f)))] ++ (wC g cy u.1 ++ (wl ad cy (z 0) (g 20) u.2.1 ++ (wl ad cy (z 0) (g 21) u.2.2.1 ++ (wl ad cy (z 0) (g 22) u.2.2.2.1 ++ wS g cy u.2.2.2.2)))))) H → va_D A (wH h cy σ ++ ([(o, .inl (cy 1, 1, .inr (.inl f)))] ++ (wC g cy u.1 ++ (wl ad cy (z 0) (g 20) u.2.1 ++ (wl ad cy (z 0) (g 21) u.2.2.1 ++ (wl ad cy (z 0) (g 22) u.2.2.2.1 ++ wS g cy u.2.2.2.2)))))) → va_S A s.heap H locs → lv_has ls 9 [(0, .ref b), (1, .ref (h 16)), (2, .ref (g 0)), (3, .ref o), (4, .int (nI (3 * j)))] → W p l e9 room_1 s m #[Value.ref b] below meth c H locs (kb + 30 * j) (nb + 480 * j) (lw_Z below #[Value.ref b] s) (F0 m 23 ls []) := by
  intro t
  induction t with
  | zero =>
    intro j hj hjL σ f u hI
    exact law_head (k0 := kb + 30 * j) (n0 := nb + 480 * j) (i := 3 * j) l hl9 hC hK hXS hXZ hN hZ hvk hX hbl hbA hA hAf hfu (by omega) hjL (by omega) (by omega) (fun h3 => by omega) σ f u hI
  | succ t ih =>
    intro j hj hjL σ f u hI
    exact law_head (k0 := kb + 30 * j) (n0 := nb + 480 * j) (i := 3 * j) l hl9 hC hK hXS hXZ hN hZ hvk hX hbl hbA hA hAf hfu (by omega) hjL (by omega) (by omega) (fun h3 => by
      have h := ih (j + 1) (by omega) (by omega)
      rw [show kb + 30 * (j + 1) = kb + 30 * j + 30 by omega, show nb + 480 * (j + 1) = nb + 480 * j + 480 by omega, show 3 * (j + 1) = 3 * j + 3 by omega] at h
      exact h) σ f u hI
