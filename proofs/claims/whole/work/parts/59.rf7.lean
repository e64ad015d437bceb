theorem r_fillc {v : FX} {n kd fu p : Nat} {c : Nat → Nat} {w : Nat → Int32} (hC : Cok n c) (hk : kd < 3) (hB : Rb v.1 n c kd w) (h2 : v.1.1 2 = nI p) (hp : p < 2 ^ n) (o1 : okL v.2.1) (o2 : okL v.2.2.1) (hfu : 20000 ≤ fu) {x : Int32} {P : Int32 → FX → Prop}
    (hA : okb 25 x = false → P (nI 0) (sI v.1 5 (nI 1), v.2)) (hD : ∀ j, j < 25 → x = nI j → (mk c n).testBit j = false → P (nI 0) (sI v.1 5 (nI 2), v.2))
    (hP : ∀ i m, n = m + 1 → i < n → x = nI (c i) → ∀ u w1 w2, Rb u m (remC c i) kd (remC w i) → Rin u (lns (remC c i) m kd) → u.1 2 = nI (nw p i) → u.1 3 = nI 0 → u.1 5 = nI 0 → okL w1 → w1.2.2.2.2.2 = 0 → okL w2 → w2.2.2.2.2.2 = 0 → P (nI m) (u, w1, w2, v.2.2.2.1, v.2.2.2.2)) : wp_X4_fill fu v x P := by
  have hn := hC.1
  have h8 := pow_13 hn
  have f1 : ∀ (t : Nat), 0 < t → t < 2 ^ 31 → P (nI 0) (sI v.1 5 (nI t), v.2) → wp_X4_fill_J28 fu v x P (nI t) := fun t h0 ht h => by
    unfold wp_X4_fill_J28
    rw [r_failsN h0 ht]
    exact ⟨fun e => absurd e (by decide), fun _ => h⟩
  unfold wp_X4_fill
  rw [r_in (m := 25) (by decide) (by rfl)]
  refine ⟨fun h => ?_, fun h => ?_⟩
  · have h : okb 25 x = true := by
      cases e : okb 25 x
      · rw [e] at h; exact absurd rfl h
      · rfl
    obtain ⟨j, hj, ej⟩ := (okb_iff (by decide)).mp h
    rw [ej, r_isDrilled hC hB hfu hj, ← ej]
    refine ⟨fun hb => ?_, fun hb => ?_⟩
    · exact f1 2 (by decide) (by decide) (hD j hj ej ((zb_0 _).mp hb))
    · have hb : (mk c n).testBit j = true := by
        cases e : (mk c n).testBit j
        · rw [e] at hb; exact absurd rfl hb
        · rfl
      obtain ⟨i, hi, ei⟩ := (mk_bit c j n).mp hb
      obtain ⟨m, rfl⟩ : ∃ m, n = m + 1 := ⟨n - 1, by omega⟩
      have hP := hP i m rfl hi (by rw [ej, ei])
      have hC' := hC.rem hi
      unfold wp_X4_fill_J28
      show wp_X4_fails v.1 (nI 0) _
      rw [r_fails0]
      refine ⟨fun _ => ?_, fun e => absurd rfl e⟩
      refine ⟨by rw [ej]; exact (z_in (by omega)).mpr hj, ?_⟩
      have hat : v.1.2.1 0 x.toNatClampNeg = nI i := by
        rw [ej, nI_clamp (by omega), hB.2.2.1 (by omega) j hj, if_pos hb, ← ei, ix_self hC hi]
      show wp_X4_fill_L45 _ fu (v.1.2.1 0 x.toNatClampNeg) (sI v.1 5 (nI 0), v.2)
      have key := fun (K : FX → Prop) (hK : ∀ t : SX, t.1 = (sI v.1 5 (nI 0)).1 → (∀ q, ¬ q = 1 → ¬ q = 2 → t.2.1 q = v.1.2.1 q) → (∀ h, h < m → t.2.1 1 h = nI (remC c i h) ∧ t.2.1 2 h = remC w i h) → K (t, v.2)) =>
          lp (m := m) (Q := fun f h0 => i ≤ h0 → ∀ t : SX, t.1 = (sI v.1 5 (nI 0)).1 → (∀ q, ¬ q = 1 → ¬ q = 2 → t.2.1 q = v.1.2.1 q) → (∀ h, h < h0 → t.2.1 1 h = nI (remC c i h) ∧ t.2.1 2 h = remC w i h) → (∀ h, h0 ≤ h → h < m + 1 → t.2.1 1 h = nI (c h) ∧ t.2.1 2 h = w h) → wp_X4_fill_L45 K f (nI h0) (t, v.2)) (by
        intro f h0 hh0 ih hi0 t e1 e2 e3 e4
        rw [wp_X4_fill_L45]
        unfold wp_X4_fill_B45
        show ((t.1 0 ≤ nI h0 + 1 → K (t, v.2)) ∧ (¬ t.1 0 ≤ nI h0 + 1 → _))
        have t0 : t.1 0 = nI (m + 1) := by rw [e1, sI_ne (by decide)]; exact hB.1
        rw [t0, ← nI_succ, nI_leI (by omega) (by omega)]
        rcases Nat.lt_or_eq_of_le hh0 with d | d
        · have ih := ih d
          refine ⟨fun q => by omega, fun _ => ⟨(z_in (by omega)).mpr (by omega), (z_in (by omega)).mpr (by omega), (z_in (by omega)).mpr (by omega), (z_in (by omega)).mpr (by omega), ?_⟩⟩
          rw [nI_clamp (by omega), nI_clamp (by omega)]
          refine ih (by omega) _ e1 (fun q h1 h2 => ?_) (fun h hh => ?_) (fun h h1 h2 => ?_)
          · rw [sA_ne h2, sA_ne h1]; exact e2 q h1 h2
          · show upd (t.2.1 1) h0 (t.2.1 1 (h0 + 1)) h = _ ∧ upd (t.2.1 2) h0 (t.2.1 2 (h0 + 1)) h = _
            by_cases e : h = h0
            · rw [e, upd_eq, upd_eq, rem_ge hi0, rem_ge hi0]
              exact e4 (h0 + 1) (by omega) (by omega)
            · rw [upd_ne e, upd_ne e]
              exact e3 h (by omega)
          · show upd (t.2.1 1) h0 (t.2.1 1 (h0 + 1)) h = _ ∧ upd (t.2.1 2) h0 (t.2.1 2 (h0 + 1)) h = _
            rw [upd_ne (by omega), upd_ne (by omega)]
            exact e4 h (by omega) h2
        · refine ⟨fun _ => ?_, fun q => by omega⟩
          rw [d] at e3
          exact hK t e1 e2 e3)
      rw [hat]
      refine key _ (fun t e1 e2 e3 => ?_) fu i (by omega) (by omega) (Nat.le_refl _) _ rfl (fun q _ _ => rfl) (fun h hh => ?_) (fun h h1 h2 => ⟨hB.2.2.2.1 h h2, hB.2.2.2.2 h h2⟩)
      · show wp_X4_narrower (t.1 2) ((sI v.1 5 (nI 0)).2.1 0 x.toNatClampNeg) _
        have t2 : t.1 2 = nI p := by rw [e1, sI_ne (by decide)]; exact h2
        have t0 : t.1 0 = nI (m + 1) := by rw [e1, sI_ne (by decide)]; exact hB.1
        have t4 : t.1 4 = nI kd := by rw [e1, sI_ne (by decide)]; exact hB.2.1
        have hat' : (sI v.1 5 (nI 0)).2.1 0 x.toNatClampNeg = nI i := hat
        rw [t2, hat', r_narrower (by omega) (by omega)]
        refine r_numbers (v := (sI (sI t 0 (t.1 0 - 1)) 2 (nI (nw p i)), v.2)) (n := m) (c := remC c i) (w := remC w i) hC' hk ?_ ?_ ?_ ?_ o1 o2 hfu fun u w1 w2 g1 g2 g3 g4 g5 g6 g7 g8 g9 => ?_
        · show (sI _ 2 _).1 0 = _
          rw [sI_ne (by decide), sI_eq, t0]; exact nI_pred m
        · show (sI _ 2 _).1 4 = _
          rw [sI_ne (by decide), sI_ne (by decide)]; exact t4
        · exact fun h hh => (e3 h hh).1
        · exact fun h hh => (e3 h hh).2
        · rw [g1.1]
          refine hP u w1 w2 g1 g2 (g3.trans (sI_eq _ _ _)) g4 (g5.trans ?_) g6 g7 g8 g9
          show (sI _ 2 _).1 5 = _
          rw [sI_ne (by decide), sI_ne (by decide)]
          show t.1 5 = _
          rw [e1, sI_eq]
      · rw [rem_lt hh, rem_lt hh]
        exact ⟨hB.2.2.2.1 h (by omega), hB.2.2.2.2 h (by omega)⟩
  · have h : okb 25 x = false := (zb_0 _).mp h
    exact f1 1 (by decide) (by decide) (hA h)
/-! the text of kinds -/
def kix (q : Nat) : Int32 := if q = 115 then nI 0 else if q = 116 then nI 1 else if q = 100 then nI 2 else mI
theorem std_b : ∀ q, q < 256 → (stdB 0 = (nI q).toInt8.toInt32 ↔ q = 115) ∧ (stdB 1 = (nI q).toInt8.toInt32 ↔ q = 116) ∧ (stdB 2 = (nI q).toInt8.toInt32 ↔ q = 100) := by decide +kernel
theorem r_indexOf {fu q : Nat} (hfu : 20000 ≤ fu) (hq : q < 65536) {P : Int32 → Prop} (hP : P (kix q)) : wp_J0_indexOf_0f7a4 fu (nI q) P := by
  have n10 : ¬ (1 : Int32) = 0 := by decide
  unfold wp_J0_indexOf_0f7a4 wp_J0_indexOf_7cf53 wp_J0_isLatin1_aae02 wp_J0_length_8abf5 wp_J0_coder_7d493
  refine ⟨fun e => absurd e n10, fun _ => ⟨fun e => absurd rfl e, fun _ => ⟨fun e => absurd e n10, fun _ => ⟨fun e => absurd e n10, fun _ => ⟨rfl, ?_⟩⟩⟩⟩⟩
  have e3 : (3 : Int32) >>> ((0 : Int32) &&& 31) = 3 := by decide
  show wp_J1_indexOf_4cfef fu (nI q) 0 ((3 : Int32) >>> ((0 : Int32) &&& 31)) _
  rw [e3]
  unfold wp_J1_indexOf_4cfef wp_J1_canEncode_9a6ad
  refine ⟨fun e => absurd e (nI_pos (by omega)), fun _ => ?_⟩
  have e255 : (255 < nI q) ↔ 255 < q := nI_ltI (a := 255) (by decide) (by omega)
  rw [e255]
  refine ⟨fun g => ⟨fun e => absurd rfl e, fun _ => ?_⟩, fun g => ⟨fun _ => ?_, fun e => absurd e n10⟩⟩
  · unfold kix at hP
    rw [if_neg (by omega), if_neg (by omega), if_neg (by omega)] at hP
    exact hP
  · have ej : jmax 0 0 = 0 := by decide
    have em : jmin 3 3 = 3 := by decide
    have e03 : (0 : Int32) < 3 := by decide
    rw [ej, em]
    refine ⟨fun _ => ?_, fun e => absurd e03 e⟩
    obtain ⟨f, rfl⟩ : ∃ f, fu = f + 4 := ⟨fu - 4, by omega⟩
    obtain ⟨b0, b1, b2⟩ := std_b q (by omega)
    unfold kix at hP
    unfold wp_J1_indexOfChar_4cfef
    rw [wp_J1_indexOfChar_4cfef_L7]
    unfold wp_J1_indexOfChar_4cfef_B7
    refine ⟨fun e => absurd e (by decide), fun _ => ⟨(z_in (a := 0) (by decide)).mpr (by decide), ?_⟩⟩
    show ((¬ stdB 0 = (nI q).toInt8.toInt32 → _) ∧ (stdB 0 = (nI q).toInt8.toInt32 → P 0))
    rw [b0]
    refine ⟨fun c0 => ?_, fun c0 => by rw [if_pos c0] at hP; exact hP⟩
    rw [if_neg c0] at hP
    show wp_J1_indexOfChar_4cfef_L7 _ _ _ _ (f + 3) 1
    rw [wp_J1_indexOfChar_4cfef_L7]
    unfold wp_J1_indexOfChar_4cfef_B7
    refine ⟨fun e => absurd e (by decide), fun _ => ⟨(z_in (a := 1) (by decide)).mpr (by decide), ?_⟩⟩
    show ((¬ stdB 1 = (nI q).toInt8.toInt32 → _) ∧ (stdB 1 = (nI q).toInt8.toInt32 → P 1))
    rw [b1]
    refine ⟨fun c1 => ?_, fun c1 => by rw [if_pos c1] at hP; exact hP⟩
    rw [if_neg c1] at hP
    show wp_J1_indexOfChar_4cfef_L7 _ _ _ _ (f + 2) 2
    rw [wp_J1_indexOfChar_4cfef_L7]
    unfold wp_J1_indexOfChar_4cfef_B7
    refine ⟨fun e => absurd e (by decide), fun _ => ⟨(z_in (a := 2) (by decide)).mpr (by decide), ?_⟩⟩
    show ((¬ stdB 2 = (nI q).toInt8.toInt32 → _) ∧ (stdB 2 = (nI q).toInt8.toInt32 → P 2))
    rw [b2]
    refine ⟨fun c2 => ?_, fun c2 => by rw [if_pos c2] at hP; exact hP⟩
    rw [if_neg c2] at hP
    show wp_J1_indexOfChar_4cfef_L7 _ _ _ _ (f + 1) 3
    rw [wp_J1_indexOfChar_4cfef_L7]
    unfold wp_J1_indexOfChar_4cfef_B7
    exact ⟨fun _ => hP, fun e => absurd (by decide) e⟩
theorem r_charAt {kd : Nat} (hk : kd < 3) {P : Int32 → Prop} (hP : P (nI (kch kd))) : wp_J0_charAt_5068e (nI kd) P := by
  have n10 : ¬ (1 : Int32) = 0 := by decide
  have e : ∀ k, k < 3 → ((((stdB k) &&& 255).toUInt32 % 65536).toInt32) = nI (kch k) := by decide +kernel
  unfold wp_J0_charAt_5068e wp_J0_isLatin1_aae02
  refine ⟨fun e => absurd e n10, fun _ => ⟨fun e => absurd rfl e, fun _ => ⟨fun e => absurd e n10, fun _ => ?_⟩⟩⟩
  unfold wp_J1_charAt_3b067 wp_J0_checkIndex_df160
  refine ⟨⟨nI_pos (by omega), (nI_ltI (b := 3) (by omega) (by decide)).mpr hk⟩, (z_in (by omega)).mpr hk, ?_⟩
  rw [nI_clamp (by omega), e kd hk]
  exact ⟨(kch_char kd).1, (kch_char kd).1, hP⟩
theorem r_setKind {v : FX} {n kd fu : Nat} {c : Nat → Nat} {w : Nat → Int32} (hC : Cok n c) (hk : kd < 3) (hB : Rb v.1 n c kd w) (o1 : okL v.2.1) (o2 : okL v.2.2.1) (hfu : 20000 ≤ fu) {q : Nat} (hq : q < 65536) {P : Int32 → FX → Prop}
    (hA : (∀ k, k < 3 → q ≠ kch k) → P (nI 32) (sI v.1 5 (nI 1), v.2))
    (hP : ∀ k, k < 3 → q = kch k → ∀ u w1 w2, Rb u n c k w → Rin u (lns c n k) → u.1 2 = v.1.1 2 → u.1 3 = v.1.1 3 → u.1 5 = nI 0 → okL w1 → w1.2.2.2.2.2 = 0 → okL w2 → w2.2.2.2.2.2 = 0 → P (nI (kch kd)) (u, w1, w2, v.2.2.2.1, v.2.2.2.2)) : wp_X4_setKind fu v (nI q) P := by
  have n32 : narrow .char (.int 32) = .int 32 := rfl
  have good : ∀ k, k < 3 → q = kch k → wp_X4_setKind_J15 fu v (nI q) P 0 := fun k hk2 e => by
    unfold wp_X4_setKind_J15
    show wp_X4_fails v.1 (nI 0) _
    rw [r_fails0]
    refine ⟨fun _ => ?_, fun e => absurd rfl e⟩
    show wp_J0_charAt_5068e ((sI v.1 5 (nI 0)).1 4) _
    rw [sI_ne (by decide), hB.2.1]
    refine r_charAt hk ?_
    refine r_indexOf hfu hq ?_
    have ek : kix q = nI k := by
      rw [e]
      have : ∀ k, k < 3 → kix (kch k) = nI k := by decide +kernel
      exact this k hk2
    rw [ek]
    have hB' : Rb (sI (sI v.1 5 (nI 0)) 4 (nI k)) n c k w := by
      obtain ⟨b0, b1, b2, b3, b4⟩ := hB
      exact ⟨b0, rfl, b2, b3, b4⟩
    refine r_lists (v := (sI (sI v.1 5 (nI 0)) 4 (nI k), v.2)) hC hk2 hB' o1 o2 hfu fun u w1 w2 g1 g2 g3 g4 g5 g6 => ⟨(kch_char kd).1, ?_⟩
    exact hP k hk2 e u w1 w2 (hB'.fr g1) g2 (g1.1 2 (by decide)) (g1.1 3 (by decide)) (g1.1 5 (by decide)) g3 g4 g5 g6
  unfold wp_X4_setKind
  refine r_indexOf hfu hq ?_
  unfold kix
  by_cases h0 : q = 115
  · rw [if_pos h0]
    exact ⟨fun _ => good 0 (by decide) h0, fun e => absurd (by decide) e⟩
  · rw [if_neg h0]
    by_cases h1 : q = 116
    · rw [if_pos h1]
      exact ⟨fun _ => good 1 (by decide) h1, fun e => absurd (by decide) e⟩
    · rw [if_neg h1]
      by_cases h2 : q = 100
      · rw [if_pos h2]
        exact ⟨fun _ => good 2 (by decide) h2, fun e => absurd (by decide) e⟩
      · rw [if_neg h2]
        refine ⟨fun e => absurd e (by decide), fun _ => ?_⟩
        unfold wp_X4_setKind_J15
        show wp_X4_fails v.1 (nI 1) _
        rw [r_failsN (by decide) (by decide)]
        refine ⟨fun e => absurd e (by decide), fun _ => ⟨n32, hA fun k hk2 => ?_⟩⟩
        have : ∀ k, k < 3 → kch k = 115 ∨ kch k = 116 ∨ kch k = 100 := by decide
        rcases this k hk2 with g | g | g <;> omega
