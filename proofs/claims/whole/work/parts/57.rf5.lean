/-! ===== the reference lists jumps ===== -/
def stI (y : Int32) (d : Nat) : Int32 := if okb 5 (y / 5 + dnV d) = true then (if okb 5 ((y - y / 5 * 5) + rtV d) = true then (5 * (y / 5 + dnV d)) + ((y - y / 5 * 5) + rtV d) else mI) else mI
theorem r_step {y : Int32} {d : Nat} (hd : d < 8) {P : Int32 → Prop} : wp_X4_step y (nI d) P ↔ P (stI y d) := by
  have e5 : (4 : Int32) = dn 5 := rfl
  unfold wp_X4_step stI
  simp (disch := first | assumption | omega) only [z_in, nI_clamp, hd, true_and]
  rw [r_in (m := 5) (by decide) e5, r_in (m := 5) (by decide) e5]
  show ((zb _ = nI 0 → P (-1)) ∧ (¬ zb _ = nI 0 → ((zb _ = nI 0 → P (-1)) ∧ (¬ zb _ = nI 0 → _)))) ↔ _
  rw [zb_0, zb_0]
  cases okb 5 (y / 5 + dnV d)
  · simp only [true_implies, false_implies, implies_true, and_true, true_and, not_true_eq_false, not_false_eq_true, and_self, false_and, and_false, if_true, if_false, ite_true, ite_false, reduceCtorEq, Bool.false_eq_true, Bool.true_eq_false, eq_self_iff_true, forall_const, iff_self]; rfl
  · cases okb 5 ((y - y / 5 * 5) + rtV d)
    · simp only [true_implies, false_implies, implies_true, and_true, true_and, not_true_eq_false, not_false_eq_true, and_self, false_and, and_false, if_true, if_false, ite_true, ite_false, reduceCtorEq, Bool.false_eq_true, Bool.true_eq_false, eq_self_iff_true, forall_const, iff_self]; rfl
    · simp only [true_implies, false_implies, implies_true, and_true, true_and, not_true_eq_false, not_false_eq_true, and_self, false_and, and_false, if_true, if_false, ite_true, ite_false, reduceCtorEq, Bool.false_eq_true, Bool.true_eq_false, eq_self_iff_true, forall_const, iff_self]
def stN (x d : Nat) : Nat :=
  let r := x / 5 + ([1, 1, 2, 0, 2, 0, 2, 0] : List Nat).getD d 0
  let q := x % 5 + ([2, 0, 1, 1, 0, 2, 2, 0] : List Nat).getD d 0
  if 1 ≤ r ∧ r ≤ 5 ∧ 1 ≤ q ∧ q ≤ 5 then 5 * (r - 1) + (q - 1) else 25
theorem stI_N : ∀ d, d < 8 → ∀ x, x < 25 → stI (nI x) d = (if stN x d < 25 then nI (stN x d) else mI) := by decide +kernel
def mt (x y d : Nat) : Bool := decide (stN x d < 25) && decide (stN (stN x d) d = y)
theorem mt_ct : ∀ kd, kd < 3 → ∀ x, x < 25 → ∀ y, y < 25 → fb_ct (mt x y) (4 + 2 * kd) = if two kd x y = true then 1 else 0 := by decide +kernel
theorem mt_mid : ∀ d, d < 8 → ∀ x, x < 25 → ∀ y, y < 25 → (!mt x y d || decide (stN x d = (x + y) / 2)) = true := by decide +kernel
/-- what lists leaves as it was -/
def FrR (s u : SX) : Prop := (∀ j, ¬ j = 1 → s.1 j = u.1 j) ∧ (∀ j, ¬ j = 3 → ¬ j = 4 → ¬ j = 5 → s.2.1 j = u.2.1 j)
theorem FrR.refl (u : SX) : FrR u u := ⟨fun _ _ => rfl, fun _ _ _ _ => rfl⟩
theorem FrR.i1 {s u : SX} (h : FrR s u) {v : Int32} : FrR (sI s 1 v) u := ⟨fun j hj => by rw [sI_ne hj]; exact h.1 j hj, h.2⟩
theorem FrR.a3 {s u : SX} (h : FrR s u) {f : Nat → Int32} : FrR (sA s 3 f) u := ⟨h.1, fun j h3 h4 h5 => by rw [sA_ne h3]; exact h.2 j h3 h4 h5⟩
theorem FrR.a4 {s u : SX} (h : FrR s u) {f : Nat → Int32} : FrR (sA s 4 f) u := ⟨h.1, fun j h3 h4 h5 => by rw [sA_ne h4]; exact h.2 j h3 h4 h5⟩
theorem FrR.a5 {s u : SX} (h : FrR s u) {f : Nat → Int32} : FrR (sA s 5 f) u := ⟨h.1, fun j h3 h4 h5 => by rw [sA_ne h5]; exact h.2 j h3 h4 h5⟩
theorem Rb.fr {s u : SX} {n kd : Nat} {c : Nat → Nat} {w : Nat → Int32} (h : Rb u n c kd w) (g : FrR s u) : Rb s n c kd w := by
  obtain ⟨b0, b1, b2, b3, b4⟩ := h
  refine ⟨(g.1 0 (by decide)).trans b0, (g.1 4 (by decide)).trans b1, fun h0 x hx => ?_, fun h hh => ?_, fun h hh => ?_⟩
  · rw [g.2 0 (by decide) (by decide) (by decide)]; exact b2 h0 x hx
  · rw [g.2 1 (by decide) (by decide) (by decide)]; exact b3 h hh
  · rw [g.2 2 (by decide) (by decide) (by decide)]; exact b4 h hh
theorem Rin_add {s : SX} {L : Ln} (h : Rin s L) (a o b : Nat) : Rin (sI (sA (sA (sA s 3 (upd (s.2.1 3) L.length (nI a))) 4 (upd (s.2.1 4) L.length (nI o))) 5 (upd (s.2.1 5) L.length (nI b))) 1 (nI (L.length + 1))) (L ++ [(a, o, b)]) := by
  obtain ⟨r1, hr⟩ := h
  refine ⟨by rw [len_app]; rfl, fun k hk => ?_⟩
  rw [len_app] at hk
  show upd (s.2.1 3) L.length _ k = _ ∧ upd (s.2.1 4) L.length _ k = _ ∧ upd (s.2.1 5) L.length _ k = _
  rcases Nat.lt_or_eq_of_le (Nat.lt_succ_iff.mp hk) with d | d
  · have d2 : ¬ k = L.length := by omega
    obtain ⟨e1, e2, e3⟩ := lF_lt (t := (a, o, b)) d
    rw [upd_ne d2, upd_ne d2, upd_ne d2, e1, e2, e3]
    exact hr k d
  · subst d
    obtain ⟨e1, e2, e3⟩ := lF_eq (L := L) (t := (a, o, b))
    rw [upd_eq, upd_eq, upd_eq, e1, e2, e3]
    exact ⟨rfl, rfl, rfl⟩
theorem r_lists {v : FX} {n kd fu : Nat} {c : Nat → Nat} {w : Nat → Int32} (hC : Cok n c) (hk : kd < 3) (hB : Rb v.1 n c kd w) (o1 : okL v.2.1) (o2 : okL v.2.2.1) (hfu : 20000 ≤ fu) {P : FX → Prop} (hP : ∀ u w1 w2, FrR u v.1 → Rin u (lns c n kd) → okL w1 → w1.2.2.2.2.2 = 0 → okL w2 → w2.2.2.2.2.2 = 0 → P (u, w1, w2, v.2.2.2.1, v.2.2.2.2)) : wp_X4_lists fu v P := by
  have hn := hC.1
  have dloop := fun (a b : Nat) (ha : a < n) (hb : b < n) (L : Ln) (hLl : L.length + 1 ≤ 104 ∨ ¬ lnB c n kd a b = true) (K : FX → Prop) (hK : ∀ t, FrR t v.1 → Rin t (L ++ (if lnB c n kd a b = true then [(a, ix c n ((c a + c b) / 2), b)] else [])) → K (t, v.2)) => lp (m := 4 + 2 * kd) (Q := fun f d => ∀ t, FrR t v.1 → Rin t (L ++ (if 0 < fb_ct (mt (c a) (c b)) d ∧ (mk c n).testBit ((c a + c b) / 2) = true then [(a, ix c n ((c a + c b) / 2), b)] else [])) → wp_X4_lists_L27 (nI a) (nI b) K f (nI d) (t, v.2)) (by
    intro f d hd ih t ht hR
    have hBt := hB.fr ht
    rw [wp_X4_lists_L27]
    unfold wp_X4_lists_B27
    have e4 : (2 : Int32) + 2 * (t.1 4 + 1) = nI (4 + 2 * kd) := by
      rw [hBt.2.1]
      show nI 2 + nI 2 * (nI kd + nI 1) = _
      rw [nI_add, pk_mul, nI_add]
      congr 1; omega
    show ((((2 : Int32) + 2 * (t.1 4 + 1)) ≤ nI d → K (t, v.2)) ∧ (¬ ((2 : Int32) + 2 * (t.1 4 + 1)) ≤ nI d → _))
    rw [e4, nI_leI (by omega) (by omega)]
    have hca := hC.2.1 a ha
    have hcb := hC.2.1 b hb
    rcases Nat.lt_or_eq_of_le hd with g | g
    · have ih := ih g
      refine ⟨fun q => by omega, fun _ => ?_⟩
      refine ⟨(z_in (by omega)).mpr (by omega), ?_⟩
      rw [nI_clamp (by omega)]
      show wp_X4_step (t.2.1 1 a) (nI d) _
      rw [hBt.2.2.2.1 a ha, r_step (by omega), stI_N d (by omega) _ hca]
      rw [fb_ct_succ] at ih
      -- no line in this direction
      have skip : mt (c a) (c b) d = false → wp_X4_lists_J142 (wp_X4_lists_L27 (nI a) (nI b) K f) (nI d) (t, v.2) := fun hm => by
        unfold wp_X4_lists_J142
        rw [hm] at ih
        show wp_X4_lists_L27 (nI a) (nI b) K f (nI d + 1) (t, v.2)
        rw [← nI_succ]
        exact ih t ht hR
      by_cases g1 : stN (c a) d < 25
      · rw [if_pos g1]
        have nz : ¬ nI (stN (c a) d) = -1 := fun e => (z_em (a := stN (c a) d) (by omega)).mp e
        refine ⟨fun _ => ?_, fun e => absurd e nz⟩
        rw [r_step (by omega), stI_N d (by omega) _ g1]
        unfold wp_X4_lists_J69
        refine ⟨(z_in (by omega)).mpr (by omega), ?_⟩
        rw [nI_clamp (by omega)]
        show ((¬ _ = t.2.1 1 b → _) ∧ (_ = t.2.1 1 b → _))
        rw [hBt.2.2.2.1 b hb]
        have cmp : (if stN (stN (c a) d) d < 25 then nI (stN (stN (c a) d) d) else mI) = nI (c b) ↔ mt (c a) (c b) d = true := by
          unfold mt
          rw [decide_eq_true g1, Bool.true_and, decide_eq_true_iff]
          by_cases g2 : stN (stN (c a) d) d < 25
          · rw [if_pos g2, nI_eq (by omega) (by omega)]
          · rw [if_neg g2, z_me (by omega)]
            exact ⟨False.elim, fun e => by omega⟩
        rw [cmp]
        refine ⟨fun e => skip (by simpa using e), fun e => ?_⟩
        have hm := mt_mid d (by omega) _ hca _ hcb
        rw [e, Bool.not_true, Bool.false_or] at hm
        have hm := of_decide_eq_true hm
        have hct := mt_ct kd hk _ hca _ hcb
        have hmono := fb_ct_mono (mt (c a) (c b)) (show d + 1 ≤ 4 + 2 * kd from g)
        rw [fb_ct_succ, e, if_pos rfl, hct] at hmono
        have h2 : two kd (c a) (c b) = true := by
          cases h : two kd (c a) (c b)
          · rw [h] at hmono; simp at hmono
          · rfl
        have h0 : fb_ct (mt (c a) (c b)) d = 0 := by
          rw [if_pos h2] at hmono; omega
        rw [h0, if_neg (fun h => absurd h.1 (Nat.lt_irrefl 0)), List.append_nil] at hR
        rw [h0, e] at ih
        have ih := ih
        refine ⟨(z_in (by omega)).mpr g1, ?_⟩
        rw [nI_clamp (by omega)]
        show ((¬ t.2.1 0 (stN (c a) d) = -1 → _) ∧ (t.2.1 0 (stN (c a) d) = -1 → _))
        rw [hBt.2.2.1 (by omega) _ g1, hm]
        by_cases hb2 : (mk c n).testBit ((c a + c b) / 2) = true
        · have hix := (ix_bit hC hb2).1
          rw [if_pos hb2]
          refine ⟨fun _ => ?_, fun e => absurd e (fun e => (z_em (a := ix c n ((c a + c b) / 2)) (by omega)).mp e)⟩
          have hl : lnB c n kd a b = true := by unfold lnB; rw [h2, hb2]; rfl
          have hLl : L.length < 104 := by
            rcases hLl with x | x
            · omega
            · exact absurd hl x
          show vp_in (t.1 1) 104 ∧ _
          have r1 := hR.1
          refine ⟨by rw [r1]; exact (z_in (by omega)).mpr hLl, (z_in (by omega)).mpr (by omega), by rw [r1]; exact (z_in (by omega)).mpr hLl, by show vp_in (t.1 1) 104; rw [r1]; exact (z_in (by omega)).mpr hLl, ?_⟩
          unfold wp_X4_lists_J142
          show wp_X4_lists_L27 (nI a) (nI b) K f (nI d + 1) (sI (sA (sA (sA t 3 (upd (t.2.1 3) (t.1 1).toNatClampNeg (nI a))) 4 (upd (t.2.1 4) (t.1 1).toNatClampNeg (nI (ix c n ((c a + c b) / 2))))) 5 (upd (t.2.1 5) (t.1 1).toNatClampNeg (nI b))) 1 (t.1 1 + 1), v.2)
          rw [r1, nI_clamp (by omega), ← nI_succ, ← nI_succ]
          refine ih _ ((((ht.a3).a4).a5).i1) ?_
          rw [if_pos ⟨by decide, hb2⟩]
          exact Rin_add hR a (ix c n ((c a + c b) / 2)) b
        · rw [if_neg hb2]
          refine ⟨fun h => absurd rfl h, fun _ => ?_⟩
          unfold wp_X4_lists_J142
          show wp_X4_lists_L27 (nI a) (nI b) K f (nI d + 1) (t, v.2)
          rw [← nI_succ]
          refine ih t ht ?_
          rw [if_neg (fun h => hb2 h.2), List.append_nil]
          exact hR
      · rw [if_neg g1]
        refine ⟨fun h => absurd rfl h, fun _ => ?_⟩
        unfold wp_X4_lists_J69
        refine ⟨(z_in (by omega)).mpr (by omega), ?_⟩
        rw [nI_clamp (by omega)]
        show ((¬ _ = t.2.1 1 b → _) ∧ (_ = t.2.1 1 b → _))
        rw [hBt.2.2.2.1 b hb]
        refine ⟨fun _ => skip ?_, fun e => absurd e (fun e => (z_me (a := c b) (by omega)).mp e)⟩
        unfold mt
        rw [decide_eq_false g1, Bool.false_and]
    · refine ⟨fun _ => ?_, fun q => by omega⟩
      refine hK t ht ?_
      rw [g, mt_ct kd hk _ hca _ hcb] at hR
      unfold lnB
      cases h2 : two kd (c a) (c b)
      · rw [h2, if_neg (fun h => by simp at h)] at hR
        rw [Bool.false_and, if_neg (by decide)]
        exact hR
      · rw [h2] at hR
        rw [Bool.true_and]
        cases h3 : (mk c n).testBit ((c a + c b) / 2)
        · rw [h3, if_neg (fun h => absurd h.2 (by decide))] at hR
          rw [if_neg (by decide)]
          exact hR
        · rw [h3, if_pos ⟨by decide, rfl⟩] at hR
          rw [if_pos rfl]
          exact hR)
  have bloop := fun (a : Nat) (ha : a < n) (K : FX → Prop) (hK : ∀ t, FrR t v.1 → Rin t (alL c n kd (a + 1)) → K (t, v.2)) => lp (m := n) (Q := fun f b => ∀ t, FrR t v.1 → Rin t (alL c n kd a ++ rwL c n kd a b) → wp_X4_lists_L17 fu (nI a) K f (nI b) (t, v.2)) (by
    intro f b hb ih t ht hR
    rw [wp_X4_lists_L17]
    unfold wp_X4_lists_B17
    show ((t.1 0 ≤ nI b → K (t, v.2)) ∧ (¬ t.1 0 ≤ nI b → _))
    rw [(hB.fr ht).1, nI_leI (by omega) (by omega)]
    rcases Nat.lt_or_eq_of_le hb with g | g
    · have ih := ih g
      rw [nI_succ] at ih
      refine ⟨fun q => by omega, fun _ => ?_⟩
      refine dloop a b ha g (alL c n kd a ++ rwL c n kd a b) ?_ _ (fun t' ht' hR' => ?_) fu 0 (Nat.zero_le _) (by omega) t ht ?_
      · by_cases hl : lnB c n kd a b = true
        · left
          have hl1 := alL_len hC hk a (by omega)
          have hl2 : (rwL c n kd a b).length + 1 ≤ 8 := by
            have := rwL_len c n kd a (b + 1)
            have h3 : (rwL c n kd a (b + 1)).length = (rwL c n kd a b).length + 1 := by
              show (rwL c n kd a b ++ _).length = _
              rw [if_pos hl, len_app]
            have h4 := lnB_cnt hC hk ha
            have h5 := fb_ct_mono (lnB c n kd a) (show b + 1 ≤ n from g)
            omega
          rw [List.length_append]; omega
        · exact Or.inr hl
      · refine ih t' ht' ?_
        have er : alL c n kd a ++ rwL c n kd a (b + 1) = (alL c n kd a ++ rwL c n kd a b) ++ (if lnB c n kd a b = true then [(a, ix c n ((c a + c b) / 2), b)] else []) := by
          rw [List.append_assoc]; rfl
        rw [er]; exact hR'
      · rw [if_neg (fun h => absurd h.1 (Nat.lt_irrefl 0)), List.append_nil]; exact hR
    · refine ⟨fun _ => ?_, fun q => by omega⟩
      rw [g] at hR
      exact hK t ht hR)
  have aloop := fun (K : FX → Prop) (hK : ∀ t, FrR t v.1 → Rin t (lns c n kd) → K (t, v.2)) => lp (m := n) (Q := fun f a => ∀ t, FrR t v.1 → Rin t (alL c n kd a) → wp_X4_lists_L7 fu K f (nI a) (t, v.2)) (by
    intro f a ha ih t ht hR
    rw [wp_X4_lists_L7]
    unfold wp_X4_lists_B7
    show ((t.1 0 ≤ nI a → K (t, v.2)) ∧ (¬ t.1 0 ≤ nI a → _))
    rw [(hB.fr ht).1, nI_leI (by omega) (by omega)]
    rcases Nat.lt_or_eq_of_le ha with g | g
    · have ih := ih g
      rw [nI_succ] at ih
      refine ⟨fun q => by omega, fun _ => ?_⟩
      refine bloop a g _ (fun t' ht' hR' => ih t' ht' hR') fu 0 (Nat.zero_le _) (by omega) t ht ?_
      show Rin t (alL c n kd a ++ [])
      rw [List.append_nil]; exact hR
    · refine ⟨fun _ => ?_, fun q => by omega⟩
      rw [g] at hR
      exact hK t ht hR)
  unfold wp_X4_lists
  refine aloop _ (fun t ht hR => ?_) fu 0 (Nat.zero_le _) (by omega) (sI v.1 1 0) ((FrR.refl _).i1) ⟨rfl, fun k hk => absurd hk (Nat.not_lt_zero k)⟩
  exact ⟨o1, fun w1 h1 h2 => ⟨o2, fun w2 h3 h4 => hP t w1 w2 ht hR h1 h2 h3 h4⟩⟩
