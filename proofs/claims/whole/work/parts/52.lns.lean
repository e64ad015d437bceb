/-! ===== the lines of a board ===== -/
def lnB (c : Nat → Nat) (n kd a b : Nat) : Bool := two kd (c a) (c b) && (mk c n).testBit ((c a + c b) / 2)
def rwL (c : Nat → Nat) (n kd a : Nat) : Nat → Ln
  | 0 => []
  | b + 1 => rwL c n kd a b ++ (if lnB c n kd a b = true then [(a, ix c n ((c a + c b) / 2), b)] else [])
def alL (c : Nat → Nat) (n kd : Nat) : Nat → Ln
  | 0 => []
  | a + 1 => alL c n kd a ++ rwL c n kd a n
def lns (c : Nat → Nat) (n kd : Nat) : Ln := alL c n kd n
theorem two_mid0 : ∀ kd, kd < 3 → ∀ x, x < 25 → ∀ y, y < 25 → (!two kd x y || (decide (x ≠ y) && (decide ((x + y) / 2 ≠ x) && decide ((x + y) / 2 ≠ y)))) = true := by decide +kernel
theorem two_mid (kd : Nat) (hk : kd < 3) (x : Nat) (hx : x < 25) (y : Nat) (hy : y < 25) (h : two kd x y = true) : x ≠ y ∧ (x + y) / 2 ≠ x ∧ (x + y) / 2 ≠ y := by
  have := two_mid0 kd hk x hx y hy
  rw [h] at this
  simpa only [Bool.not_true, Bool.false_or, Bool.and_eq_true, decide_eq_true_eq] using this
theorem two_cnt : ∀ kd, kd < 3 → ∀ x, x < 25 → fb_ct (two kd x) 25 ≤ 8 := by decide +kernel
theorem ct_comp {n : Nat} {c : Nat → Nat} (hC : Cok n c) (q : Nat → Bool) : fb_ct (fun b => q (c b)) n ≤ fb_ct q 25 := by
  rw [ct_vis q c 25 n hC.2.1 (fun j k hj hk e => by have := hC.2.2 j k hj hk; omega)]
  exact fb_ct_sub fun k _ h => by
    simp only [Bool.and_eq_true] at h
    exact h.2
theorem lnB_cnt {n kd : Nat} {c : Nat → Nat} (hC : Cok n c) (hk : kd < 3) {a : Nat} (ha : a < n) : fb_ct (lnB c n kd a) n ≤ 8 := by
  have h1 := two_cnt kd hk (c a) (hC.2.1 a ha)
  have h2 := ct_comp hC (two kd (c a))
  have h3 : fb_ct (lnB c n kd a) n ≤ fb_ct (fun b => two kd (c a) (c b)) n := fb_ct_sub fun k _ h => by
    unfold lnB at h
    simp only [Bool.and_eq_true] at h
    exact h.1
  omega
theorem rwL_len (c : Nat → Nat) (n kd a : Nat) : ∀ b, (rwL c n kd a b).length = fb_ct (lnB c n kd a) b
  | 0 => rfl
  | b + 1 => by
    rw [fb_ct_succ, ← rwL_len c n kd a b]
    show (rwL c n kd a b ++ _).length = _
    rw [List.length_append]
    split <;> rfl
theorem alL_len {n kd : Nat} {c : Nat → Nat} (hC : Cok n c) (hk : kd < 3) : ∀ a, a ≤ n → (alL c n kd a).length ≤ 8 * a
  | 0, _ => Nat.le_refl _
  | a + 1, h => by
    show (alL c n kd a ++ rwL c n kd a n).length ≤ _
    rw [List.length_append, rwL_len]
    have := alL_len hC hk a (by omega)
    have := lnB_cnt hC hk (a := a) (by omega)
    omega
theorem lF_lt {L : Ln} {t : Nat × Nat × Nat} {k : Nat} (h : k < L.length) : lF (L ++ [t]) k = lF L k ∧ lO (L ++ [t]) k = lO L k ∧ lT (L ++ [t]) k = lT L k := by
  unfold lF lO lT
  rw [List.getD_eq_getElem?_getD, List.getD_eq_getElem?_getD, List.getElem?_append_left h]
  exact ⟨rfl, rfl, rfl⟩
theorem lF_eq {L : Ln} {t : Nat × Nat × Nat} : lF (L ++ [t]) L.length = t.1 ∧ lO (L ++ [t]) L.length = t.2.1 ∧ lT (L ++ [t]) L.length = t.2.2 := by
  unfold lF lO lT
  rw [List.getD_eq_getElem?_getD, List.getElem?_append_right (Nat.le_refl _), Nat.sub_self]
  exact ⟨rfl, rfl, rfl⟩
theorem len_app (L : Ln) (t : Nat × Nat × Nat) : (L ++ [t]).length = L.length + 1 := by rw [List.length_append]; rfl
/-- the lines ahead of (a, b) -/
def Gd (c : Nat → Nat) (n kd a b : Nat) (L : Ln) : Prop :=
  (∀ k, k < L.length → lF L k < n ∧ lT L k < n ∧ lnB c n kd (lF L k) (lT L k) = true ∧ lO L k = ix c n ((c (lF L k) + c (lT L k)) / 2) ∧ (lF L k < a ∨ (lF L k = a ∧ lT L k < b))) ∧
  (∀ j k, j < k → k < L.length → lF L j < lF L k ∨ (lF L j = lF L k ∧ lT L j < lT L k)) ∧
  ∀ x y, x < n → y < n → (x < a ∨ (x = a ∧ y < b)) → lnB c n kd x y = true → ∃ k, k < L.length ∧ lF L k = x ∧ lT L k = y
theorem Gd.no {c : Nat → Nat} {n kd a b : Nat} {L : Ln} (h : Gd c n kd a b L) (hb : lnB c n kd a b = false) : Gd c n kd a (b + 1) L := by
  obtain ⟨h1, h2, h3⟩ := h
  refine ⟨fun k hk => ?_, h2, fun x y hx hy q hl => ?_⟩
  · obtain ⟨a1, a2, a3, a4, a5⟩ := h1 k hk
    exact ⟨a1, a2, a3, a4, by omega⟩
  · by_cases e : x = a ∧ y = b
    · obtain ⟨rfl, rfl⟩ := e
      rw [hb] at hl; cases hl
    · exact h3 x y hx hy (by omega) hl
theorem Gd.yes {c : Nat → Nat} {n kd a b : Nat} {L : Ln} (h : Gd c n kd a b L) (ha : a < n) (hbn : b < n) (hb : lnB c n kd a b = true) : Gd c n kd a (b + 1) (L ++ [(a, ix c n ((c a + c b) / 2), b)]) := by
  obtain ⟨h1, h2, h3⟩ := h
  have eqs := lF_eq (L := L) (t := (a, ix c n ((c a + c b) / 2), b))
  refine ⟨fun k hk => ?_, fun j k hj hk => ?_, fun x y hx hy q hl => ?_⟩
  · rw [len_app] at hk
    rcases Nat.lt_or_eq_of_le (Nat.lt_succ_iff.mp hk) with d | d
    · obtain ⟨e1, e2, e3⟩ := lF_lt (t := (a, ix c n ((c a + c b) / 2), b)) d
      rw [e1, e2, e3]
      obtain ⟨a1, a2, a3, a4, a5⟩ := h1 k d
      exact ⟨a1, a2, a3, a4, by omega⟩
    · subst d
      rw [eqs.1, eqs.2.1, eqs.2.2]
      exact ⟨ha, hbn, hb, rfl, Or.inr ⟨rfl, Nat.lt_succ_self _⟩⟩
  · rw [len_app] at hk
    obtain ⟨e1, e2, e3⟩ := lF_lt (L := L) (t := (a, ix c n ((c a + c b) / 2), b)) (k := j) (by omega)
    rw [e1, e3]
    rcases Nat.lt_or_eq_of_le (Nat.lt_succ_iff.mp hk) with d | d
    · obtain ⟨f1, f2, f3⟩ := lF_lt (t := (a, ix c n ((c a + c b) / 2), b)) d
      rw [f1, f3]
      exact h2 j k hj d
    · subst d
      rw [eqs.1, eqs.2.2]
      obtain ⟨a1, a2, a3, a4, a5⟩ := h1 j hj
      exact a5
  · by_cases e : x = a ∧ y = b
    · obtain ⟨rfl, rfl⟩ := e
      exact ⟨L.length, by rw [len_app]; omega, eqs.1, eqs.2.2⟩
    · obtain ⟨k, k1, k2, k3⟩ := h3 x y hx hy (by omega) hl
      obtain ⟨e1, e2, e3⟩ := lF_lt (t := (a, ix c n ((c a + c b) / 2), b)) k1
      exact ⟨k, by rw [len_app]; omega, by rw [e1]; exact k2, by rw [e3]; exact k3⟩
theorem Gd.next {c : Nat → Nat} {n kd a : Nat} {L : Ln} (h : Gd c n kd a n L) : Gd c n kd (a + 1) 0 L := by
  obtain ⟨h1, h2, h3⟩ := h
  refine ⟨fun k hk => ?_, h2, fun x y hx hy q hl => h3 x y hx hy (by omega) hl⟩
  obtain ⟨a1, a2, a3, a4, a5⟩ := h1 k hk
  exact ⟨a1, a2, a3, a4, by omega⟩
theorem Gd_row {c : Nat → Nat} {n kd a : Nat} {L : Ln} (h : Gd c n kd a 0 L) (ha : a < n) : ∀ b, b ≤ n → Gd c n kd a b (L ++ rwL c n kd a b)
  | 0, _ => by
    show Gd c n kd a 0 (L ++ [])
    rw [List.append_nil]; exact h
  | b + 1, hb => by
    have ih := Gd_row h ha b (by omega)
    show Gd c n kd a (b + 1) (L ++ (rwL c n kd a b ++ _))
    rw [← List.append_assoc]
    by_cases e : lnB c n kd a b = true
    · rw [if_pos e]; exact ih.yes ha (by omega) e
    · rw [if_neg e, List.append_nil]; exact ih.no (by simpa using e)
theorem Gd_all (c : Nat → Nat) (n kd : Nat) : ∀ a, a ≤ n → Gd c n kd a 0 (alL c n kd a)
  | 0, _ => ⟨fun k hk => absurd hk (Nat.not_lt_zero k), fun j k _ hk => absurd hk (Nat.not_lt_zero k), fun x y _ _ q _ => by omega⟩
  | a + 1, h => (Gd_row (Gd_all c n kd a (by omega)) (by omega) n (Nat.le_refl _)).next
theorem lns_ok {n kd : Nat} {c : Nat → Nat} (hC : Cok n c) (hk : kd < 3) : Lok n (lns c n kd) := by
  obtain ⟨h1, h2, h3⟩ := Gd_all c n kd n (Nat.le_refl _)
  have hlen := alL_len hC hk n (Nat.le_refl _)
  have hn := hC.1
  refine ⟨hn, by unfold lns; omega, fun k hkl => ?_, fun j k hj hk e1 e2 => ?_⟩
  · obtain ⟨a1, a2, a3, a4, a5⟩ := h1 k hkl
    unfold lnB at a3
    simp only [Bool.and_eq_true] at a3
    obtain ⟨g1, g2⟩ := ix_bit hC a3.2
    rw [← a4] at g1 g2
    obtain ⟨m1, m2, m3⟩ := two_mid kd hk _ (hC.2.1 _ a1) _ (hC.2.1 _ a2) a3.1
    refine ⟨a1, g1, a2, fun e => ?_, fun e => ?_, fun e => ?_⟩
    · have e : lF (alL c n kd n) k = lO (alL c n kd n) k := e
      rw [← e] at g2; exact m2 g2.symm
    · have e : lF (alL c n kd n) k = lT (alL c n kd n) k := e
      rw [e] at m1; exact m1 rfl
    · have e : lO (alL c n kd n) k = lT (alL c n kd n) k := e
      rw [e] at g2; exact m3 g2.symm
  · rcases Nat.lt_trichotomy j k with d | d | d
    · have := h2 j k d hk; unfold lns at e1 e2; omega
    · exact d
    · have := h2 k j d hj; unfold lns at e1 e2; omega
theorem lns_sound {n kd : Nat} {c : Nat → Nat} {k : Nat} (hk : k < (lns c n kd).length) : lnB c n kd (lF (lns c n kd) k) (lT (lns c n kd) k) = true ∧ lO (lns c n kd) k = ix c n ((c (lF (lns c n kd) k) + c (lT (lns c n kd) k)) / 2) := by
  obtain ⟨h1, -, -⟩ := Gd_all c n kd n (Nat.le_refl _)
  obtain ⟨a1, a2, a3, a4, a5⟩ := h1 k hk
  exact ⟨a3, a4⟩
theorem lns_all {n kd : Nat} {c : Nat → Nat} {a b : Nat} (ha : a < n) (hb : b < n) (h : lnB c n kd a b = true) : ∃ k, k < (lns c n kd).length ∧ lF (lns c n kd) k = a ∧ lT (lns c n kd) k = b := by
  obtain ⟨-, -, h3⟩ := Gd_all c n kd n (Nat.le_refl _)
  exact h3 a b ha hb (Or.inl ha) h
/-! the class lays them -/
def FrL (s σ : SX) : Prop := (∀ j, j < 3 → s.1 j = σ.1 j) ∧ ∀ j, j < 2 → s.2.1 j = σ.2.1 j
theorem FrL.refl (σ : SX) : FrL σ σ := ⟨fun _ _ => rfl, fun _ _ => rfl⟩
theorem FrL.trans {a b c : SX} (h : FrL a b) (g : FrL b c) : FrL a c := ⟨fun j hj => (h.1 j hj).trans (g.1 j hj), fun j hj => (h.2 j hj).trans (g.2 j hj)⟩
theorem FrL.i {s σ : SX} (h : FrL s σ) {k : Nat} {v : Int32} (hk : 3 ≤ k) : FrL (sI s k v) σ := ⟨fun j hj => by rw [sI_ne (by omega)]; exact h.1 j hj, h.2⟩
theorem FrL.a {s σ : SX} (h : FrL s σ) {k : Nat} {f : Nat → Int32} (hk : 2 ≤ k) : FrL (sA s k f) σ := ⟨h.1, fun j hj => by rw [sA_ne (by omega)]; exact h.2 j hj⟩
theorem Bb.fr {s σ : SX} {n kd : Nat} {c : Nat → Nat} (h : Bb σ n c kd) (g : FrL s σ) : Bb s n c kd := by
  obtain ⟨b0, b1, b2, b3⟩ := h
  refine ⟨(g.1 0 (by decide)).trans b0, (g.1 1 (by decide)).trans b1, (g.1 2 (by decide)).trans b2, fun h hh => ?_⟩
  rw [g.2 1 (by decide)]; exact b3 h hh
theorem w_addLine {σ : SX} {n kd a b : Nat} {c : Nat → Nat} {L : Ln} (hC : Cok n c) (hB : Bb σ n c kd) (ha : a < n) (hb : b < n) (hl : lnB c n kd a b = true) (hL : Lin σ L) (hlen : L.length < 104) {P : SX → Prop} (hP : ∀ s, FrL s σ → Lin s (L ++ [(a, ix c n ((c a + c b) / 2), b)]) → P s) : wp_X0_addLine σ (nI a) (nI b) P := by
  have hn := hC.1
  have hca := hC.2.1 a ha
  have hcb := hC.2.1 b hb
  unfold lnB at hl
  simp only [Bool.and_eq_true] at hl
  have hix := (ix_bit hC hl.2).1
  obtain ⟨b0, b1, b2, b3⟩ := hB
  obtain ⟨l3, l4, l5, l6, lr⟩ := hL
  unfold wp_X0_addLine
  rw [b2, w_at ha (by omega) (by omega), b3 a ha]
  rw [w_at hb (by omega) (by omega), b3 b hb]
  have e4 : (nI (c a) + nI (c b)) / 2 = nI ((c a + c b) / 2) := by
    rw [nI_add]
    exact pk_div (d := 2) (by omega) (by decide) (by decide)
  rw [e4, w_numberOf hC b1 (by omega) hl.2, l3, w_add hlen (by decide), l4, w_add hlen (by decide), l5, w_add hlen (by decide), l6, w_add hlen (by decide)]
  simp (disch := first | assumption | omega) only [z1, z31, z100, z_shl, pk_mul, nI_add]
  rw [fa_or, fa_or]
  refine hP _ ((((((((FrL.refl σ).a (by decide)).i (by decide)).a (by decide)).i (by decide)).a (by decide)).i (by decide)).a (by decide) |>.i (by decide)) ?_
  refine ⟨by rw [len_app]; rfl, by rw [len_app]; rfl, by rw [len_app]; rfl, by rw [len_app]; rfl, fun k hk => ?_⟩
  rw [len_app] at hk
  show upd (σ.2.1 2) L.length _ k = _ ∧ upd (σ.2.1 3) L.length _ k = _ ∧ upd (σ.2.1 4) L.length _ k = _ ∧ upd (σ.2.1 5) L.length _ k = _
  rcases Nat.lt_or_eq_of_le (Nat.lt_succ_iff.mp hk) with d | d
  · have d2 : ¬ k = L.length := by omega
    obtain ⟨e1, e2, e3⟩ := lF_lt (t := (a, ix c n ((c a + c b) / 2), b)) d
    unfold sp pr
    rw [upd_ne d2, upd_ne d2, upd_ne d2, upd_ne d2, e1, e2, e3]
    exact lr k d
  · subst d
    obtain ⟨e1, e2, e3⟩ := lF_eq (L := L) (t := (a, ix c n ((c a + c b) / 2), b))
    unfold sp pr
    rw [upd_eq, upd_eq, upd_eq, upd_eq, e1, e2, e3]
    exact ⟨rfl, rfl, rfl, rfl⟩
theorem w_layLines {σ : SX} {n kd fu : Nat} {c : Nat → Nat} (hC : Cok n c) (hk : kd < 3) (hB : Bb σ n c kd) (hfu : 20000 ≤ fu) {P : SX → Prop} (hP : ∀ s, FrL s σ → Lin s (lns c n kd) → P s) : wp_X0_layLines fu σ P := by
  have hn := hC.1
  have inner := fun (a : Nat) (ha : a < n) (K : SX → Prop) => lp (m := n) (Q := fun f b => ∀ s, FrL s σ → Lin s (alL c n kd a ++ rwL c n kd a b) → (∀ s, FrL s σ → Lin s (alL c n kd (a + 1)) → K s) → wp_X0_layLines_L43 (nI a) K f (nI b) s) (by
    intro f b hb ih s hs hL hK
    have hBs := hB.fr hs
    rw [wp_X0_layLines_L43]
    unfold wp_X0_layLines_B43 wp_X0_layLines_J83 wp_X1_size
    rw [hBs.2.2.1]
    rcases Nat.lt_or_eq_of_le hb with d | d
    · have ih := ih d
      have q : ¬ n ≤ b := by omega
      have hca := hC.2.1 a ha
      have hcb := hC.2.1 b d
      have hm := mk_lt (c := c) (n := n) hC.2.1
      simp (disch := first | assumption | omega) only [↓zm1, z0, z1, z2, z3, z4, z5, z8, z10, z12, z13, z24, z25, z31, z99, z100, z104, z115, z116, z1000, z8192, z10240, nI_leI, nI_ltI, nI_eq, nI_clamp, z_in, z_inl, nI_add, pk_mul, pk_sub, z_pred, z_predm, pk_div, z_em, z_me, z_mlt, z_nmlt, z_mle, z_nmle, z_shl, z_bit1, z_bit0, z_cap, Nat.not_lt_zero, Nat.zero_le, Nat.lt_irrefl, Nat.le_refl, true_implies, false_implies, implies_true, and_true, true_and, not_true_eq_false, not_false_eq_true, and_self, false_and, and_false, if_true, if_false, ite_true, ite_false, reduceCtorEq, Bool.false_eq_true, Bool.true_eq_false, eq_self_iff_true, forall_const, iff_self, q]
      rw [w_at ha (by omega) (by omega), hBs.2.2.2 a ha, w_at d (by omega) (by omega), hBs.2.2.2 b d, w_isLine hBs.1 hBs.2.1 (by omega) hca hcb]
      have t1 : (mk c n).testBit (c a) = true := (mk_bit c (c a) n).mpr ⟨a, ha, rfl⟩
      have t2 : (mk c n).testBit (c b) = true := (mk_bit c (c b) n).mpr ⟨b, d, rfl⟩
      have e : (two kd (c a) (c b) && ((mk c n).testBit (c a) && ((mk c n).testBit ((c a + c b) / 2) && (mk c n).testBit (c b)))) = lnB c n kd a b := by
        rw [t1, t2, Bool.true_and, Bool.and_true]; rfl
      rw [e, zb_0]
      have er : alL c n kd a ++ rwL c n kd a (b + 1) = (alL c n kd a ++ rwL c n kd a b) ++ (if lnB c n kd a b = true then [(a, ix c n ((c a + c b) / 2), b)] else []) := by
        rw [List.append_assoc]; rfl
      rw [er] at ih
      refine ⟨fun hf => ?_, fun hf => ?_⟩
      · rw [if_neg (by rw [hf]; decide), List.append_nil] at ih
        exact ih s hs hL hK
      · have ht : lnB c n kd a b = true := by
          cases h : lnB c n kd a b
          · exact absurd h hf
          · rfl
        rw [if_pos ht] at ih
        have hl1 := alL_len hC hk a (by omega)
        have hl2 : (rwL c n kd a b).length + 1 ≤ 8 := by
          have := rwL_len c n kd a (b + 1)
          have h3 : (rwL c n kd a (b + 1)).length = (rwL c n kd a b).length + 1 := by
            show (rwL c n kd a b ++ _).length = _
            rw [if_pos ht, len_app]
          have h4 := lnB_cnt hC hk ha
          have h5 := fb_ct_mono (lnB c n kd a) (show b + 1 ≤ n from d)
          omega
        refine w_addLine hC hBs ha d ht hL (by rw [List.length_append]; omega) fun s' hs' hL' => ?_
        exact ih s' (hs'.trans hs) hL' hK
    · subst d
      simp (disch := first | assumption | omega) only [↓zm1, z0, z1, z2, z3, z4, z5, z8, z10, z12, z13, z24, z25, z31, z99, z100, z104, z115, z116, z1000, z8192, z10240, nI_leI, nI_ltI, nI_eq, nI_clamp, z_in, z_inl, nI_add, pk_mul, pk_sub, z_pred, z_predm, pk_div, z_em, z_me, z_mlt, z_nmlt, z_mle, z_nmle, z_shl, z_bit1, z_bit0, z_cap, Nat.not_lt_zero, Nat.zero_le, Nat.lt_irrefl, Nat.le_refl, true_implies, false_implies, implies_true, and_true, true_and, not_true_eq_false, not_false_eq_true, and_self, false_and, and_false, if_true, if_false, ite_true, ite_false, reduceCtorEq, Bool.false_eq_true, Bool.true_eq_false, eq_self_iff_true, forall_const, iff_self]
      exact hK s hs hL)
  have outer := fun (K : SX → Prop) (hK : ∀ s, FrL s σ → Lin s (lns c n kd) → K s) => lp (m := n) (Q := fun f a => ∀ s, FrL s σ → Lin s (alL c n kd a) → wp_X0_layLines_L30 fu K f (nI a) s) (by
    intro f a ha ih s hs hL
    have hBs := hB.fr hs
    rw [wp_X0_layLines_L30]
    unfold wp_X0_layLines_B30 wp_X1_size
    rw [hBs.2.2.1]
    rcases Nat.lt_or_eq_of_le ha with d | d
    · have ih := ih d
      have q : ¬ n ≤ a := by omega
      simp (disch := first | assumption | omega) only [↓zm1, z0, z1, z2, z3, z4, z5, z8, z10, z12, z13, z24, z25, z31, z99, z100, z104, z115, z116, z1000, z8192, z10240, nI_leI, nI_ltI, nI_eq, nI_clamp, z_in, z_inl, nI_add, pk_mul, pk_sub, z_pred, z_predm, pk_div, z_em, z_me, z_mlt, z_nmlt, z_mle, z_nmle, z_shl, z_bit1, z_bit0, z_cap, Nat.not_lt_zero, Nat.zero_le, Nat.lt_irrefl, Nat.le_refl, true_implies, false_implies, implies_true, and_true, true_and, not_true_eq_false, not_false_eq_true, and_self, false_and, and_false, if_true, if_false, ite_true, ite_false, reduceCtorEq, Bool.false_eq_true, Bool.true_eq_false, eq_self_iff_true, forall_const, iff_self, q]
      refine inner a d _ fu 0 (Nat.zero_le _) (by omega) s hs ?_ (fun s' hs' hL' => ih s' hs' hL')
      show Lin s (alL c n kd a ++ [])
      rw [List.append_nil]; exact hL
    · subst d
      simp (disch := first | assumption | omega) only [↓zm1, z0, z1, z2, z3, z4, z5, z8, z10, z12, z13, z24, z25, z31, z99, z100, z104, z115, z116, z1000, z8192, z10240, nI_leI, nI_ltI, nI_eq, nI_clamp, z_in, z_inl, nI_add, pk_mul, pk_sub, z_pred, z_predm, pk_div, z_em, z_me, z_mlt, z_nmlt, z_mle, z_nmle, z_shl, z_bit1, z_bit0, z_cap, Nat.not_lt_zero, Nat.zero_le, Nat.lt_irrefl, Nat.le_refl, true_implies, false_implies, implies_true, and_true, true_and, not_true_eq_false, not_false_eq_true, and_self, false_and, and_false, if_true, if_false, ite_true, ite_false, reduceCtorEq, Bool.false_eq_true, Bool.true_eq_false, eq_self_iff_true, forall_const, iff_self]
      exact hK s hs hL)
  unfold wp_X0_layLines wp_X1_empty
  refine outer _ hP fu 0 (Nat.zero_le _) (by omega) _ ((((((((FrL.refl σ).a (by decide)).i (by decide)).a (by decide)).i (by decide)).a (by decide)).i (by decide)).a (by decide) |>.i (by decide)) ?_
  exact ⟨rfl, rfl, rfl, rfl, fun k hk => absurd hk (Nat.not_lt_zero k)⟩
