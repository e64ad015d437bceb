/-! ===== the class's walk ===== -/
theorem l_0 : (0 : Int64) = lN 0 := rfl
theorem l_1 : (1 : Int64) = lN 1 := rfl
theorem l_cmp {a : Nat} (h : a < 2 ^ 63) : lg_cmp (lN a) 0 = nI 0 ↔ a = 0 := by
  show lg_cmp (lN a) 0 = 0 ↔ a = 0
  unfold lg_cmp
  have e : lN a = 0 ↔ a = 0 := fb_lN_inj h (by decide)
  by_cases q : lN a > 0
  · rw [if_pos q]
    constructor
    · intro c; exact absurd c (by decide)
    · intro c; rw [c] at q; exact absurd q (by decide)
  · rw [if_neg q]
    by_cases q2 : lN a = 0
    · rw [if_pos q2]; exact ⟨fun _ => e.mp q2, fun _ => rfl⟩
    · rw [if_neg q2]; exact ⟨fun c => absurd c (by decide), fun c => absurd (e.mpr c) q2⟩
theorem l_cmp0 : lg_cmp (lN 0) 0 = nI 0 ↔ True := by decide
theorem l_int {a : Nat} (h : a < 2 ^ 63) : (lN a).toInt = (a : Int) := by
  unfold lN
  rw [Int64.toInt_ofNat']
  exact fb_bmodL (by omega) (by omega)
theorem l_le {a : Nat} (h : a < 2 ^ 63) : lg_cmp (lN a) 0 ≤ nI 0 ↔ a = 0 := by
  show lg_cmp (lN a) 0 ≤ 0 ↔ a = 0
  unfold lg_cmp
  by_cases q : lN a > 0
  · rw [if_pos q]
    constructor
    · intro c; exact absurd c (by decide)
    · intro c; rw [c] at q; exact absurd q (by decide)
  · rw [if_neg q]
    have : a = 0 := by
      rcases Nat.eq_zero_or_pos a with z | z
      · exact z
      · exfalso; apply q
        show 0 < lN a
        rw [Int64.lt_iff_toInt_lt, l_int h]
        show (0 : Int) < a
        omega
    subst this
    exact ⟨fun _ => rfl, fun _ => by decide⟩
theorem l_add (a b : Nat) : lN a + lN b = lN (a + b) := by
  unfold lN
  exact (Int64.ofNat_add a b).symm
/-- the part that a walk leaves as it was -/
def Fw (s σ : SX) : Prop := (∀ j, j < 7 → s.1 j = σ.1 j) ∧ ∀ j, j < 6 → s.2.1 j = σ.2.1 j
theorem Fw.refl (σ : SX) : Fw σ σ := ⟨fun _ _ => rfl, fun _ _ => rfl⟩
theorem Fw.trans {a b c : SX} (h : Fw a b) (g : Fw b c) : Fw a c := ⟨fun j hj => (h.1 j hj).trans (g.1 j hj), fun j hj => (h.2 j hj).trans (g.2 j hj)⟩
theorem Fw.i {s σ : SX} (h : Fw s σ) {k : Nat} {v : Int32} (hk : 7 ≤ k) : Fw (sI s k v) σ := ⟨fun j hj => by rw [sI_ne (by omega)]; exact h.1 j hj, h.2⟩
theorem Fw.a {s σ : SX} (h : Fw s σ) {k : Nat} {f : Nat → Int32} (hk : 6 ≤ k) : Fw (sA s k f) σ := ⟨h.1, fun j hj => by rw [sA_ne (by omega)]; exact h.2 j hj⟩
theorem Fw.j {s σ : SX} (h : Fw s σ) {f : Nat → Int64} : Fw (sJ s f) σ := h
theorem Lin.fw {s σ : SX} {L : Ln} (h : Lin σ L) (g : Fw s σ) : Lin s L := by
  obtain ⟨l3, l4, l5, l6, hr⟩ := h
  refine ⟨(g.1 3 (by decide)).trans l3, (g.1 4 (by decide)).trans l4, (g.1 5 (by decide)).trans l5, (g.1 6 (by decide)).trans l6, fun k hk => ?_⟩
  rw [g.2 2 (by decide), g.2 3 (by decide), g.2 4 (by decide), g.2 5 (by decide)]
  exact hr k hk
/-- a walk in the machine: the row, the ways -/
def Mid (s : SX) (st sz : Nat) (f wn : Nat → Nat) : Prop := s.1 7 = nI sz ∧ s.1 8 = nI st ∧ (∀ j, j < sz → s.2.1 6 j = nI (f j)) ∧ ∀ q, q < 8192 → s.2.2 q = lN (wn q)
theorem updL_eq (f : Nat → Int64) (k : Nat) (x : Int64) : vp_updL f k x k = x := if_pos rfl
theorem updL_ne {f : Nat → Int64} {k j : Nat} {x : Int64} (h : ¬ j = k) : vp_updL f k x j = f j := if_neg h
theorem w_waysTo {s : SX} {st sz q : Nat} {f wn : Nat → Nat} (h : Mid s st sz f wn) (hq : q < 8192) {P : Int64 → Prop} : wp_X2_waysTo s (nI q) P ↔ P (lN (wn q)) := by
  have e := h.2.2.2 q hq
  unfold wp_X2_waysTo
  have q1 : ¬ 8192 ≤ q := by omega
  simp (disch := first | assumption | omega) only [↓zm1, z0, z1, z2, z3, z4, z5, z8, z10, z12, z13, z24, z25, z31, z99, z100, z104, z115, z116, z1000, z8192, z10240, nI_leI, nI_ltI, nI_eq, nI_clamp, z_in, z_inl, nI_add, pk_mul, pk_sub, z_pred, z_predm, pk_div, z_em, z_me, z_mlt, z_nmlt, z_mle, z_nmle, z_shl, z_bit1, z_bit0, z_cap, Nat.not_lt_zero, Nat.zero_le, Nat.lt_irrefl, Nat.le_refl, true_implies, false_implies, implies_true, and_true, true_and, not_true_eq_false, not_false_eq_true, and_self, false_and, and_false, if_true, if_false, ite_true, ite_false, reduceCtorEq, Bool.false_eq_true, Bool.true_eq_false, eq_self_iff_true, forall_const, iff_self, q1, hq, e]
/-- what find makes of the walk: the other scalars stay -/
def Fs (s' s : SX) : Prop := ∀ j, j ≠ 7 → s'.1 j = s.1 j
theorem w_find {s : SX} {st sz q w : Nat} {f wn : Nat → Nat} (h : Mid s st sz f wn) (hq : q < 8192) (hw : wn q < 2 ^ 63) (hsb : sz ≤ 8192) (hsz : wn q = 0 → sz < 8192) {P : SX → Prop}
    (hP : ∀ s', Fw s' s → Fs s' s → Mid s' st (if wn q = 0 then sz + 1 else sz) (if wn q = 0 then upN f sz q else f) (upN wn q (wn q + w)) → P s') : wp_X2_find s (nI q) (lN w) P := by
  obtain ⟨m7, m8, m6, mw⟩ := h
  have e := mw q hq
  unfold wp_X2_find wp_X2_find_J64
  by_cases c : wn q = 0
  · have hsz := hsz c
    have q1 : ¬ 8192 ≤ sz := by omega
    simp (disch := first | assumption | omega) only [↓zm1, z0, z1, z2, z3, z4, z5, z8, z10, z12, z13, z24, z25, z31, z99, z100, z104, z115, z116, z1000, z8192, z10240, nI_leI, nI_ltI, nI_eq, nI_clamp, z_in, z_inl, nI_add, pk_mul, pk_sub, z_pred, z_predm, pk_div, z_em, z_me, z_mlt, z_nmlt, z_mle, z_nmle, z_shl, z_bit1, z_bit0, z_cap, Nat.not_lt_zero, Nat.zero_le, Nat.lt_irrefl, Nat.le_refl, true_implies, false_implies, implies_true, and_true, true_and, not_true_eq_false, not_false_eq_true, and_self, false_and, and_false, if_true, if_false, ite_true, ite_false, reduceCtorEq, Bool.false_eq_true, Bool.true_eq_false, eq_self_iff_true, forall_const, iff_self, m7, e, hq, hsz, q1, l_cmp0, sI_eq, sI_ne, sI_row, sI_way, sA_eq, sA_ne, sA_sc, sA_way, sJ_sc, sJ_row, sJ_way, l_add, c]
    refine hP _ (((Fw.refl s).a (by decide)).i (by decide)).j (fun j hj => sI_ne (σ := sA s 6 (upd (s.2.1 6) sz (nI q))) hj) ?_
    simp only [c, if_true]
    refine ⟨rfl, m8, fun j hj => ?_, fun x hx => ?_⟩
    · show upd (s.2.1 6) sz (nI q) j = _
      unfold upN
      by_cases e2 : j = sz
      · subst e2; rw [upd_eq, if_pos rfl]
      · rw [upd_ne e2, if_neg e2]; exact m6 j (by omega)
    · show vp_updL s.2.2 q (lN (0 + w)) x = lN (upN wn q (0 + w) x)
      unfold upN
      by_cases e2 : x = q
      · subst e2; rw [updL_eq, if_pos rfl]
      · rw [updL_ne e2, if_neg e2]; exact mw x hx
  · simp (disch := first | assumption | omega) only [↓zm1, z0, z1, z2, z3, z4, z5, z8, z10, z12, z13, z24, z25, z31, z99, z100, z104, z115, z116, z1000, z8192, z10240, nI_leI, nI_ltI, nI_eq, nI_clamp, z_in, z_inl, nI_add, pk_mul, pk_sub, z_pred, z_predm, pk_div, z_em, z_me, z_mlt, z_nmlt, z_mle, z_nmle, z_shl, z_bit1, z_bit0, z_cap, Nat.not_lt_zero, Nat.zero_le, Nat.lt_irrefl, Nat.le_refl, true_implies, false_implies, implies_true, and_true, true_and, not_true_eq_false, not_false_eq_true, and_self, false_and, and_false, if_true, if_false, ite_true, ite_false, reduceCtorEq, Bool.false_eq_true, Bool.true_eq_false, eq_self_iff_true, forall_const, iff_self, m7, e, hq, l_cmp hw, sI_eq, sI_ne, sI_row, sI_way, sA_eq, sA_ne, sA_sc, sA_way, sJ_sc, sJ_row, sJ_way, l_add, c]
    refine hP _ (Fw.refl s).j (fun j _ => rfl) ?_
    simp only [c, if_false]
    refine ⟨m7, m8, m6, fun x hx => ?_⟩
    show vp_updL s.2.2 q (lN (wn q + w)) x = lN (upN wn q (wn q + w) x)
    unfold upN
    by_cases e2 : x = q
    · subst e2; rw [updL_eq, if_pos rfl]
    · rw [updL_ne e2, if_neg e2]; exact mw x hx
/-- the figures of a walk over the first i of its row -/
def mnS (st : Nat) (f : Nat → Nat) : Nat → Nat
  | 0 => pc st
  | i + 1 => min (mnS st f i) (pc (f i))
def orS (f : Nat → Nat) : Nat → Nat
  | 0 => 0
  | i + 1 => orS f i ||| f i
def Ag (s : SX) (L : Ln) (st i : Nat) (f : Nat → Nat) : Prop := s.1 9 = nI (fb_ct (fun j => decide (J L (f j) = 0)) i) ∧ s.1 10 = nI (mnS st f i) ∧ s.1 11 = nI (orS f i) ∧ s.1 12 = nI (fb_sm (fun j => J L (f j)) i) ∧ s.1 13 = nI 0
theorem mnS_cong {st : Nat} {f g : Nat → Nat} : ∀ {i : Nat}, (∀ j, j < i → f j = g j) → mnS st f i = mnS st g i
  | 0, _ => rfl
  | i + 1, h => by unfold mnS; rw [mnS_cong (fun j hj => h j (by omega)), h i (by omega)]
theorem orS_cong {f g : Nat → Nat} : ∀ {i : Nat}, (∀ j, j < i → f j = g j) → orS f i = orS g i
  | 0, _ => rfl
  | i + 1, h => by unfold orS; rw [orS_cong (fun j hj => h j (by omega)), h i (by omega)]
theorem Ag.cong {s : SX} {L : Ln} {st i : Nat} {f g : Nat → Nat} (h : Ag s L st i f) (e : ∀ j, j < i → f j = g j) : Ag s L st i g := by
  unfold Ag at h ⊢
  rw [fb_ct_cong (q := fun j => decide (J L (f j) = 0)) (fun j hj => by rw [e j hj]), fb_sm_cong (g := fun j => J L (f j)) (fun j hj => by rw [e j hj]), ← mnS_cong e, ← orS_cong e]
  exact h
theorem mnS_le (st : Nat) (f : Nat → Nat) : ∀ i, mnS st f i ≤ pc st
  | 0 => Nat.le_refl _
  | i + 1 => Nat.le_trans (Nat.min_le_left _ _) (mnS_le st f i)
theorem orS_lt {n : Nat} {f : Nat → Nat} : ∀ {i : Nat}, (∀ j, j < i → f j < 2 ^ n) → orS f i < 2 ^ n
  | 0, _ => Nat.two_pow_pos n
  | i + 1, h => Nat.or_lt_two_pow (orS_lt fun j hj => h j (by omega)) (h i (by omega))
theorem z_min {a b : Nat} (ha : a < 2 ^ 31) (hb : b < 2 ^ 31) : jmin (nI a) (nI b) = nI (min a b) := by
  unfold jmin
  by_cases h : b < a
  · rw [if_pos ((nI_ltI hb ha).mpr h), Nat.min_eq_right (by omega)]
  · rw [if_neg (fun e => h ((nI_ltI hb ha).mp e)), Nat.min_eq_left (by omega)]
theorem w_visit {σ : SX} {L : Ln} {n fu : Nat} (hl : Lin σ L) (hL : Lok n L) (hfu : 20000 ≤ fu) {s : SX} {st i sz : Nat} {f wn : Nat → Nat} (hst : st < 2 ^ n) (hs : Fw s σ) (hM : Mid s st sz f wn) (hA : Ag s L st i f) (hP0 : MidP n L st i sz f wn) (hi : i < sz) {P : SX → Prop}
    (hP : ∀ s' sz' f' wn', Fw s' σ → Mid s' st sz' f' wn' → Ag s' L st (i + 1) f' → MidP n L st (i + 1) sz' f' wn' → P s') : wp_X2_visit fu s (nI (f i)) P := by
  have hn := hL.1
  have h8 := pow_13 hn
  have hm := hL.2.1
  have hfi := hP0.2.1.1 i hi
  generalize hpd : f i = p at hfi
  have key := lp (m := L.length) (Q := fun g k => ∀ s sz f wn, f i = p → Fw s σ → Mid s st sz f wn → Ag s L st i f → MidV n L st i sz f wn k →
      wp_X2_visit_L4 (nI p) (fun (v2_52 : Int32) (s_52 : SX) => (wp_J6_bitCount_0f7a4 (nI p) (fun r78 => ((¬ v2_52 = 0 → (P (sI (sI (sI s_52 12 ((s_52.1 12) + v2_52)) 11 ((s_52.1 11) ||| nI p)) 10 (jmin (s_52.1 10) r78)))) ∧ (v2_52 = 0 → (P (sI (sI (sI (sI s_52 12 ((s_52.1 12) + v2_52)) 11 ((s_52.1 11) ||| nI p)) 10 (jmin (s_52.1 10) r78)) 9 ((s_52.1 9) + 1)))))))) g (nI k) (nI (fb_ct (can L p) k)) s) (by
    intro g k hk ih s sz f wn hfp hs hM hA hV
    have hls := hl.fw hs
    rw [wp_X2_visit_L4]
    unfold wp_X2_visit_B4 wp_X2_visit_J46
    have hck := fb_ct_le (can L p) k
    rcases Nat.lt_or_eq_of_le hk with h | h
    · have ih := ih h
      have q : ¬ L.length ≤ k := by omega
      have hnx : nx L p k < 2 ^ n := nx_lt hL h hfi
      rw [fb_ct_succ] at ih
      by_cases hc : can L p k = true
      · have hcp := can_pc hL h hc
        have hsz : sz ≤ 8192 := Nat.le_trans (Fnd_sz hV.2.1) h8
        have hpos : st < 2 ^ n := hst
        have hle := MidV_le hL hV (by omega) hnx (by rw [hfp]; omega)
        have hWl := Wy_lt hL (nx L p k) hst
        have hsz2 : wn (nx L p k) = 0 → sz < 8192 := fun z => by
          have := Fnd_sz (MidV_yes hL hV h (by rw [hfp]; exact hc)).2.1
          rw [hfp, if_pos z] at this
          omega
        simp (disch := first | assumption | omega) only [w_lineCount hls, ↓zm1, z0, z1, z2, z3, z4, z5, z8, z10, z12, z13, z24, z25, z31, z99, z100, z104, z115, z116, z1000, z8192, z10240, nI_leI, nI_ltI, nI_eq, nI_clamp, z_in, z_inl, nI_add, pk_mul, pk_sub, z_pred, z_predm, pk_div, z_em, z_me, z_mlt, z_nmlt, z_mle, z_nmle, z_shl, z_bit1, z_bit0, z_cap, Nat.not_lt_zero, Nat.zero_le, Nat.lt_irrefl, Nat.le_refl, true_implies, false_implies, implies_true, and_true, true_and, not_true_eq_false, not_false_eq_true, and_self, false_and, and_false, if_true, if_false, ite_true, ite_false, reduceCtorEq, Bool.false_eq_true, Bool.true_eq_false, eq_self_iff_true, forall_const, iff_self, q, w_behind hls hL, h, hc, w_waysTo hM]
        refine w_find hM (by omega) (by omega) hsz hsz2 fun s' g1 g2 g3 => ?_
        have hV' := MidV_yes hL hV h (by rw [hfp]; exact hc)
        rw [hfp] at hV'
        simp only [hc, if_true] at ih
        refine ih s' _ _ _ ?_ (g1.trans hs) g3 ?_ hV'
        · split
          · exact (if_neg (by have := hV.1; omega)).trans hfp
          · exact hfp
        · have hA' : Ag s' L st i f := by
            obtain ⟨a1, a2, a3, a4, a5⟩ := hA
            exact ⟨(g2 9 (by decide)).trans a1, (g2 10 (by decide)).trans a2, (g2 11 (by decide)).trans a3, (g2 12 (by decide)).trans a4, (g2 13 (by decide)).trans a5⟩
          refine hA'.cong fun j hj => ?_
          split
          · exact (if_neg (by have := hV.1; omega)).symm
          · rfl
      · simp (disch := first | assumption | omega) only [w_lineCount hls, ↓zm1, z0, z1, z2, z3, z4, z5, z8, z10, z12, z13, z24, z25, z31, z99, z100, z104, z115, z116, z1000, z8192, z10240, nI_leI, nI_ltI, nI_eq, nI_clamp, z_in, z_inl, nI_add, pk_mul, pk_sub, z_pred, z_predm, pk_div, z_em, z_me, z_mlt, z_nmlt, z_mle, z_nmle, z_shl, z_bit1, z_bit0, z_cap, Nat.not_lt_zero, Nat.zero_le, Nat.lt_irrefl, Nat.le_refl, true_implies, false_implies, implies_true, and_true, true_and, not_true_eq_false, not_false_eq_true, and_self, false_and, and_false, if_true, if_false, ite_true, ite_false, reduceCtorEq, Bool.false_eq_true, Bool.true_eq_false, eq_self_iff_true, forall_const, iff_self, q, w_behind hls hL, h, hc]
        simp only [hc] at ih
        exact ih s sz f wn hfp hs hM hA (MidV_no hV (by rw [hfp]; exact hc))
    · subst h
      obtain ⟨a1, a2, a3, a4, a5⟩ := hA
      have hmn := mnS_le st f i
      have hpst := pc_le hst (by omega)
      have hpp := pc_le hfi (by omega)
      have hor : orS f i < 2 ^ n := orS_lt fun j hj => hV.2.1.1 j (by have := hV.1; omega)
      have hE := MidV_end hL hV
      simp (disch := first | assumption | omega) only [w_lineCount hls, ↓zm1, z0, z1, z2, z3, z4, z5, z8, z10, z12, z13, z24, z25, z31, z99, z100, z104, z115, z116, z1000, z8192, z10240, nI_leI, nI_ltI, nI_eq, nI_clamp, z_in, z_inl, nI_add, pk_mul, pk_sub, z_pred, z_predm, pk_div, z_em, z_me, z_mlt, z_nmlt, z_mle, z_nmle, z_shl, z_bit1, z_bit0, z_cap, Nat.not_lt_zero, Nat.zero_le, Nat.lt_irrefl, Nat.le_refl, true_implies, false_implies, implies_true, and_true, true_and, not_true_eq_false, not_false_eq_true, and_self, false_and, and_false, if_true, if_false, ite_true, ite_false, reduceCtorEq, Bool.false_eq_true, Bool.true_eq_false, eq_self_iff_true, forall_const, iff_self, bc_pc, a2, a3, a4, fa_or, z_min]
      have B : ∀ s', Fw s' σ → (∀ j, j < 9 → s'.1 j = s.1 j) → s'.2 = s.2 → s'.1 9 = nI (fb_ct (fun j => decide (J L (f j) = 0)) (i + 1)) → s'.1 10 = nI (min (mnS st f i) (pc p)) → s'.1 11 = nI (orS f i ||| p) → s'.1 12 = nI (fb_sm (fun j => J L (f j)) i + fb_ct (can L p) L.length) → s'.1 13 = s.1 13 → P s' := by
        intro s' g0 g1 g2 g3 g4 g5 g6 g7
        refine hP s' sz f wn g0 ?_ ⟨g3, ?_, ?_, ?_, g7.trans a5⟩ hE
        · obtain ⟨m7, m8, m6, mw⟩ := hM
          refine ⟨(g1 7 (by decide)).trans m7, (g1 8 (by decide)).trans m8, ?_, ?_⟩
          · rw [g2]; exact m6
          · rw [g2]; exact mw
        · rw [g4]; show _ = nI (min _ (pc (f i))); rw [hfp]
        · rw [g5]; show _ = nI (_ ||| f i); rw [hfp]
        · rw [g6]; show _ = nI (_ + J L (f i)); rw [hfp]; rfl
      have hJ : J L p = fb_ct (can L p) L.length := rfl
      refine ⟨fun c => ?_, fun c => ?_⟩
      · refine B _ (((hs.i (by decide)).i (by decide)).i (by decide)) ?_ rfl ?_ (sI_eq _ _ _) rfl rfl rfl
        · intro j hj
          rw [sI_ne (by omega), sI_ne (by omega), sI_ne (by omega)]
        · rw [fb_ct_succ, hfp, hJ]
          simp only [c, decide_false, Bool.false_eq_true, if_false]
          exact a1
      · refine B _ ((((hs.i (by decide)).i (by decide)).i (by decide)).i (by decide)) ?_ rfl ?_ rfl rfl rfl rfl
        · intro j hj
          rw [sI_ne (by omega), sI_ne (by omega), sI_ne (by omega), sI_ne (by omega)]
        · rw [fb_ct_succ, hfp, hJ, sI_eq]
          simp only [c, decide_true, if_true]
          show s.1 9 + nI 1 = _
          rw [a1, nI_add]) fu 0 (by omega) (by omega)
  unfold wp_X2_visit
  exact key s sz f wn hpd hs hM hA (by
    have := MidP_V hP0 hi
    exact this)
