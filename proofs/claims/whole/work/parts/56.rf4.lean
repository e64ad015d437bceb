/-! ===== the turns of both sides are the same ===== -/
theorem alB_cong {g h : Nat → Bool} : ∀ {m : Nat}, (∀ k, k < m → g k = h k) → alB g m = alB h m
  | 0, _ => rfl
  | m + 1, e => by unfold alB; rw [alB_cong fun k hk => e k (by omega), e m (by omega)]
theorem two_2 : ∀ kd, kd < 3 → ∀ x, x < 25 → ∀ y, y < 25 → (!two kd x y || two 2 x y) = true := by decide +kernel
theorem tc_mid0 : ∀ x, x < 25 → ∀ y, y < 25 → (!two 2 x y || alB (fun t => decide (tc ((x + y) / 2) t = (tc x t + tc y t) / 2)) 8) = true := by decide +kernel
theorem tc_mid {t : Nat} (ht : t < 8) {kd : Nat} (hk : kd < 3) {x y : Nat} (hx : x < 25) (hy : y < 25) (h : two kd x y = true) : tc ((x + y) / 2) t = (tc x t + tc y t) / 2 := by
  have h2 := two_2 kd hk x hx y hy
  rw [h, Bool.not_true, Bool.false_or] at h2
  have h3 := tc_mid0 x hx y hy
  rw [h2, Bool.not_true, Bool.false_or] at h3
  exact of_decide_eq_true ((alB_iff _ _).mp h3 t ht)
theorem syR_C {c : Nat → Nat} {n kd : Nat} (hC : Cok n c) (hk : kd < 3) (q : Nat → Nat) (hq : ∀ x, x < 25 → q x < 25) (hm : ∀ x y, x < 25 → y < 25 → two kd x y = true → q ((x + y) / 2) = (q x + q y) / 2) : syR c n kd q = syC c n kd q := by
  have hL := lns_ok hC hk
  unfold syR syC
  cases h : alB (fun h => (mk c n).testBit (q (c h))) n
  · rw [Bool.false_and, Bool.false_and]
  · rw [Bool.true_and, Bool.true_and]
    have hall := (alB_iff _ _).mp h
    apply alB_cong
    intro k hk2
    obtain ⟨a1, a2, a3, -⟩ := hL.2.2.1 k hk2
    obtain ⟨s1, s2⟩ := lns_sound hk2
    have s3 := s1
    unfold lnB at s3
    rw [Bool.and_eq_true] at s3
    have hcO : c (lO (lns c n kd) k) = (c (lF (lns c n kd) k) + c (lT (lns c n kd) k)) / 2 := by
      rw [s2]; exact (ix_bit hC s3.2).2
    have hmid := hm _ _ (hC.2.1 _ a1) (hC.2.1 _ a3) s3.1
    rw [← hcO] at hmid
    have b1 : (mk c n).testBit (q (c (lF (lns c n kd) k))) = true := hall _ a1
    have b2 : (mk c n).testBit (q (c (lO (lns c n kd) k))) = true := hall _ a2
    have b3 : (mk c n).testBit (q (c (lT (lns c n kd) k))) = true := hall _ a3
    obtain ⟨i1, e1⟩ := ix_bit hC b1
    obtain ⟨i2, e2⟩ := ix_bit hC b2
    obtain ⟨i3, e3⟩ := ix_bit hC b3
    have hn := hC.1
    unfold hA
    rw [if_pos b1, if_pos b2, if_pos b3, b1, b3, ← hmid, b2, Bool.and_true, Bool.and_true, Bool.and_true]
    have key : orB (jmB (lns c n kd) (nI (ix c n (q (c (lF (lns c n kd) k))))) (nI (ix c n (q (c (lO (lns c n kd) k))))) (nI (ix c n (q (c (lT (lns c n kd) k)))))) (lns c n kd).length = true ↔ two kd (q (c (lF (lns c n kd) k))) (q (c (lT (lns c n kd) k))) = true := by
      rw [orB_iff]
      constructor
      · rintro ⟨j, hj, hd⟩
        have hd := of_decide_eq_true hd
        obtain ⟨g1, g2, g3, -⟩ := hL.2.2.1 j hj
        rw [nI_eq (by omega) (by omega), nI_eq (by omega) (by omega), nI_eq (by omega) (by omega)] at hd
        have s := (lns_sound hj).1
        rw [hd.1, hd.2.2] at s
        unfold lnB at s
        rw [Bool.and_eq_true, e1, e3] at s
        exact s.1
      · intro ht
        have s : lnB c n kd (ix c n (q (c (lF (lns c n kd) k)))) (ix c n (q (c (lT (lns c n kd) k)))) = true := by
          unfold lnB
          rw [e1, e3, ← hmid, ht, b2]; rfl
        obtain ⟨j, hj, j1, j2⟩ := lns_all i1 i3 s
        refine ⟨j, hj, decide_eq_true ⟨by rw [j1], ?_, by rw [j2]⟩⟩
        have := (lns_sound hj).2
        rw [j1, j2, e1, e3, ← hmid] at this
        rw [this]
    cases x1 : orB (jmB (lns c n kd) (nI (ix c n (q (c (lF (lns c n kd) k))))) (nI (ix c n (q (c (lO (lns c n kd) k))))) (nI (ix c n (q (c (lT (lns c n kd) k)))))) (lns c n kd).length <;> cases x2 : two kd (q (c (lF (lns c n kd) k))) (q (c (lT (lns c n kd) k)))
    · rfl
    · rw [x1, x2] at key; exact absurd (key.mpr rfl) (by decide)
    · rw [x1, x2] at key; exact absurd (key.mp rfl) (by decide)
    · rfl
def pi8 (t : Nat) : Nat := ([0, 5, 3, 6, 2, 7, 1, 4] : List Nat).getD t 0
theorem pi8_ok : ∀ t, t < 8 → pi8 t < 8 ∧ ∀ x, x < 25 → tc x (pi8 t) = tr x t := by decide +kernel
theorem syR_pi {c : Nat → Nat} {n kd : Nat} (hC : Cok n c) (hk : kd < 3) {t : Nat} (ht : t < 8) : syR c n kd (fun x => tr x t) = syC c n kd (fun x => tc x (pi8 t)) := by
  obtain ⟨p1, p2⟩ := pi8_ok t ht
  rw [← syR_C hC hk (fun x => tc x (pi8 t)) (fun x hx => (tc_ok _ p1 x hx).2) (fun x y hx hy h => tc_mid p1 hk hx hy h)]
  have hL := lns_ok hC hk
  unfold syR
  congr 1
  · exact alB_cong fun h hh => by show (mk c n).testBit (tr (c h) t) = (mk c n).testBit (tc (c h) (pi8 t)); rw [p2 _ (hC.2.1 h hh)]
  · refine alB_cong fun k hk2 => ?_
    obtain ⟨a1, a2, a3, -⟩ := hL.2.2.1 k hk2
    show orB (jmB _ (hA c n (tr _ t)) (hA c n (tr _ t)) (hA c n (tr _ t))) _ = orB (jmB _ (hA c n (tc _ _)) (hA c n (tc _ _)) (hA c n (tc _ _))) _
    rw [p2 _ (hC.2.1 _ a1), p2 _ (hC.2.1 _ a2), p2 _ (hC.2.1 _ a3)]
theorem tp_cong {c : Nat → Nat} {n p : Nat} {q r : Nat → Nat} (h : ∀ x, x < n → q (c x) = r (c x)) : ∀ {i : Nat}, i ≤ n → tp c n p q i = tp c n p r i
  | 0, _ => rfl
  | i + 1, hi => by unfold tp; rw [tp_cong h (by omega), h i (by omega)]
/-- how many of the eight -/
def sy8 (c : Nat → Nat) (n kd : Nat) : Nat := fb_ct (fun t => syC c n kd (fun x => tc x t)) 8
theorem sy8_R {c : Nat → Nat} {n kd : Nat} (hC : Cok n c) (hk : kd < 3) : fb_ct (fun t => syR c n kd (fun x => tr x t)) 8 = sy8 c n kd := by
  rw [fb_ct_cong (fun t ht => syR_pi hC hk ht)]
  unfold sy8
  simp only [fb_ct_succ, fb_ct]
  have e0 : pi8 0 = 0 := rfl
  have e1 : pi8 1 = 5 := rfl
  have e2 : pi8 2 = 3 := rfl
  have e3 : pi8 3 = 6 := rfl
  have e4 : pi8 4 = 2 := rfl
  have e5 : pi8 5 = 7 := rfl
  have e6 : pi8 6 = 1 := rfl
  have e7 : pi8 7 = 4 := rfl
  simp only [e0, e1, e2, e3, e4, e5, e6, e7]
  omega
theorem w_symmetries {σ : SX} {n kd fu : Nat} {c : Nat → Nat} (hC : Cok n c) (hk : kd < 3) (hB : Bb σ n c kd) (hl : Lin σ (lns c n kd)) (hfu : 20000 ≤ fu) {P : Int32 → Prop} (hP : P (nI (sy8 c n kd))) : wp_X3_symmetries fu σ P := by
  have key := lp (m := 8) (Q := fun f i => wp_X3_symmetries_L4 fu σ P f (nI i) (nI (fb_ct (fun t => syC c n kd (fun x => tc x t)) i))) (by
    intro f i hi ih
    rw [wp_X3_symmetries_L4]
    unfold wp_X3_symmetries_B4 wp_X3_symmetries_J24
    rcases Nat.lt_or_eq_of_le hi with d | d
    · have ih := ih d
      have q : ¬ 8 ≤ i := by omega
      rw [fb_ct_succ] at ih
      simp (disch := first | assumption | omega) only [↓zm1, z0, z1, z2, z3, z4, z5, z8, z10, z12, z13, z24, z25, z31, z99, z100, z104, z115, z116, z1000, z8192, z10240, nI_leI, nI_ltI, nI_eq, nI_clamp, z_in, z_inl, nI_add, pk_mul, pk_sub, z_pred, z_predm, pk_div, z_em, z_me, z_mlt, z_nmlt, z_mle, z_nmle, z_shl, z_bit1, z_bit0, z_cap, Nat.not_lt_zero, Nat.zero_le, Nat.lt_irrefl, Nat.le_refl, true_implies, false_implies, implies_true, and_true, true_and, not_true_eq_false, not_false_eq_true, and_self, false_and, and_false, if_true, if_false, ite_true, ite_false, reduceCtorEq, Bool.false_eq_true, Bool.true_eq_false, eq_self_iff_true, forall_const, iff_self, q]
      refine w_isSymmetry hC hk hB hl hfu d ?_
      rw [zb_0]
      cases h : syC c n kd (fun x => tc x i)
      · simp only [h, Bool.false_eq_true, if_false, Nat.add_zero, true_implies, false_implies, implies_true, and_true, true_and, not_true_eq_false, not_false_eq_true, and_self, false_and, and_false, if_true, if_false, ite_true, ite_false, reduceCtorEq, Bool.false_eq_true, Bool.true_eq_false, eq_self_iff_true, forall_const, iff_self] at ih ⊢; exact ih
      · simp only [h, if_true, true_implies, false_implies, implies_true, and_true, true_and, not_true_eq_false, not_false_eq_true, and_self, false_and, and_false, if_true, if_false, ite_true, ite_false, reduceCtorEq, Bool.false_eq_true, Bool.true_eq_false, eq_self_iff_true, forall_const, iff_self] at ih ⊢; exact ih
    · subst d
      simp (disch := first | assumption | omega) only [↓zm1, z0, z1, z2, z3, z4, z5, z8, z10, z12, z13, z24, z25, z31, z99, z100, z104, z115, z116, z1000, z8192, z10240, nI_leI, nI_ltI, nI_eq, nI_clamp, z_in, z_inl, nI_add, pk_mul, pk_sub, z_pred, z_predm, pk_div, z_em, z_me, z_mlt, z_nmlt, z_mle, z_nmle, z_shl, z_bit1, z_bit0, z_cap, Nat.not_lt_zero, Nat.zero_le, Nat.lt_irrefl, Nat.le_refl, true_implies, false_implies, implies_true, and_true, true_and, not_true_eq_false, not_false_eq_true, and_self, false_and, and_false, if_true, if_false, ite_true, ite_false, reduceCtorEq, Bool.false_eq_true, Bool.true_eq_false, eq_self_iff_true, forall_const, iff_self]
      exact hP) fu 0 (Nat.zero_le _) (by omega)
  exact key
theorem r_symmetries {u : SX} {n kd fu : Nat} {c : Nat → Nat} {w : Nat → Int32} (hC : Cok n c) (hk : kd < 3) (hB : Rb u n c kd w) (hR : Rin u (lns c n kd)) (hfu : 20000 ≤ fu) {P : Int32 → SX → Prop} (hP : P (nI (sy8 c n kd)) (sI u 5 0)) : wp_X4_symmetries fu u P := by
  have hB' : Rb (sI u 5 (nI 0)) n c kd w := hB
  have hR' : Rin (sI u 5 (nI 0)) (lns c n kd) := hR
  have key := fun (K : Int32 → Prop) (hK : K (nI (sy8 c n kd))) => lp (m := 8) (Q := fun f i => wp_X4_symmetries_L9 fu u K f (nI i) (nI (fb_ct (fun t => syR c n kd (fun x => tr x t)) i))) (by
    intro f i hi ih
    rw [wp_X4_symmetries_L9]
    unfold wp_X4_symmetries_B9 wp_X4_symmetries_J29
    rcases Nat.lt_or_eq_of_le hi with d | d
    · have ih := ih d
      have q : ¬ 8 ≤ i := by omega
      rw [fb_ct_succ] at ih
      simp (disch := first | assumption | omega) only [↓zm1, z0, z1, z2, z3, z4, z5, z8, z10, z12, z13, z24, z25, z31, z99, z100, z104, z115, z116, z1000, z8192, z10240, nI_leI, nI_ltI, nI_eq, nI_clamp, z_in, z_inl, nI_add, pk_mul, pk_sub, z_pred, z_predm, pk_div, z_em, z_me, z_mlt, z_nmlt, z_mle, z_nmle, z_shl, z_bit1, z_bit0, z_cap, Nat.not_lt_zero, Nat.zero_le, Nat.lt_irrefl, Nat.le_refl, true_implies, false_implies, implies_true, and_true, true_and, not_true_eq_false, not_false_eq_true, and_self, false_and, and_false, if_true, if_false, ite_true, ite_false, reduceCtorEq, Bool.false_eq_true, Bool.true_eq_false, eq_self_iff_true, forall_const, iff_self, q]
      refine r_isSymmetry hC hk hB' hR' hfu d ?_
      rw [zb_0]
      cases h : syR c n kd (fun x => tr x i)
      · simp only [h, Bool.false_eq_true, if_false, true_implies, false_implies, implies_true, and_true, true_and, not_true_eq_false, not_false_eq_true, and_self, false_and, and_false, if_true, if_false, ite_true, ite_false, reduceCtorEq, Bool.false_eq_true, Bool.true_eq_false, eq_self_iff_true, forall_const, iff_self] at ih ⊢; exact ih
      · simp only [h, if_true, true_implies, false_implies, implies_true, and_true, true_and, not_true_eq_false, not_false_eq_true, and_self, false_and, and_false, if_true, if_false, ite_true, ite_false, reduceCtorEq, Bool.false_eq_true, Bool.true_eq_false, eq_self_iff_true, forall_const, iff_self] at ih ⊢; exact ih
    · subst d
      simp (disch := first | assumption | omega) only [↓zm1, z0, z1, z2, z3, z4, z5, z8, z10, z12, z13, z24, z25, z31, z99, z100, z104, z115, z116, z1000, z8192, z10240, nI_leI, nI_ltI, nI_eq, nI_clamp, z_in, z_inl, nI_add, pk_mul, pk_sub, z_pred, z_predm, pk_div, z_em, z_me, z_mlt, z_nmlt, z_mle, z_nmle, z_shl, z_bit1, z_bit0, z_cap, Nat.not_lt_zero, Nat.zero_le, Nat.lt_irrefl, Nat.le_refl, true_implies, false_implies, implies_true, and_true, true_and, not_true_eq_false, not_false_eq_true, and_self, false_and, and_false, if_true, if_false, ite_true, ite_false, reduceCtorEq, Bool.false_eq_true, Bool.true_eq_false, eq_self_iff_true, forall_const, iff_self]
      rw [sy8_R hC hk]
      exact hK) fu 0 (Nat.zero_le _) (by omega)
  exact key (fun (v1_37 : Int32) => (P v1_37 (sI u 5 0))) hP
/-! the least form -/
def mnT (p : Nat) (sy : Nat → Bool) (v : Nat → Nat) : Nat → Nat
  | 0 => p
  | t + 1 => if sy t = true then min (mnT p sy v t) (v t) else mnT p sy v t
theorem mnT_iff (p : Nat) (sy : Nat → Bool) (v : Nat → Nat) (x : Nat) : ∀ i, x ≤ mnT p sy v i ↔ x ≤ p ∧ ∀ h, h < i → sy h = true → x ≤ v h
  | 0 => ⟨fun h => ⟨h, fun j hj => by omega⟩, fun h => h.1⟩
  | i + 1 => by
    have ih := mnT_iff p sy v x i
    unfold mnT
    by_cases hb : sy i = true
    · rw [if_pos hb, Nat.le_min, ih]
      constructor
      · rintro ⟨⟨h1, h2⟩, h3⟩
        refine ⟨h1, fun j hj hbj => ?_⟩
        rcases Nat.lt_or_eq_of_le (Nat.lt_succ_iff.mp hj) with d | d
        · exact h2 j d hbj
        · rw [d]; exact h3
      · rintro ⟨h1, h2⟩
        exact ⟨⟨h1, fun j hj => h2 j (by omega)⟩, h2 i (by omega) hb⟩
    · rw [if_neg hb, ih]
      constructor
      · rintro ⟨h1, h2⟩
        refine ⟨h1, fun j hj hbj => ?_⟩
        rcases Nat.lt_or_eq_of_le (Nat.lt_succ_iff.mp hj) with d | d
        · exact h2 j d hbj
        · rw [d] at hbj; exact absurd hbj hb
      · rintro ⟨h1, h2⟩
        exact ⟨h1, fun j hj => h2 j (by omega)⟩
theorem mnT_le (p : Nat) (sy : Nat → Bool) (v : Nat → Nat) (i : Nat) : mnT p sy v i ≤ p := ((mnT_iff p sy v _ i).mp (Nat.le_refl _)).1
def lf8 (c : Nat → Nat) (n kd p : Nat) : Nat := mnT p (fun t => syC c n kd (fun x => tc x t)) (fun t => tp c n p (fun x => tc x t) n) 8
theorem pi8_onto : ∀ t, t < 8 → pi8 (pi8 (pi8 (pi8 (pi8 (pi8 (pi8 (pi8 (pi8 (pi8 (pi8 t)))))))))) < 8 := by decide +kernel
def pj8 (t : Nat) : Nat := ([0, 6, 4, 2, 7, 1, 3, 5] : List Nat).getD t 0
theorem pj8_ok : ∀ t, t < 8 → pj8 t < 8 ∧ pi8 (pj8 t) = t := by decide +kernel
theorem lf8_R {c : Nat → Nat} {n kd : Nat} (hC : Cok n c) (hk : kd < 3) (p : Nat) : mnT p (fun t => syR c n kd (fun x => tr x t)) (fun t => tp c n p (fun x => tr x t) n) 8 = lf8 c n kd p := by
  have tpe : ∀ t, t < 8 → tp c n p (fun x => tr x t) n = tp c n p (fun x => tc x (pi8 t)) n := fun t ht => tp_cong (fun x hx => ((pi8_ok t ht).2 _ (hC.2.1 x hx)).symm) (Nat.le_refl _)
  have key : ∀ x, x ≤ mnT p (fun t => syR c n kd (fun x => tr x t)) (fun t => tp c n p (fun x => tr x t) n) 8 ↔ x ≤ lf8 c n kd p := by
    intro x
    unfold lf8
    rw [mnT_iff, mnT_iff]
    constructor
    · rintro ⟨h1, h2⟩
      refine ⟨h1, fun t ht hs => ?_⟩
      obtain ⟨j1, j2⟩ := pj8_ok t ht
      have a := h2 (pj8 t) j1 (by rw [syR_pi hC hk j1, j2]; exact hs)
      rw [tpe _ j1, j2] at a
      exact a
    · rintro ⟨h1, h2⟩
      refine ⟨h1, fun t ht hs => ?_⟩
      rw [syR_pi hC hk ht] at hs
      rw [tpe t ht]
      exact h2 (pi8 t) (pi8_ok t ht).1 hs
  have a := (key _).mp (Nat.le_refl _)
  have b := (key _).mpr (Nat.le_refl _)
  omega
theorem syC_bit {c : Nat → Nat} {n kd : Nat} {q : Nat → Nat} (h : syC c n kd q = true) : ∀ x, x < n → (mk c n).testBit (q (c x)) = true := by
  unfold syC at h
  rw [Bool.and_eq_true] at h
  exact (alB_iff _ _).mp h.1
theorem syR_bit {c : Nat → Nat} {n kd : Nat} {q : Nat → Nat} (h : syR c n kd q = true) : ∀ x, x < n → (mk c n).testBit (q (c x)) = true := by
  unfold syR at h
  rw [Bool.and_eq_true] at h
  exact (alB_iff _ _).mp h.1
theorem w_leastForm {σ : SX} {n kd fu : Nat} {c : Nat → Nat} (hC : Cok n c) (hk : kd < 3) (hB : Bb σ n c kd) (hl : Lin σ (lns c n kd)) (hfu : 20000 ≤ fu) {p : Nat} (hp : p < 2 ^ n) {K : Int32 → Prop} (hP : K (nI (lf8 c n kd p))) : wp_X3_leastForm_L9 fu (nI p) σ K fu 0 (nI p) := by
  have h8 := pow_13 hC.1
  have key := lp (m := 8) (Q := fun f i => wp_X3_leastForm_L9 fu (nI p) σ K f (nI i) (nI (mnT p (fun t => syC c n kd (fun x => tc x t)) (fun t => tp c n p (fun x => tc x t) n) i))) (by
    intro f i hi ih
    rw [wp_X3_leastForm_L9]
    unfold wp_X3_leastForm_B9 wp_X3_leastForm_J40
    have hmn := mnT_le p (fun t => syC c n kd (fun x => tc x t)) (fun t => tp c n p (fun x => tc x t) n) i
    rcases Nat.lt_or_eq_of_le hi with d | d
    · have ih := ih d
      have q : ¬ 8 ≤ i := by omega
      unfold mnT at ih
      simp (disch := first | assumption | omega) only [↓zm1, z0, z1, z2, z3, z4, z5, z8, z10, z12, z13, z24, z25, z31, z99, z100, z104, z115, z116, z1000, z8192, z10240, nI_leI, nI_ltI, nI_eq, nI_clamp, z_in, z_inl, nI_add, pk_mul, pk_sub, z_pred, z_predm, pk_div, z_em, z_me, z_mlt, z_nmlt, z_mle, z_nmle, z_shl, z_bit1, z_bit0, z_cap, Nat.not_lt_zero, Nat.zero_le, Nat.lt_irrefl, Nat.le_refl, true_implies, false_implies, implies_true, and_true, true_and, not_true_eq_false, not_false_eq_true, and_self, false_and, and_false, if_true, if_false, ite_true, ite_false, reduceCtorEq, Bool.false_eq_true, Bool.true_eq_false, eq_self_iff_true, forall_const, iff_self, q]
      refine w_isSymmetry hC hk hB hl hfu d ?_
      rw [zb_0]
      cases h : syC c n kd (fun x => tc x i)
      · simp only [h, Bool.false_eq_true, if_false, true_implies, false_implies, implies_true, and_true, true_and, not_true_eq_false, not_false_eq_true, and_self, false_and, and_false, if_true, if_false, ite_true, ite_false, reduceCtorEq, Bool.false_eq_true, Bool.true_eq_false, eq_self_iff_true, forall_const, iff_self] at ih ⊢; exact ih
      · simp only [h, if_true, true_implies, false_implies, implies_true, and_true, true_and, not_true_eq_false, not_false_eq_true, and_self, false_and, and_false, if_true, if_false, ite_true, ite_false, reduceCtorEq, Bool.false_eq_true, Bool.true_eq_false, eq_self_iff_true, forall_const, iff_self] at ih ⊢
        have hb := syC_bit h
        have ht := tp_lt (q := fun x => tc x i) hC hb (p := p) (Nat.le_refl n)
        refine w_turnedPegs hC hB hfu (by omega) d hb ?_
        rw [z_min (by omega) (by omega)]
        exact ih
    · subst d
      simp (disch := first | assumption | omega) only [↓zm1, z0, z1, z2, z3, z4, z5, z8, z10, z12, z13, z24, z25, z31, z99, z100, z104, z115, z116, z1000, z8192, z10240, nI_leI, nI_ltI, nI_eq, nI_clamp, z_in, z_inl, nI_add, pk_mul, pk_sub, z_pred, z_predm, pk_div, z_em, z_me, z_mlt, z_nmlt, z_mle, z_nmle, z_shl, z_bit1, z_bit0, z_cap, Nat.not_lt_zero, Nat.zero_le, Nat.lt_irrefl, Nat.le_refl, true_implies, false_implies, implies_true, and_true, true_and, not_true_eq_false, not_false_eq_true, and_self, false_and, and_false, if_true, if_false, ite_true, ite_false, reduceCtorEq, Bool.false_eq_true, Bool.true_eq_false, eq_self_iff_true, forall_const, iff_self]
      exact hP) fu 0 (Nat.zero_le _) (by omega)
  exact key
theorem r_leastForm {u : SX} {n kd fu : Nat} {c : Nat → Nat} {w : Nat → Int32} (hC : Cok n c) (hk : kd < 3) (hB : Rb u n c kd w) (hR : Rin u (lns c n kd)) (hfu : 20000 ≤ fu) {p : Nat} (hp : p < 2 ^ n) {K : Int32 → Prop} (hP : K (nI (lf8 c n kd p))) : wp_X4_leastForm_L26 fu (nI p) u K fu 0 (nI p) := by
  have hn := hC.1
  have h8 := pow_13 hC.1
  have key2 := fun (t : Nat) (ht : t < 8) (hb : ∀ x, x < n → (mk c n).testBit (tr (c x) t) = true) (K : Int32 → Prop) (hK : K (nI (tp c n p (fun x => tr x t) n))) => lp (m := n) (Q := fun f i => wp_X4_leastForm_L49 fu (nI p) u (nI t) K f (nI i) (nI (tp c n p (fun x => tr x t) i))) (by
    intro f i hi ih
    rw [wp_X4_leastForm_L49]
    unfold wp_X4_leastForm_B49 wp_X4_leastForm_J90
    rw [hB.1]
    rcases Nat.lt_or_eq_of_le hi with d | d
    · have ih := ih d
      have q : ¬ n ≤ i := by omega
      have q2 : i < 13 := by omega
      have c1 := hC.2.1 i d
      have u1 := (tr_ok t ht _ c1).2
      have hx := (ix_bit hC (hb i d)).1
      have eh : hA c n (tr (c i) t) = nI (ix c n (tr (c i) t)) := if_pos (hb i d)
      unfold tp at ih
      simp (disch := first | assumption | omega) only [↓zm1, z0, z1, z2, z3, z4, z5, z8, z10, z12, z13, z24, z25, z31, z99, z100, z104, z115, z116, z1000, z8192, z10240, nI_leI, nI_ltI, nI_eq, nI_clamp, z_in, z_inl, nI_add, pk_mul, pk_sub, z_pred, z_predm, pk_div, z_em, z_me, z_mlt, z_nmlt, z_mle, z_nmle, z_shl, z_bit1, z_bit0, z_cap, Nat.not_lt_zero, Nat.zero_le, Nat.lt_irrefl, Nat.le_refl, true_implies, false_implies, implies_true, and_true, true_and, not_true_eq_false, not_false_eq_true, and_self, false_and, and_false, if_true, if_false, ite_true, ite_false, reduceCtorEq, Bool.false_eq_true, Bool.true_eq_false, eq_self_iff_true, forall_const, iff_self, q, q2, r_has, zb_0, hB.2.2.2.1, r_turned hfu, r_holeAt hC hB hfu, eh]
      rw [fa_or, fa_or, Nat.or_zero]
      cases hpb : p.testBit i
      · simp only [hpb, Bool.false_eq_true, if_false, true_implies, false_implies, implies_true, and_true, true_and, not_true_eq_false, not_false_eq_true, and_self, false_and, and_false, if_true, if_false, ite_true, ite_false, reduceCtorEq, Bool.false_eq_true, Bool.true_eq_false, eq_self_iff_true, forall_const, iff_self] at ih ⊢; exact ih
      · simp only [hpb, if_true, true_implies, false_implies, implies_true, and_true, true_and, not_true_eq_false, not_false_eq_true, and_self, false_and, and_false, if_true, if_false, ite_true, ite_false, reduceCtorEq, Bool.false_eq_true, Bool.true_eq_false, eq_self_iff_true, forall_const, iff_self] at ih ⊢; exact ih
    · subst d
      simp (disch := first | assumption | omega) only [↓zm1, z0, z1, z2, z3, z4, z5, z8, z10, z12, z13, z24, z25, z31, z99, z100, z104, z115, z116, z1000, z8192, z10240, nI_leI, nI_ltI, nI_eq, nI_clamp, z_in, z_inl, nI_add, pk_mul, pk_sub, z_pred, z_predm, pk_div, z_em, z_me, z_mlt, z_nmlt, z_mle, z_nmle, z_shl, z_bit1, z_bit0, z_cap, Nat.not_lt_zero, Nat.zero_le, Nat.lt_irrefl, Nat.le_refl, true_implies, false_implies, implies_true, and_true, true_and, not_true_eq_false, not_false_eq_true, and_self, false_and, and_false, if_true, if_false, ite_true, ite_false, reduceCtorEq, Bool.false_eq_true, Bool.true_eq_false, eq_self_iff_true, forall_const, iff_self]
      exact hK) fu 0 (Nat.zero_le _) (by omega)
  have key := lp (m := 8) (Q := fun f i => wp_X4_leastForm_L26 fu (nI p) u K f (nI i) (nI (mnT p (fun t => syR c n kd (fun x => tr x t)) (fun t => tp c n p (fun x => tr x t) n) i))) (by
    intro f i hi ih
    rw [wp_X4_leastForm_L26]
    unfold wp_X4_leastForm_B26 wp_X4_leastForm_J106
    have hmn := mnT_le p (fun t => syR c n kd (fun x => tr x t)) (fun t => tp c n p (fun x => tr x t) n) i
    rcases Nat.lt_or_eq_of_le hi with d | d
    · have ih := ih d
      have q : ¬ 8 ≤ i := by omega
      unfold mnT at ih
      simp (disch := first | assumption | omega) only [↓zm1, z0, z1, z2, z3, z4, z5, z8, z10, z12, z13, z24, z25, z31, z99, z100, z104, z115, z116, z1000, z8192, z10240, nI_leI, nI_ltI, nI_eq, nI_clamp, z_in, z_inl, nI_add, pk_mul, pk_sub, z_pred, z_predm, pk_div, z_em, z_me, z_mlt, z_nmlt, z_mle, z_nmle, z_shl, z_bit1, z_bit0, z_cap, Nat.not_lt_zero, Nat.zero_le, Nat.lt_irrefl, Nat.le_refl, true_implies, false_implies, implies_true, and_true, true_and, not_true_eq_false, not_false_eq_true, and_self, false_and, and_false, if_true, if_false, ite_true, ite_false, reduceCtorEq, Bool.false_eq_true, Bool.true_eq_false, eq_self_iff_true, forall_const, iff_self, q]
      refine r_isSymmetry hC hk hB hR hfu d ?_
      rw [zb_0]
      cases h : syR c n kd (fun x => tr x i)
      · simp only [h, Bool.false_eq_true, if_false, true_implies, false_implies, implies_true, and_true, true_and, not_true_eq_false, not_false_eq_true, and_self, false_and, and_false, if_true, if_false, ite_true, ite_false, reduceCtorEq, Bool.false_eq_true, Bool.true_eq_false, eq_self_iff_true, forall_const, iff_self] at ih ⊢; exact ih
      · simp only [h, if_true, true_implies, false_implies, implies_true, and_true, true_and, not_true_eq_false, not_false_eq_true, and_self, false_and, and_false, if_true, if_false, ite_true, ite_false, reduceCtorEq, Bool.false_eq_true, Bool.true_eq_false, eq_self_iff_true, forall_const, iff_self] at ih ⊢
        have hb := syR_bit h
        have ht := tp_lt (q := fun x => tr x i) hC hb (p := p) (Nat.le_refl n)
        refine key2 i d hb _ ?_
        rw [z_min (by omega) (by omega)]
        exact ih
    · subst d
      simp (disch := first | assumption | omega) only [↓zm1, z0, z1, z2, z3, z4, z5, z8, z10, z12, z13, z24, z25, z31, z99, z100, z104, z115, z116, z1000, z8192, z10240, nI_leI, nI_ltI, nI_eq, nI_clamp, z_in, z_inl, nI_add, pk_mul, pk_sub, z_pred, z_predm, pk_div, z_em, z_me, z_mlt, z_nmlt, z_mle, z_nmle, z_shl, z_bit1, z_bit0, z_cap, Nat.not_lt_zero, Nat.zero_le, Nat.lt_irrefl, Nat.le_refl, true_implies, false_implies, implies_true, and_true, true_and, not_true_eq_false, not_false_eq_true, and_self, false_and, and_false, if_true, if_false, ite_true, ite_false, reduceCtorEq, Bool.false_eq_true, Bool.true_eq_false, eq_self_iff_true, forall_const, iff_self]
      rw [lf8_R hC hk]
      exact hP) fu 0 (Nat.zero_le _) (by omega)
  exact key
/-! ===== the reference's jumps by holes, weights, colours ===== -/
theorem r_jumpOf {u : SX} {L : Ln} {n fu : Nat} (hR : Rin u L) (hL : Lok n L) (hfu : 20000 ≤ fu) {p a b : Nat} (hp : p < 2 ^ 31) (ha : a < 2 ^ 31) (hb : b < 2 ^ 31) {P : Int32 → Prop} (hP : P (if lnO L a b < L.length ∧ can L p (lnO L a b) = true then nI (lnO L a b) else mI)) : wp_X4_jumpOf fu u (nI p) (nI a) (nI b) P := by
  have hm := hL.2.1
  have hn := hL.1
  have key := lp (m := L.length) (Q := fun f i => (∀ j, j < i → ¬ (lF L j = a ∧ lT L j = b ∧ can L p j = true)) → wp_X4_jumpOf_L3 u (nI p) (nI a) (nI b) P (P (-1)) f (nI i)) (by
    intro f i hi ih hno
    rw [wp_X4_jumpOf_L3]
    unfold wp_X4_jumpOf_B3 wp_X4_jumpOf_J47
    rw [hR.1]
    rcases Nat.lt_or_eq_of_le hi with c | c
    · have ih := ih c
      have q : ¬ L.length ≤ i := by omega
      have q2 : i < 104 := by omega
      obtain ⟨r3, r4, r5⟩ := hR.2 i c
      obtain ⟨a1, a2, a3, -⟩ := hL.2.2.1 i c
      have skip : ¬ (lF L i = a ∧ lT L i = b ∧ can L p i = true) → wp_X4_jumpOf_L3 u (nI p) (nI a) (nI b) P (P mI) f (nI (i + 1)) := fun g => by
        refine ih fun j hj => ?_
        rcases Nat.lt_or_eq_of_le (Nat.lt_succ_iff.mp hj) with e | e
        · exact hno j e
        · rw [e]; exact g
      simp (disch := first | assumption | omega) only [↓zm1, z0, z1, z2, z3, z4, z5, z8, z10, z12, z13, z24, z25, z31, z99, z100, z104, z115, z116, z1000, z8192, z10240, nI_leI, nI_ltI, nI_eq, nI_clamp, z_in, z_inl, nI_add, pk_mul, pk_sub, z_pred, z_predm, pk_div, z_em, z_me, z_mlt, z_nmlt, z_mle, z_nmle, z_shl, z_bit1, z_bit0, z_cap, Nat.not_lt_zero, Nat.zero_le, Nat.lt_irrefl, Nat.le_refl, true_implies, false_implies, implies_true, and_true, true_and, not_true_eq_false, not_false_eq_true, and_self, false_and, and_false, if_true, if_false, ite_true, ite_false, reduceCtorEq, Bool.false_eq_true, Bool.true_eq_false, eq_self_iff_true, forall_const, iff_self, q, q2, r3, r5, r_can hR hL hp c, zb_0]
      refine ⟨fun g => skip fun h => g h.1, fun g => ⟨fun g2 => skip fun h => g2 h.2.1, fun g2 => ⟨fun g3 => skip fun h => by rw [g3] at h; exact absurd h.2.2 (by decide), fun g3 => ?_⟩⟩⟩
      have g3 : can L p i = true := by
        cases h : can L p i
        · exact absurd h g3
        · rfl
      have e : lnO L a b = i := by
        rw [← g, ← g2]; exact lnO_self hL c
      rw [e, if_pos ⟨c, g3⟩] at hP
      exact hP
    · subst c
      refine ⟨fun _ => ?_, fun g => absurd (Int32.le_refl _) g⟩
      have : ¬ (lnO L a b < L.length ∧ can L p (lnO L a b) = true) := fun h => by
        have e := lnO_is h.1
        exact hno _ h.1 ⟨e.1, e.2, h.2⟩
      rw [if_neg this] at hP
      exact hP) fu 0 (Nat.zero_le _) (by omega)
  exact key (fun j hj => by omega)
theorem r_colourOf {u : SX} {n kd : Nat} {c : Nat → Nat} {w : Nat → Int32} (hC : Cok n c) (hB : Rb u n c kd w) {h t : Nat} (hh : h < n) (ht : t < 2) {P : Int32 → Prop} : wp_X4_colourOf u (nI h) (nI t) P ↔ P (nI (col (c h) t)) := by
  have hn := hC.1
  have q2 : h < 13 := by omega
  unfold wp_X4_colourOf
  simp (disch := first | assumption | omega) only [z_in, nI_clamp, q2, true_and, hB.2.2.2.1]
  rw [← colI_col _ (hC.2.1 h hh) t ht]
  unfold colI
  by_cases e : nI t = 0
  · simp only [e, if_true, not_true_eq_false, false_implies, true_implies, true_and]
  · simp only [e, if_false, not_false_eq_true, false_implies, true_implies, and_true]
theorem r_fits {u : SX} {n kd fu : Nat} {c : Nat → Nat} {w : Nat → Int32} (hC : Cok n c) (hk : kd < 3) (hB : Rb u n c kd w) (hR : Rin u (lns c n kd)) (hfu : 20000 ≤ fu) {t : Nat} (ht : t < 2) {P : Int32 → Prop} (hP : P (zb (alB (fit1 (lns c n kd) c t) (lns c n kd).length))) : wp_X4_fits fu u (nI t) P := by
  have hn := hC.1
  have hL := lns_ok hC hk
  have hm := hL.2.1
  have key := fun (K : Int32 → Prop) (hK : K (zb (alB (fit1 (lns c n kd) c t) (lns c n kd).length))) => lp (m := (lns c n kd).length) (Q := fun f i => wp_X4_fits_L4 u (nI t) K f (nI i) (zb (alB (fit1 (lns c n kd) c t) i))) (by
    intro f i hi ih
    rw [wp_X4_fits_L4]
    unfold wp_X4_fits_B4 wp_X4_fits_J106 wp_X4_fits_J107
    rw [hR.1]
    rcases Nat.lt_or_eq_of_le hi with d | d
    · have ih := ih d
      have q : ¬ (lns c n kd).length ≤ i := by omega
      have q2 : i < 104 := by omega
      obtain ⟨r3, r4, r5⟩ := hR.2 i d
      obtain ⟨a1, a2, a3, -⟩ := hL.2.2.1 i d
      have k1 := col_lt (c (lF (lns c n kd) i)) t
      have k2 := col_lt (c (lO (lns c n kd) i)) t
      have k3 := col_lt (c (lT (lns c n kd) i)) t
      have g : ∀ b : Bool, b = fit1 (lns c n kd) c t i → wp_X4_fits_L4 u (nI t) K f (nI (i + 1)) (zb (alB (fit1 (lns c n kd) c t) i) &&& zb b) := fun b hb => by
        rw [zb_and, hb]; exact ih
      have gf := g false
      have gt := g true
      rw [zb_f] at gf
      rw [zb_t] at gt
      unfold fit1 at gf gt
      simp (disch := first | assumption | omega) only [nI_leI, z_in, nI_clamp, nI_eq, z0, z1, z3, nI_add, true_implies, false_implies, implies_true, and_true, true_and, not_true_eq_false, not_false_eq_true, and_self, false_and, and_false, if_true, if_false, ite_true, ite_false, reduceCtorEq, Bool.false_eq_true, Bool.true_eq_false, eq_self_iff_true, forall_const, iff_self, q, q2, r3, r4, r5, r_colourOf hC hB]
      refine ⟨fun h => gf (decide_eq_false fun e => ?_).symm, fun h => ⟨fun h2 => gf (decide_eq_false fun e => e.2.2 h2).symm, fun h2 => ⟨fun h3 => gf (decide_eq_false fun e => e.2.1 h3).symm, fun h3 => gt (decide_eq_true ⟨?_, h3, h2⟩).symm⟩⟩⟩
      · omega
      · omega
    · subst d
      simp (disch := first | assumption | omega) only [↓zm1, z0, z1, z2, z3, z4, z5, z8, z10, z12, z13, z24, z25, z31, z99, z100, z104, z115, z116, z1000, z8192, z10240, nI_leI, nI_ltI, nI_eq, nI_clamp, z_in, z_inl, nI_add, pk_mul, pk_sub, z_pred, z_predm, pk_div, z_em, z_me, z_mlt, z_nmlt, z_mle, z_nmle, z_shl, z_bit1, z_bit0, z_cap, Nat.not_lt_zero, Nat.zero_le, Nat.lt_irrefl, Nat.le_refl, true_implies, false_implies, implies_true, and_true, true_and, not_true_eq_false, not_false_eq_true, and_self, false_and, and_false, if_true, if_false, ite_true, ite_false, reduceCtorEq, Bool.false_eq_true, Bool.true_eq_false, eq_self_iff_true, forall_const, iff_self]
      exact hK) fu 0 (Nat.zero_le _) (by omega)
  exact key _ ⟨zb_nar _, hP⟩
def ctO (c : Nat → Nat) (n p x t : Nat) : Nat := fb_ct (fun h => p.testBit h && !decide (col (c h) t = x)) n
theorem r_others {u : SX} {n kd fu : Nat} {c : Nat → Nat} {w : Nat → Int32} (hC : Cok n c) (hB : Rb u n c kd w) (hfu : 20000 ≤ fu) {p x t : Nat} (hp : p < 2 ^ 31) (hx : x < 3) (ht : t < 2) {P : Int32 → Prop} (hP : P (nI (ctO c n p x t))) : wp_X4_others fu u (nI p) (nI t) (nI x) P := by
  have hn := hC.1
  have key := lp (m := n) (Q := fun f i => wp_X4_others_L6 u (nI p) (nI t) (nI x) P f (nI i) (nI (fb_ct (fun h => p.testBit h && !decide (col (c h) t = x)) i))) (by
    intro f i hi ih
    rw [wp_X4_others_L6]
    unfold wp_X4_others_B6 wp_X4_others_J41 wp_X4_others_J42
    rw [hB.1]
    rcases Nat.lt_or_eq_of_le hi with d | d
    · have ih := ih d
      have q : ¬ n ≤ i := by omega
      have hcl := col_lt (c i) t
      rw [fb_ct_succ] at ih
      simp (disch := first | assumption | omega) only [↓zm1, z0, z1, z2, z3, z4, z5, z8, z10, z12, z13, z24, z25, z31, z99, z100, z104, z115, z116, z1000, z8192, z10240, nI_leI, nI_ltI, nI_eq, nI_clamp, z_in, z_inl, nI_add, pk_mul, pk_sub, z_pred, z_predm, pk_div, z_em, z_me, z_mlt, z_nmlt, z_mle, z_nmle, z_shl, z_bit1, z_bit0, z_cap, Nat.not_lt_zero, Nat.zero_le, Nat.lt_irrefl, Nat.le_refl, true_implies, false_implies, implies_true, and_true, true_and, not_true_eq_false, not_false_eq_true, and_self, false_and, and_false, if_true, if_false, ite_true, ite_false, reduceCtorEq, Bool.false_eq_true, Bool.true_eq_false, eq_self_iff_true, forall_const, iff_self, q, r_has, zb_0, r_colourOf hC hB d ht]
      cases hb : p.testBit i
      · simp only [hb, Bool.false_and, Bool.false_eq_true, if_false, true_implies, false_implies, implies_true, and_true, true_and, not_true_eq_false, not_false_eq_true, and_self, false_and, and_false, if_true, if_false, ite_true, ite_false, reduceCtorEq, Bool.false_eq_true, Bool.true_eq_false, eq_self_iff_true, forall_const, iff_self] at ih ⊢; exact ih
      · by_cases g : col (c i) t = x
        · simp only [hb, g, decide_true, Bool.not_true, Bool.and_false, Bool.false_eq_true, if_false, true_implies, false_implies, implies_true, and_true, true_and, not_true_eq_false, not_false_eq_true, and_self, false_and, and_false, if_true, if_false, ite_true, ite_false, reduceCtorEq, Bool.false_eq_true, Bool.true_eq_false, eq_self_iff_true, forall_const, iff_self] at ih ⊢; exact ih
        · simp only [hb, g, decide_false, Bool.not_false, Bool.and_self, if_true, true_implies, false_implies, implies_true, and_true, true_and, not_true_eq_false, not_false_eq_true, and_self, false_and, and_false, if_true, if_false, ite_true, ite_false, reduceCtorEq, Bool.false_eq_true, Bool.true_eq_false, eq_self_iff_true, forall_const, iff_self] at ih ⊢; exact ih
    · subst d
      simp (disch := first | assumption | omega) only [↓zm1, z0, z1, z2, z3, z4, z5, z8, z10, z12, z13, z24, z25, z31, z99, z100, z104, z115, z116, z1000, z8192, z10240, nI_leI, nI_ltI, nI_eq, nI_clamp, z_in, z_inl, nI_add, pk_mul, pk_sub, z_pred, z_predm, pk_div, z_em, z_me, z_mlt, z_nmlt, z_mle, z_nmle, z_shl, z_bit1, z_bit0, z_cap, Nat.not_lt_zero, Nat.zero_le, Nat.lt_irrefl, Nat.le_refl, true_implies, false_implies, implies_true, and_true, true_and, not_true_eq_false, not_false_eq_true, and_self, false_and, and_false, if_true, if_false, ite_true, ite_false, reduceCtorEq, Bool.false_eq_true, Bool.true_eq_false, eq_self_iff_true, forall_const, iff_self]
      exact hP) fu 0 (Nat.zero_le _) (by omega)
  exact key
theorem r_weightOf {u : SX} {n kd fu : Nat} {c : Nat → Nat} {w : Nat → Int32} (hC : Cok n c) (hB : Rb u n c kd w) (hfu : 20000 ≤ fu) {p : Nat} (hp : p < 2 ^ 31) {P : Int32 → Prop} (hP : P (wsum w p n)) : wp_X4_weightOf fu u (nI p) P := by
  have hn := hC.1
  have key := lp (m := n) (Q := fun f i => wp_X4_weightOf_L4 u (nI p) P f (nI i) (wsum w p i)) (by
    intro f i hi ih
    rw [wp_X4_weightOf_L4]
    unfold wp_X4_weightOf_B4 wp_X4_weightOf_J31
    rw [hB.1]
    rcases Nat.lt_or_eq_of_le hi with d | d
    · have ih := ih d
      have q : ¬ n ≤ i := by omega
      have q2 : i < 13 := by omega
      have z : wsum w p i + nI 0 = wsum w p i := Int32.add_zero _
      unfold wsum at ih
      simp (disch := first | assumption | omega) only [↓zm1, z0, z1, z2, z3, z4, z5, z8, z10, z12, z13, z24, z25, z31, z99, z100, z104, z115, z116, z1000, z8192, z10240, nI_leI, nI_ltI, nI_eq, nI_clamp, z_in, z_inl, nI_add, pk_mul, pk_sub, z_pred, z_predm, pk_div, z_em, z_me, z_mlt, z_nmlt, z_mle, z_nmle, z_shl, z_bit1, z_bit0, z_cap, Nat.not_lt_zero, Nat.zero_le, Nat.lt_irrefl, Nat.le_refl, true_implies, false_implies, implies_true, and_true, true_and, not_true_eq_false, not_false_eq_true, and_self, false_and, and_false, if_true, if_false, ite_true, ite_false, reduceCtorEq, Bool.false_eq_true, Bool.true_eq_false, eq_self_iff_true, forall_const, iff_self, q, q2, r_has, zb_0, hB.2.2.2.2, z]
      cases hb : p.testBit i
      · simp only [hb, Bool.false_eq_true, if_false, true_implies, false_implies, implies_true, and_true, true_and, not_true_eq_false, not_false_eq_true, and_self, false_and, and_false, if_true, if_false, ite_true, ite_false, reduceCtorEq, Bool.false_eq_true, Bool.true_eq_false, eq_self_iff_true, forall_const, iff_self] at ih ⊢; exact ih
      · simp only [hb, if_true, true_implies, false_implies, implies_true, and_true, true_and, not_true_eq_false, not_false_eq_true, and_self, false_and, and_false, if_true, if_false, ite_true, ite_false, reduceCtorEq, Bool.false_eq_true, Bool.true_eq_false, eq_self_iff_true, forall_const, iff_self] at ih ⊢; exact ih
    · subst d
      simp (disch := first | assumption | omega) only [↓zm1, z0, z1, z2, z3, z4, z5, z8, z10, z12, z13, z24, z25, z31, z99, z100, z104, z115, z116, z1000, z8192, z10240, nI_leI, nI_ltI, nI_eq, nI_clamp, z_in, z_inl, nI_add, pk_mul, pk_sub, z_pred, z_predm, pk_div, z_em, z_me, z_mlt, z_nmlt, z_mle, z_nmle, z_shl, z_bit1, z_bit0, z_cap, Nat.not_lt_zero, Nat.zero_le, Nat.lt_irrefl, Nat.le_refl, true_implies, false_implies, implies_true, and_true, true_and, not_true_eq_false, not_false_eq_true, and_self, false_and, and_false, if_true, if_false, ite_true, ite_false, reduceCtorEq, Bool.false_eq_true, Bool.true_eq_false, eq_self_iff_true, forall_const, iff_self]
      exact hP) fu 0 (Nat.zero_le _) (by omega)
  exact key
theorem r_gains {u : SX} {L : Ln} {n kd : Nat} {c : Nat → Nat} {w : Nat → Int32} (hL : Lok n L) (hB : Rb u n c kd w) (hR : Rin u L) {k : Nat} (hk : k < L.length) {P : Int32 → Prop} : wp_X4_gains u (nI k) P ↔ P (gn L w k) := by
  have hn := hL.1
  have hm := hL.2.1
  have q2 : k < 104 := by omega
  obtain ⟨r3, r4, r5⟩ := hR.2 k hk
  obtain ⟨a1, a2, a3, -⟩ := hL.2.2.1 k hk
  have b1 : lF L k < 13 := by omega
  have b2 : lO L k < 13 := by omega
  have b3 : lT L k < 13 := by omega
  unfold wp_X4_gains gn
  simp (disch := first | assumption | omega) only [z_in, nI_clamp, q2, r3, r4, r5, b1, b2, b3, true_and, hB.2.2.2.2]
theorem r_worst {u : SX} {L : Ln} {n kd fu : Nat} {c : Nat → Nat} {w : Nat → Int32} (hL : Lok n L) (hB : Rb u n c kd w) (hR : Rin u L) (hfu : 20000 ≤ fu) {P : Int32 → Prop} (hP : P (enc (wst (gn L w) L.length))) : wp_X4_worst fu u P := by
  have hn := hL.1
  have hm := hL.2.1
  have key := lp (m := L.length) (Q := fun f i => wp_X4_worst_L4 u P f (nI i) (enc (wst (gn L w) i))) (by
    intro f i hi ih
    rw [wp_X4_worst_L4]
    unfold wp_X4_worst_B4 wp_X4_worst_J31 wp_X4_worst_J36
    rw [hR.1]
    rcases Nat.lt_or_eq_of_le hi with d | d
    · have ih := ih d
      have q : ¬ L.length ≤ i := by omega
      rw [nI_succ] at ih
      refine ⟨fun g => absurd ((nI_leI (by omega) (by omega)).mp g) q, fun _ => ?_⟩
      rw [r_gains hL hB hR d]
      unfold wst at ih
      cases h : wst (gn L w) i with
      | none =>
        rw [h] at ih
        refine ⟨fun g => absurd rfl g, fun _ => ⟨fun g => ?_, fun g => ?_⟩⟩
        · have g : gn L w i ≤ gv0 (gn L w) none := g
          rw [if_pos g] at ih; exact ih
        · have g : ¬ gn L w i ≤ gv0 (gn L w) none := g
          rw [if_neg g] at ih; exact ih
      | some k =>
        rw [h] at ih
        have hk := wst_lt _ _ _ h
        refine ⟨fun _ => ?_, fun g => absurd g (fun e => (z_em (a := k) (by omega)).mp e)⟩
        show wp_X4_gains u (nI k) _
        rw [r_gains hL hB hR (by omega)]
        refine ⟨fun g => ?_, fun g => ?_⟩
        · have g : gn L w i ≤ gv0 (gn L w) (some k) := g
          rw [if_pos g] at ih; exact ih
        · have g : ¬ gn L w i ≤ gv0 (gn L w) (some k) := g
          rw [if_neg g] at ih; exact ih
    · subst d
      exact ⟨fun _ => hP, fun g => absurd (Int32.le_refl _) g⟩) fu 0 (Nat.zero_le _) (by omega)
  exact key
