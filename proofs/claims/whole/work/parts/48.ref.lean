/-! ===== the reference's jumps, ways, reached, values ===== -/
def Rin (u : SX) (L : Ln) : Prop := u.1 1 = nI L.length ∧ ∀ k, k < L.length → u.2.1 3 k = nI (lF L k) ∧ u.2.1 4 k = nI (lO L k) ∧ u.2.1 5 k = nI (lT L k)
theorem sA_sA (u : SX) (k : Nat) (f g : Nat → Int32) : sA (sA u k f) k g = sA u k g := by
  refine Prod.ext rfl (Prod.ext ?_ rfl)
  funext j
  show (bif Nat.beq j k then g else (bif Nat.beq j k then f else u.2.1 j)) = (bif Nat.beq j k then g else u.2.1 j)
  cases Nat.beq j k <;> rfl
theorem r_has {p h : Nat} (hp : p < 2 ^ 31) (hh : h < 31) {P : Int32 → Prop} : wp_X4_has (nI p) (nI h) P ↔ P (zb (p.testBit h)) := by
  unfold wp_X4_has
  simp (disch := first | assumption | omega) only [↓zm1, z0, z1, z2, z3, z4, z5, z8, z10, z12, z13, z24, z25, z31, z99, z100, z104, z115, z116, z1000, z8192, z10240, nI_leI, nI_ltI, nI_eq, nI_clamp, z_in, z_inl, nI_add, pk_mul, pk_sub, z_pred, z_predm, pk_div, z_em, z_me, z_mlt, z_nmlt, z_mle, z_nmle, z_shl, z_bit1, z_bit0, z_cap, Nat.not_lt_zero, Nat.zero_le, Nat.lt_irrefl, Nat.le_refl, true_implies, false_implies, implies_true, and_true, true_and, not_true_eq_false, not_false_eq_true, and_self, false_and, and_false, if_true, if_false, ite_true, ite_false, reduceCtorEq, Bool.false_eq_true, Bool.true_eq_false, eq_self_iff_true, forall_const, iff_self]
  cases p.testBit h
  · simp only [true_implies, false_implies, implies_true, and_true, true_and, not_true_eq_false, not_false_eq_true, and_self, false_and, and_false, if_true, if_false, ite_true, ite_false, reduceCtorEq, Bool.false_eq_true, Bool.true_eq_false, eq_self_iff_true, forall_const, iff_self]; rfl
  · simp only [true_implies, false_implies, implies_true, and_true, true_and, not_true_eq_false, not_false_eq_true, and_self, false_and, and_false, if_true, if_false, ite_true, ite_false, reduceCtorEq, Bool.false_eq_true, Bool.true_eq_false, eq_self_iff_true, forall_const, iff_self]; rfl
theorem r_can {u : SX} {L : Ln} {n : Nat} (hR : Rin u L) (hL : Lok n L) {p k : Nat} (hp : p < 2 ^ 31) (hk : k < L.length) {P : Int32 → Prop} : wp_X4_can u (nI p) (nI k) P ↔ P (zb (can L p k)) := by
  obtain ⟨r1, hr⟩ := hR
  obtain ⟨r3, r4, r5⟩ := hr k hk
  obtain ⟨a1, a2, a3, -⟩ := hL.2.2.1 k hk
  have hn := hL.1
  have hm := hL.2.1
  have hkk : k < 104 := by omega
  unfold wp_X4_can
  simp (disch := first | assumption | omega) only [↓zm1, z0, z1, z2, z3, z4, z5, z8, z10, z12, z13, z24, z25, z31, z99, z100, z104, z115, z116, z1000, z8192, z10240, nI_leI, nI_ltI, nI_eq, nI_clamp, z_in, z_inl, nI_add, pk_mul, pk_sub, z_pred, z_predm, pk_div, z_em, z_me, z_mlt, z_nmlt, z_mle, z_nmle, z_shl, z_bit1, z_bit0, z_cap, Nat.not_lt_zero, Nat.zero_le, Nat.lt_irrefl, Nat.le_refl, true_implies, false_implies, implies_true, and_true, true_and, not_true_eq_false, not_false_eq_true, and_self, false_and, and_false, if_true, if_false, ite_true, ite_false, reduceCtorEq, Bool.false_eq_true, Bool.true_eq_false, eq_self_iff_true, forall_const, iff_self, r3, r4, r5, hkk, r_has, zb_0]
  unfold can
  cases p.testBit (lF L k)
  · simp only [true_implies, false_implies, implies_true, and_true, true_and, not_true_eq_false, not_false_eq_true, and_self, false_and, and_false, if_true, if_false, ite_true, ite_false, reduceCtorEq, Bool.false_eq_true, Bool.true_eq_false, eq_self_iff_true, forall_const, iff_self, Bool.false_and]; rfl
  · cases p.testBit (lO L k)
    · simp only [true_implies, false_implies, implies_true, and_true, true_and, not_true_eq_false, not_false_eq_true, and_self, false_and, and_false, if_true, if_false, ite_true, ite_false, reduceCtorEq, Bool.false_eq_true, Bool.true_eq_false, eq_self_iff_true, forall_const, iff_self, Bool.false_and, Bool.and_false]; rfl
    · cases p.testBit (lT L k)
      · simp only [true_implies, false_implies, implies_true, and_true, true_and, not_true_eq_false, not_false_eq_true, and_self, false_and, and_false, if_true, if_false, ite_true, ite_false, reduceCtorEq, Bool.false_eq_true, Bool.true_eq_false, eq_self_iff_true, forall_const, iff_self, Bool.not_false, Bool.and_self]; rfl
      · simp only [true_implies, false_implies, implies_true, and_true, true_and, not_true_eq_false, not_false_eq_true, and_self, false_and, and_false, if_true, if_false, ite_true, ite_false, reduceCtorEq, Bool.false_eq_true, Bool.true_eq_false, eq_self_iff_true, forall_const, iff_self, Bool.not_true, Bool.and_false]; rfl
theorem xor3 {n : Nat} {L : Ln} (hL : Lok n L) {p k : Nat} (hk : k < L.length) : ((p ^^^ 2 ^ lF L k) ^^^ 2 ^ lO L k) ^^^ 2 ^ lT L k = nx L p k := by
  obtain ⟨-, -, h, -⟩ := hL
  obtain ⟨-, -, -, d1, d2, d3⟩ := h k hk
  apply Nat.eq_of_testBit_eq
  intro i
  unfold nx
  rw [Nat.testBit_xor, Nat.testBit_xor, Nat.testBit_xor, Nat.testBit_xor, sp_bit, Nat.testBit_two_pow, Nat.testBit_two_pow, Nat.testBit_two_pow]
  by_cases h1 : lF L k = i
  · subst h1
    simp only [Ne.symm d1, Ne.symm d2, decide_true, decide_false, Bool.true_or, Bool.xor_false]
  · by_cases h2 : lO L k = i
    · subst h2
      simp only [d1, Ne.symm d3, decide_true, decide_false, Bool.true_or, Bool.or_true, Bool.xor_false]
    · simp only [h1, h2, decide_false, Bool.false_or, Bool.xor_false]
theorem r_behind {u : SX} {L : Ln} {n : Nat} (hR : Rin u L) (hL : Lok n L) {p k : Nat} (hk : k < L.length) {P : Int32 → Prop} : wp_X4_behind u (nI p) (nI k) P ↔ P (nI (nx L p k)) := by
  obtain ⟨r1, hr⟩ := hR
  obtain ⟨r3, r4, r5⟩ := hr k hk
  obtain ⟨a1, a2, a3, -⟩ := hL.2.2.1 k hk
  have hn := hL.1
  have hm := hL.2.1
  have hkk : k < 104 := by omega
  unfold wp_X4_behind
  simp (disch := first | assumption | omega) only [↓zm1, z0, z1, z2, z3, z4, z5, z8, z10, z12, z13, z24, z25, z31, z99, z100, z104, z115, z116, z1000, z8192, z10240, nI_leI, nI_ltI, nI_eq, nI_clamp, z_in, z_inl, nI_add, pk_mul, pk_sub, z_pred, z_predm, pk_div, z_em, z_me, z_mlt, z_nmlt, z_mle, z_nmle, z_shl, z_bit1, z_bit0, z_cap, Nat.not_lt_zero, Nat.zero_le, Nat.lt_irrefl, Nat.le_refl, true_implies, false_implies, implies_true, and_true, true_and, not_true_eq_false, not_false_eq_true, and_self, false_and, and_false, if_true, if_false, ite_true, ite_false, reduceCtorEq, Bool.false_eq_true, Bool.true_eq_false, eq_self_iff_true, forall_const, iff_self, r3, r4, r5, hkk, fb_xorI, xor3 hL hk]
theorem r_codeOf {u : SX} {L : Ln} {n : Nat} (hR : Rin u L) (hL : Lok n L) {k : Nat} (hk : k < L.length) {P : Int32 → Prop} : wp_X4_codeOf u (nI k) P ↔ P (nI (100 * lF L k + lT L k)) := by
  obtain ⟨r1, hr⟩ := hR
  obtain ⟨r3, r4, r5⟩ := hr k hk
  have hm := hL.2.1
  have hkk : k < 104 := by omega
  unfold wp_X4_codeOf
  simp (disch := first | assumption | omega) only [↓zm1, z0, z1, z2, z3, z4, z5, z8, z10, z12, z13, z24, z25, z31, z99, z100, z104, z115, z116, z1000, z8192, z10240, nI_leI, nI_ltI, nI_eq, nI_clamp, z_in, z_inl, nI_add, pk_mul, pk_sub, z_pred, z_predm, pk_div, z_em, z_me, z_mlt, z_nmlt, z_mle, z_nmle, z_shl, z_bit1, z_bit0, z_cap, Nat.not_lt_zero, Nat.zero_le, Nat.lt_irrefl, Nat.le_refl, true_implies, false_implies, implies_true, and_true, true_and, not_true_eq_false, not_false_eq_true, and_self, false_and, and_false, if_true, if_false, ite_true, ite_false, reduceCtorEq, Bool.false_eq_true, Bool.true_eq_false, eq_self_iff_true, forall_const, iff_self, r3, r4, r5, hkk]
theorem r_jumpsOf {u : SX} {L : Ln} {n fu : Nat} (hR : Rin u L) (hL : Lok n L) (hfu : 20000 ≤ fu) {p : Nat} (hp : p < 2 ^ 31) {P : Int32 → Prop} : wp_X4_jumpsOf fu u (nI p) P ↔ P (nI (J L p)) := by
  have hm := hL.2.1
  have key := lp (m := L.length) (Q := fun f i => (wp_X4_jumpsOf_L4 u (nI p) (fun v => P v) f (nI i) (nI (fb_ct (can L p) i)) ↔ P (nI (fb_ct (can L p) L.length)))) (by
    intro f i hi ih
    have hc := fb_ct_le (can L p) i
    rw [wp_X4_jumpsOf_L4]
    unfold wp_X4_jumpsOf_B4 wp_X4_jumpsOf_J27
    rw [hR.1]
    rcases Nat.lt_or_eq_of_le hi with h | h
    · have ih := ih h
      have q : ¬ L.length ≤ i := by omega
      rw [fb_ct_succ] at ih
      simp (disch := first | assumption | omega) only [↓zm1, z0, z1, z2, z3, z4, z5, z8, z10, z12, z13, z24, z25, z31, z99, z100, z104, z115, z116, z1000, z8192, z10240, nI_leI, nI_ltI, nI_eq, nI_clamp, z_in, z_inl, nI_add, pk_mul, pk_sub, z_pred, z_predm, pk_div, z_em, z_me, z_mlt, z_nmlt, z_mle, z_nmle, z_shl, z_bit1, z_bit0, z_cap, Nat.not_lt_zero, Nat.zero_le, Nat.lt_irrefl, Nat.le_refl, true_implies, false_implies, implies_true, and_true, true_and, not_true_eq_false, not_false_eq_true, and_self, false_and, and_false, if_true, if_false, ite_true, ite_false, reduceCtorEq, Bool.false_eq_true, Bool.true_eq_false, eq_self_iff_true, forall_const, iff_self, q, r_can hR hL hp h, zb_0]
      cases hq : can L p i
      · simp (disch := first | assumption | omega) only [hq, ↓zm1, z0, z1, z2, z3, z4, z5, z8, z10, z12, z13, z24, z25, z31, z99, z100, z104, z115, z116, z1000, z8192, z10240, nI_leI, nI_ltI, nI_eq, nI_clamp, z_in, z_inl, nI_add, pk_mul, pk_sub, z_pred, z_predm, pk_div, z_em, z_me, z_mlt, z_nmlt, z_mle, z_nmle, z_shl, z_bit1, z_bit0, z_cap, Nat.not_lt_zero, Nat.zero_le, Nat.lt_irrefl, Nat.le_refl, true_implies, false_implies, implies_true, and_true, true_and, not_true_eq_false, not_false_eq_true, and_self, false_and, and_false, if_true, if_false, ite_true, ite_false, reduceCtorEq, Bool.false_eq_true, Bool.true_eq_false, eq_self_iff_true, forall_const, iff_self] at ih ⊢
        exact ih
      · simp (disch := first | assumption | omega) only [hq, ↓zm1, z0, z1, z2, z3, z4, z5, z8, z10, z12, z13, z24, z25, z31, z99, z100, z104, z115, z116, z1000, z8192, z10240, nI_leI, nI_ltI, nI_eq, nI_clamp, z_in, z_inl, nI_add, pk_mul, pk_sub, z_pred, z_predm, pk_div, z_em, z_me, z_mlt, z_nmlt, z_mle, z_nmle, z_shl, z_bit1, z_bit0, z_cap, Nat.not_lt_zero, Nat.zero_le, Nat.lt_irrefl, Nat.le_refl, true_implies, false_implies, implies_true, and_true, true_and, not_true_eq_false, not_false_eq_true, and_self, false_and, and_false, if_true, if_false, ite_true, ite_false, reduceCtorEq, Bool.false_eq_true, Bool.true_eq_false, eq_self_iff_true, forall_const, iff_self] at ih ⊢
        exact ih
    · subst h
      simp (disch := first | assumption | omega) only [↓zm1, z0, z1, z2, z3, z4, z5, z8, z10, z12, z13, z24, z25, z31, z99, z100, z104, z115, z116, z1000, z8192, z10240, nI_leI, nI_ltI, nI_eq, nI_clamp, z_in, z_inl, nI_add, pk_mul, pk_sub, z_pred, z_predm, pk_div, z_em, z_me, z_mlt, z_nmlt, z_mle, z_nmle, z_shl, z_bit1, z_bit0, z_cap, Nat.not_lt_zero, Nat.zero_le, Nat.lt_irrefl, Nat.le_refl, true_implies, false_implies, implies_true, and_true, true_and, not_true_eq_false, not_false_eq_true, and_self, false_and, and_false, if_true, if_false, ite_true, ite_false, reduceCtorEq, Bool.false_eq_true, Bool.true_eq_false, eq_self_iff_true, forall_const, iff_self]) fu 0 (by omega) (by omega)
  exact key
/-! ways -/
theorem r_counts {u : SX} {L : Ln} {n e fu : Nat} (hR : Rin u L) (hL : Lok n L) (hfu : 20000 ≤ fu) (he : e < 2 ^ n) (h0 : u.1 0 = nI n) (h3 : u.1 3 = nI e) {P : SX → Prop} (hP : ∀ w : Nat → Int64, (∀ p, p < 2 ^ n → w p = lN (Wy L e p)) → P (sJ u w)) : wp_X4_counts fu u P := by
  have hn := hL.1
  have h8 := pow_13 hn
  have hm := hL.2.1
  have line := fun (v i : Nat) (hi : i < 2 ^ n) (hv : pc i = v) (K : SX → Prop) => lp (m := L.length) (Q := fun g k => ∀ w : Nat → Int64, (∀ p, p < 2 ^ n → (pc p < v ∨ (pc p = v ∧ p < i)) → w p = lN (Wy L e p)) → w i = lN ((if i = e then 1 else 0) + pfx L e i k) →
      (∀ w : Nat → Int64, (∀ p, p < 2 ^ n → (pc p < v ∨ (pc p = v ∧ p < i + 1)) → w p = lN (Wy L e p)) → K (sJ u w)) → wp_X4_counts_L54 (nI i) K g (nI k) (sJ u w)) (by
    intro g k hk ih w hw hwi hK
    rw [wp_X4_counts_L54]
    unfold wp_X4_counts_B54 wp_X4_counts_J91
    rw [sJ_sc, hR.1]
    have hRw : Rin (sJ u w) L := hR
    rcases Nat.lt_or_eq_of_le hk with c | c
    · have ih := ih c
      have q : ¬ L.length ≤ k := by omega
      have hx := nx_lt hL c hi
      have q2 : i < 8192 := by omega
      have q3 : nx L i k < 8192 := by omega
      simp (disch := first | assumption | omega) only [↓zm1, z0, z1, z2, z3, z4, z5, z8, z10, z12, z13, z24, z25, z31, z99, z100, z104, z115, z116, z1000, z8192, z10240, nI_leI, nI_ltI, nI_eq, nI_clamp, z_in, z_inl, nI_add, pk_mul, pk_sub, z_pred, z_predm, pk_div, z_em, z_me, z_mlt, z_nmlt, z_mle, z_nmle, z_shl, z_bit1, z_bit0, z_cap, Nat.not_lt_zero, Nat.zero_le, Nat.lt_irrefl, Nat.le_refl, true_implies, false_implies, implies_true, and_true, true_and, not_true_eq_false, not_false_eq_true, and_self, false_and, and_false, if_true, if_false, ite_true, ite_false, reduceCtorEq, Bool.false_eq_true, Bool.true_eq_false, eq_self_iff_true, forall_const, iff_self, q, r_can hRw hL, c, zb_0]
      refine ⟨fun hc => ?_, fun hc => ?_⟩
      · refine ih w hw ?_ hK
        unfold pfx at hwi ⊢
        rw [fb_sm_succ, if_neg (show ¬ can L i k = true by rw [hc]; decide), Nat.add_zero]
        exact hwi
      · have hc : can L i k = true := by
          cases h : can L i k
          · exact absurd h hc
          · rfl
        have hp := can_pc hL c hc
        have hwx := hw _ hx (Or.inl (by omega))
        have hne : ¬ nx L i k = i := fun e => by rw [e] at hp; omega
        simp (disch := first | assumption | omega) only [↓zm1, z0, z1, z2, z3, z4, z5, z8, z10, z12, z13, z24, z25, z31, z99, z100, z104, z115, z116, z1000, z8192, z10240, nI_leI, nI_ltI, nI_eq, nI_clamp, z_in, z_inl, nI_add, pk_mul, pk_sub, z_pred, z_predm, pk_div, z_em, z_me, z_mlt, z_nmlt, z_mle, z_nmle, z_shl, z_bit1, z_bit0, z_cap, Nat.not_lt_zero, Nat.zero_le, Nat.lt_irrefl, Nat.le_refl, true_implies, false_implies, implies_true, and_true, true_and, not_true_eq_false, not_false_eq_true, and_self, false_and, and_false, if_true, if_false, ite_true, ite_false, reduceCtorEq, Bool.false_eq_true, Bool.true_eq_false, eq_self_iff_true, forall_const, iff_self, r_behind hRw hL c, q2, q3, sJ_way, hwi, hwx, l_add]
        refine ih _ (fun p hp hpp => ?_) ?_ hK
        · have hne2 : ¬ p = i := fun e => by subst e; omega
          rw [updL_ne hne2]
          exact hw p hp hpp
        · rw [updL_eq]
          unfold pfx
          rw [fb_sm_succ, if_pos hc, Nat.add_assoc]
    · subst c
      simp (disch := first | assumption | omega) only [↓zm1, z0, z1, z2, z3, z4, z5, z8, z10, z12, z13, z24, z25, z31, z99, z100, z104, z115, z116, z1000, z8192, z10240, nI_leI, nI_ltI, nI_eq, nI_clamp, z_in, z_inl, nI_add, pk_mul, pk_sub, z_pred, z_predm, pk_div, z_em, z_me, z_mlt, z_nmlt, z_mle, z_nmle, z_shl, z_bit1, z_bit0, z_cap, Nat.not_lt_zero, Nat.zero_le, Nat.lt_irrefl, Nat.le_refl, true_implies, false_implies, implies_true, and_true, true_and, not_true_eq_false, not_false_eq_true, and_self, false_and, and_false, if_true, if_false, ite_true, ite_false, reduceCtorEq, Bool.false_eq_true, Bool.true_eq_false, eq_self_iff_true, forall_const, iff_self]
      refine hK w fun p hp hpp => ?_
      by_cases e2 : p = i
      · subst e2
        rw [hwi, Wy_eq hL e hi]
        rfl
      · exact hw p hp (by omega))
  have pegs := fun (v : Nat) (K : SX → Prop) => lp (m := 2 ^ n) (Q := fun g i => ∀ w : Nat → Int64, (∀ p, p < 2 ^ n → (pc p < v ∨ (pc p = v ∧ p < i)) → w p = lN (Wy L e p)) →
      (∀ w : Nat → Int64, (∀ p, p < 2 ^ n → pc p < v + 1 → w p = lN (Wy L e p)) → K (sJ u w)) → v ≤ n → wp_X4_counts_L12 fu (nI v) K g (nI i) (sJ u w)) (by
    intro g i hi ih w hw hK hv
    rw [wp_X4_counts_L12]
    unfold wp_X4_counts_B12 wp_X4_counts_J51 wp_X4_counts_J97
    rw [sJ_sc, h0, h3]
    rcases Nat.lt_or_eq_of_le hi with c | c
    · have ih := ih c
      have q : ¬ 2 ^ n ≤ i := by omega
      have q2 : i < 8192 := by omega
      have hpi := pc_le c (by omega)
      simp (disch := first | assumption | omega) only [↓zm1, z0, z1, z2, z3, z4, z5, z8, z10, z12, z13, z24, z25, z31, z99, z100, z104, z115, z116, z1000, z8192, z10240, nI_leI, nI_ltI, nI_eq, nI_clamp, z_in, z_inl, nI_add, pk_mul, pk_sub, z_pred, z_predm, pk_div, z_em, z_me, z_mlt, z_nmlt, z_mle, z_nmle, z_shl, z_bit1, z_bit0, z_cap, Nat.not_lt_zero, Nat.zero_le, Nat.lt_irrefl, Nat.le_refl, true_implies, false_implies, implies_true, and_true, true_and, not_true_eq_false, not_false_eq_true, and_self, false_and, and_false, if_true, if_false, ite_true, ite_false, reduceCtorEq, Bool.false_eq_true, Bool.true_eq_false, eq_self_iff_true, forall_const, iff_self, q, bc_pc, q2]
      refine ⟨fun hv2 => ?_, fun hv2 => ?_⟩
      · have fin : ∀ x : Nat, x = (if i = e then 1 else 0) → wp_X4_counts_L54 (nI i) (fun s_97 => wp_X4_counts_L12 fu (nI v) K g (nI (i + 1)) s_97) fu (nI 0) (sJ u (vp_updL w i (lN x))) := by
          intro x hx
          refine line v i c hv2 _ fu 0 (by omega) (by omega) _ (fun p hp hpp => ?_) ?_ (fun w' hw' => ih w' hw' hK hv)
          · have hne2 : ¬ p = i := fun e => by subst e; omega
            rw [updL_ne hne2]
            exact hw p hp hpp
          · rw [updL_eq, hx]; rfl
        refine ⟨fun d => ?_, fun d => ?_⟩
        · exact fin 0 (by rw [if_neg d])
        · exact fin 1 (by rw [if_pos d])
      · refine ih w (fun p hp hpp => hw p hp ?_) hK hv
        rcases hpp with d | ⟨d, d2⟩
        · exact Or.inl d
        · refine Or.inr ⟨d, ?_⟩
          rcases Nat.lt_or_eq_of_le (Nat.lt_succ_iff.mp d2) with d3 | d3
          · exact d3
          · subst d3; exact absurd d hv2
    · subst c
      simp (disch := first | assumption | omega) only [↓zm1, z0, z1, z2, z3, z4, z5, z8, z10, z12, z13, z24, z25, z31, z99, z100, z104, z115, z116, z1000, z8192, z10240, nI_leI, nI_ltI, nI_eq, nI_clamp, z_in, z_inl, nI_add, pk_mul, pk_sub, z_pred, z_predm, pk_div, z_em, z_me, z_mlt, z_nmlt, z_mle, z_nmle, z_shl, z_bit1, z_bit0, z_cap, Nat.not_lt_zero, Nat.zero_le, Nat.lt_irrefl, Nat.le_refl, true_implies, false_implies, implies_true, and_true, true_and, not_true_eq_false, not_false_eq_true, and_self, false_and, and_false, if_true, if_false, ite_true, ite_false, reduceCtorEq, Bool.false_eq_true, Bool.true_eq_false, eq_self_iff_true, forall_const, iff_self]
      exact hK w fun p hp hpp => hw p hp (by omega))
  have key := lp (m := n + 1) (Q := fun g v => ∀ w : Nat → Int64, (∀ p, p < 2 ^ n → pc p < v → w p = lN (Wy L e p)) → wp_X4_counts_L2 fu (fun (s_109 : SX) => (P s_109)) g (nI v) (sJ u w)) (by
    intro g v hv ih w hw
    rw [wp_X4_counts_L2]
    unfold wp_X4_counts_B2
    rw [sJ_sc, h0]
    rcases Nat.lt_or_eq_of_le hv with c | c
    · have ih := ih c
      have q : ¬ n < v := by omega
      simp (disch := first | assumption | omega) only [↓zm1, z0, z1, z2, z3, z4, z5, z8, z10, z12, z13, z24, z25, z31, z99, z100, z104, z115, z116, z1000, z8192, z10240, nI_leI, nI_ltI, nI_eq, nI_clamp, z_in, z_inl, nI_add, pk_mul, pk_sub, z_pred, z_predm, pk_div, z_em, z_me, z_mlt, z_nmlt, z_mle, z_nmle, z_shl, z_bit1, z_bit0, z_cap, Nat.not_lt_zero, Nat.zero_le, Nat.lt_irrefl, Nat.le_refl, true_implies, false_implies, implies_true, and_true, true_and, not_true_eq_false, not_false_eq_true, and_self, false_and, and_false, if_true, if_false, ite_true, ite_false, reduceCtorEq, Bool.false_eq_true, Bool.true_eq_false, eq_self_iff_true, forall_const, iff_self, q]
      exact pegs v _ fu 0 (Nat.zero_le _) (by omega) w (fun p hp hpp => hw p hp (by omega)) (fun w' hw' => ih w' hw') (by omega)
    · subst c
      have q : n < n + 1 := by omega
      simp (disch := first | assumption | omega) only [↓zm1, z0, z1, z2, z3, z4, z5, z8, z10, z12, z13, z24, z25, z31, z99, z100, z104, z115, z116, z1000, z8192, z10240, nI_leI, nI_ltI, nI_eq, nI_clamp, z_in, z_inl, nI_add, pk_mul, pk_sub, z_pred, z_predm, pk_div, z_em, z_me, z_mlt, z_nmlt, z_mle, z_nmle, z_shl, z_bit1, z_bit0, z_cap, Nat.not_lt_zero, Nat.zero_le, Nat.lt_irrefl, Nat.le_refl, true_implies, false_implies, implies_true, and_true, true_and, not_true_eq_false, not_false_eq_true, and_self, false_and, and_false, if_true, if_false, ite_true, ite_false, reduceCtorEq, Bool.false_eq_true, Bool.true_eq_false, eq_self_iff_true, forall_const, iff_self, q]
      refine hP w fun p hp => hw p hp ?_
      have := pc_le hp (by omega)
      omega) fu 0 (by omega) (by omega)
  exact key u.2.2 (fun p _ hp => by omega)
/-! what can be come to -/
theorem r_fill {f : Nat → Int32} {fu cap m : Nat} (hfu : 20000 ≤ fu) (hm : m ≤ cap) (hc : cap ≤ 8192) {P : (Nat → Int32) → Prop} (hP : ∀ g : Nat → Int32, (∀ q, q < m → g q = nI 0) → P g) : wp_J7_fill_479d4 fu cap f 0 (nI m) 0 P := by
  unfold wp_J7_fill_479d4 wp_J7_rangeCheck_23922
  simp (disch := first | assumption | omega) only [↓zm1, z0, z1, z2, z3, z4, z5, z8, z10, z12, z13, z24, z25, z31, z99, z100, z104, z115, z116, z1000, z8192, z10240, nI_leI, nI_ltI, nI_eq, nI_clamp, z_in, z_inl, nI_add, pk_mul, pk_sub, z_pred, z_predm, pk_div, z_em, z_me, z_mlt, z_nmlt, z_mle, z_nmle, z_shl, z_bit1, z_bit0, z_cap, Nat.not_lt_zero, Nat.zero_le, Nat.lt_irrefl, Nat.le_refl, true_implies, false_implies, implies_true, and_true, true_and, not_true_eq_false, not_false_eq_true, and_self, false_and, and_false, if_true, if_false, ite_true, ite_false, reduceCtorEq, Bool.false_eq_true, Bool.true_eq_false, eq_self_iff_true, forall_const, iff_self, hm]
  have n0 : vp_nar .boolean (nI 0) = nI 0 := rfl
  have key := lp (m := m) (Q := fun g i => ∀ f : Nat → Int32, (∀ q, q < i → f q = nI 0) → wp_J7_fill_479d4_L10 cap (nI m) (nI 0) P g (nI i) f) (by
    intro g i hi ih f hf
    rw [wp_J7_fill_479d4_L10]
    unfold wp_J7_fill_479d4_B10
    rcases Nat.lt_or_eq_of_le hi with c | c
    · have q : ¬ m ≤ i := by omega
      have q2 : i < cap := by omega
      simp (disch := first | assumption | omega) only [↓zm1, z0, z1, z2, z3, z4, z5, z8, z10, z12, z13, z24, z25, z31, z99, z100, z104, z115, z116, z1000, z8192, z10240, nI_leI, nI_ltI, nI_eq, nI_clamp, z_in, z_inl, nI_add, pk_mul, pk_sub, z_pred, z_predm, pk_div, z_em, z_me, z_mlt, z_nmlt, z_mle, z_nmle, z_shl, z_bit1, z_bit0, z_cap, Nat.not_lt_zero, Nat.zero_le, Nat.lt_irrefl, Nat.le_refl, true_implies, false_implies, implies_true, and_true, true_and, not_true_eq_false, not_false_eq_true, and_self, false_and, and_false, if_true, if_false, ite_true, ite_false, reduceCtorEq, Bool.false_eq_true, Bool.true_eq_false, eq_self_iff_true, forall_const, iff_self, q, q2, n0]
      refine ih c _ fun x hx => ?_
      by_cases e : x = i
      · subst e; rw [upd_eq]
      · rw [upd_ne e]; exact hf x (by omega)
    · subst c
      simp (disch := first | assumption | omega) only [↓zm1, z0, z1, z2, z3, z4, z5, z8, z10, z12, z13, z24, z25, z31, z99, z100, z104, z115, z116, z1000, z8192, z10240, nI_leI, nI_ltI, nI_eq, nI_clamp, z_in, z_inl, nI_add, pk_mul, pk_sub, z_pred, z_predm, pk_div, z_em, z_me, z_mlt, z_nmlt, z_mle, z_nmle, z_shl, z_bit1, z_bit0, z_cap, Nat.not_lt_zero, Nat.zero_le, Nat.lt_irrefl, Nat.le_refl, true_implies, false_implies, implies_true, and_true, true_and, not_true_eq_false, not_false_eq_true, and_self, false_and, and_false, if_true, if_false, ite_true, ite_false, reduceCtorEq, Bool.false_eq_true, Bool.true_eq_false, eq_self_iff_true, forall_const, iff_self]
      exact hP f hf) fu 0 (by omega) (by omega)
  exact key f (fun q hq => by omega)
/-- come to from st by a jump from one of the positions that X holds -/
def Rx (L : Ln) (n st : Nat) (X : Nat → Prop) (q : Nat) : Prop := q = st ∨ ∃ p k, p < 2 ^ n ∧ Rc L st p ∧ X p ∧ k < L.length ∧ can L p k = true ∧ nx L p k = q
theorem Rx_rc {n : Nat} {L : Ln} (hL : Lok n L) {st : Nat} (hst : st < 2 ^ n) {X : Nat → Prop} {q : Nat} (h : Rx L n st X q) : Rc L st q := by
  rcases h with e | ⟨p, k, h1, h2, h3, h4, h5, h6⟩
  · rw [e]; exact Rc_refl hL hst
  · rw [← h6]; exact Rc_snoc hL (pc st) (Nat.le_refl _) hst h2 h4 h5
theorem rc_Rx {n : Nat} {L : Ln} (hL : Lok n L) {st : Nat} (hst : st < 2 ^ n) {X : Nat → Prop} {q : Nat} (hX : ∀ p, p < 2 ^ n → pc q < pc p → X p) (h : Rc L st q) : Rx L n st X q := by
  rcases Rc_last hL (pc st) (Nat.le_refl _) hst h with e | ⟨p, k, h1, h2, h3, h4, h5⟩
  · exact Or.inl e
  · refine Or.inr ⟨p, k, h1, h2, hX p h1 ?_, h3, h4, h5⟩
    have := can_pc hL h3 h4
    rw [h5] at this
    omega
theorem Rx_mono {n : Nat} {L : Ln} {st : Nat} {X Y : Nat → Prop} {q : Nat} (h : ∀ p, p < 2 ^ n → Rc L st p → X p → Y p) (g : Rx L n st X q) : Rx L n st Y q := by
  rcases g with e | ⟨p, k, h1, h2, h3, h4, h5, h6⟩
  · exact Or.inl e
  · exact Or.inr ⟨p, k, h1, h2, h p h1 h2 h3, h4, h5, h6⟩
def Rm (s : SX) (n : Nat) (R : Nat → Prop) : Prop := ∀ q, q < 2 ^ n → ∃ b, s.2.1 6 q = zb b ∧ (b = true ↔ R q)
theorem Rm.iff {s : SX} {n : Nat} {R S : Nat → Prop} (h : Rm s n R) (e : ∀ q, q < 2 ^ n → (R q ↔ S q)) : Rm s n S := fun q hq => by
  obtain ⟨b, h1, h2⟩ := h q hq
  exact ⟨b, h1, h2.trans (e q hq)⟩
theorem r_reaches {u : SX} {L : Ln} {n st fu : Nat} (hR : Rin u L) (hL : Lok n L) (hfu : 20000 ≤ fu) (hst : st < 2 ^ n) (h0 : u.1 0 = nI n) (h2 : u.1 2 = nI st) {P : Int32 → SX → Prop} (hP : ∀ g : Nat → Int32, (∀ q, q < 2 ^ n → g q = zb (rb L st q)) → P (nI (fb_ct (rb L st) (2 ^ n))) (sA u 6 g)) : wp_X4_reaches fu u P := by
  have hn := hL.1
  have h8 := pow_13 hn
  have hm := hL.2.1
  have n1 : vp_nar .boolean 1 = zb true := rfl
  -- the lines of one position
  have line := fun (i : Nat) (hi : i < 2 ^ n) (hri : Rc L st i) (X : Nat → Prop) (K : SX → Prop) => lp (m := L.length) (Q := fun g k => ∀ h : Nat → Int32, Rm (sA u 6 h) n (fun q => Rx L n st X q ∨ ∃ j, j < k ∧ can L i j = true ∧ nx L i j = q) →
      (∀ h : Nat → Int32, Rm (sA u 6 h) n (Rx L n st (fun p => X p ∨ p = i)) → K (sA u 6 h)) → wp_X4_reaches_L74 (nI i) K g (nI k) (sA u 6 h)) (by
    intro g k hk ih h hh hK
    rw [wp_X4_reaches_L74]
    unfold wp_X4_reaches_B74 wp_X4_reaches_J106
    rw [sA_sc, hR.1]
    have hRw : Rin (sA u 6 h) L := hR
    rcases Nat.lt_or_eq_of_le hk with c | c
    · have ih := ih c
      have q : ¬ L.length ≤ k := by omega
      have hx := nx_lt hL c hi
      have q3 : nx L i k < 8192 := by omega
      simp (disch := first | assumption | omega) only [↓zm1, z0, z1, z2, z3, z4, z5, z8, z10, z12, z13, z24, z25, z31, z99, z100, z104, z115, z116, z1000, z8192, z10240, nI_leI, nI_ltI, nI_eq, nI_clamp, z_in, z_inl, nI_add, pk_mul, pk_sub, z_pred, z_predm, pk_div, z_em, z_me, z_mlt, z_nmlt, z_mle, z_nmle, z_shl, z_bit1, z_bit0, z_cap, Nat.not_lt_zero, Nat.zero_le, Nat.lt_irrefl, Nat.le_refl, true_implies, false_implies, implies_true, and_true, true_and, not_true_eq_false, not_false_eq_true, and_self, false_and, and_false, if_true, if_false, ite_true, ite_false, reduceCtorEq, Bool.false_eq_true, Bool.true_eq_false, eq_self_iff_true, forall_const, iff_self, q, r_can hRw hL, c, zb_0]
      refine ⟨fun hc => ?_, fun hc => ?_⟩
      · refine ih h (hh.iff fun q hq => ?_) hK
        constructor
        · rintro (r | ⟨j, j1, j2⟩)
          · exact Or.inl r
          · exact Or.inr ⟨j, by omega, j2⟩
        · rintro (r | ⟨j, j1, j2, j3⟩)
          · exact Or.inl r
          · rcases Nat.lt_or_eq_of_le (Nat.lt_succ_iff.mp j1) with d | d
            · exact Or.inr ⟨j, d, j2, j3⟩
            · subst d; rw [hc] at j2; cases j2
      · have hc : can L i k = true := by
          cases h : can L i k
          · exact absurd h hc
          · rfl
        have n1' : vp_nar .boolean (nI 1) = zb true := rfl
        simp (disch := first | assumption | omega) only [↓zm1, z0, z1, z2, z3, z4, z5, z8, z10, z12, z13, z24, z25, z31, z99, z100, z104, z115, z116, z1000, z8192, z10240, nI_leI, nI_ltI, nI_eq, nI_clamp, z_in, z_inl, nI_add, pk_mul, pk_sub, z_pred, z_predm, pk_div, z_em, z_me, z_mlt, z_nmlt, z_mle, z_nmle, z_shl, z_bit1, z_bit0, z_cap, Nat.not_lt_zero, Nat.zero_le, Nat.lt_irrefl, Nat.le_refl, true_implies, false_implies, implies_true, and_true, true_and, not_true_eq_false, not_false_eq_true, and_self, false_and, and_false, if_true, if_false, ite_true, ite_false, reduceCtorEq, Bool.false_eq_true, Bool.true_eq_false, eq_self_iff_true, forall_const, iff_self, r_behind hRw hL c, q3, n1', sA_eq]
        rw [sA_sA]
        refine ih _ (fun q hq => ?_) hK
        by_cases e2 : q = nx L i k
        · subst e2
          exact ⟨true, by rw [sA_eq, upd_eq], fun _ => Or.inr ⟨k, by omega, hc, rfl⟩, fun _ => rfl⟩
        · obtain ⟨b, b1, b2⟩ := hh q hq
          rw [sA_eq] at b1
          refine ⟨b, by rw [sA_eq, upd_ne e2]; exact b1, b2.trans ?_⟩
          constructor
          · rintro (r | ⟨j, j1, j2⟩)
            · exact Or.inl r
            · exact Or.inr ⟨j, by omega, j2⟩
          · rintro (r | ⟨j, j1, j2, j3⟩)
            · exact Or.inl r
            · rcases Nat.lt_or_eq_of_le (Nat.lt_succ_iff.mp j1) with d | d
              · exact Or.inr ⟨j, d, j2, j3⟩
              · subst d; exact absurd j3.symm e2
    · subst c
      simp (disch := first | assumption | omega) only [↓zm1, z0, z1, z2, z3, z4, z5, z8, z10, z12, z13, z24, z25, z31, z99, z100, z104, z115, z116, z1000, z8192, z10240, nI_leI, nI_ltI, nI_eq, nI_clamp, z_in, z_inl, nI_add, pk_mul, pk_sub, z_pred, z_predm, pk_div, z_em, z_me, z_mlt, z_nmlt, z_mle, z_nmle, z_shl, z_bit1, z_bit0, z_cap, Nat.not_lt_zero, Nat.zero_le, Nat.lt_irrefl, Nat.le_refl, true_implies, false_implies, implies_true, and_true, true_and, not_true_eq_false, not_false_eq_true, and_self, false_and, and_false, if_true, if_false, ite_true, ite_false, reduceCtorEq, Bool.false_eq_true, Bool.true_eq_false, eq_self_iff_true, forall_const, iff_self]
      refine hK h (hh.iff fun q hq => ?_)
      constructor
      · rintro (r | ⟨j, j1, j2, j3⟩)
        · exact Rx_mono (fun p _ _ h => Or.inl h) r
        · exact Or.inr ⟨i, j, hi, hri, Or.inr rfl, j1, j2, j3⟩
      · rintro (r | ⟨p, k, a1, a2, a3, a4, a5, a6⟩)
        · exact Or.inl (Or.inl r)
        · rcases a3 with a3 | a3
          · exact Or.inl (Or.inr ⟨p, k, a1, a2, a3, a4, a5, a6⟩)
          · subst a3; exact Or.inr ⟨k, a4, a5, a6⟩)
  -- the positions of one number of pegs
  have pegs := fun (v : Nat) (K : Int32 → SX → Prop) => lp (m := 2 ^ n) (Q := fun g i => ∀ h : Nat → Int32, Rm (sA u 6 h) n (Rx L n st (fun p => v < pc p ∨ (pc p = v ∧ p < i))) →
      (∀ h : Nat → Int32, Rm (sA u 6 h) n (Rx L n st (fun p => v ≤ pc p)) → K (nI (fb_ct (fun p => rb L st p && decide (v ≤ pc p)) (2 ^ n))) (sA u 6 h)) → v ≤ n →
      wp_X4_reaches_L38 fu (nI v) K g (nI i) (nI (fb_ct (fun p => rb L st p && decide (v < pc p ∨ (pc p = v ∧ p < i))) (2 ^ n))) (sA u 6 h)) (by
    intro g i hi ih h hh hK hv
    rw [wp_X4_reaches_L38]
    unfold wp_X4_reaches_B38 wp_X4_reaches_J112
    rw [sA_sc, h0]
    rcases Nat.lt_or_eq_of_le hi with c | c
    · have ih := ih c
      have q : ¬ 2 ^ n ≤ i := by omega
      have q2 : i < 8192 := by omega
      have hpi := pc_le c (by omega)
      obtain ⟨b, b1, b2⟩ := hh i c
      -- nothing new behind i
      have skip : ¬ (Rc L st i ∧ pc i = v) → wp_X4_reaches_L38 fu (nI v) K g (nI (i + 1)) (nI (fb_ct (fun p => rb L st p && decide (v < pc p ∨ (pc p = v ∧ p < i))) (2 ^ n))) (sA u 6 h) := by
        intro hno
        have e1 : fb_ct (fun p => rb L st p && decide (v < pc p ∨ (pc p = v ∧ p < i))) (2 ^ n) = fb_ct (fun p => rb L st p && decide (v < pc p ∨ (pc p = v ∧ p < i + 1))) (2 ^ n) := by
          apply fb_ct_cong
          intro p hp
          cases hb : rb L st p
          · rfl
          · have hb := (rb_iff _ _ _).mp hb
            simp only [Bool.true_and]
            apply decide_eq_decide.mpr
            constructor
            · intro x; omega
            · intro x
              rcases x with x | ⟨x, y⟩
              · exact Or.inl x
              · refine Or.inr ⟨x, ?_⟩
                rcases Nat.lt_or_eq_of_le (Nat.lt_succ_iff.mp y) with d | d
                · exact d
                · subst d; exact absurd ⟨hb, x⟩ hno
        rw [e1]
        refine ih h (hh.iff fun q hq => ⟨Rx_mono fun p _ _ x => by omega, Rx_mono fun p hp hb x => ?_⟩) hK hv
        rcases x with x | ⟨x, y⟩
        · exact Or.inl x
        · refine Or.inr ⟨x, ?_⟩
          rcases Nat.lt_or_eq_of_le (Nat.lt_succ_iff.mp y) with d | d
          · exact d
          · subst d; exact absurd ⟨hb, x⟩ hno
      simp (disch := first | assumption | omega) only [↓zm1, z0, z1, z2, z3, z4, z5, z8, z10, z12, z13, z24, z25, z31, z99, z100, z104, z115, z116, z1000, z8192, z10240, nI_leI, nI_ltI, nI_eq, nI_clamp, z_in, z_inl, nI_add, pk_mul, pk_sub, z_pred, z_predm, pk_div, z_em, z_me, z_mlt, z_nmlt, z_mle, z_nmle, z_shl, z_bit1, z_bit0, z_cap, Nat.not_lt_zero, Nat.zero_le, Nat.lt_irrefl, Nat.le_refl, true_implies, false_implies, implies_true, and_true, true_and, not_true_eq_false, not_false_eq_true, and_self, false_and, and_false, if_true, if_false, ite_true, ite_false, reduceCtorEq, Bool.false_eq_true, Bool.true_eq_false, eq_self_iff_true, forall_const, iff_self, q, q2, bc_pc, b1, zb_0]
      refine ⟨fun hb => skip fun ⟨r1, r2⟩ => ?_, fun hb => ⟨fun hv2 => ?_, fun hv2 => skip fun ⟨r1, r2⟩ => hv2 r2⟩⟩
      · have := b2.mpr (rc_Rx hL hst (fun p _ hp => Or.inl (by omega)) r1)
        rw [hb] at this
        cases this
      · have hb : b = true := by
          cases b
          · exact absurd rfl hb
          · rfl
        have hri := Rx_rc hL hst (b2.mp hb)
        have e1 : fb_ct (fun p => rb L st p && decide (v < pc p ∨ (pc p = v ∧ p < i))) (2 ^ n) + 1 = fb_ct (fun p => rb L st p && decide (v < pc p ∨ (pc p = v ∧ p < i + 1))) (2 ^ n) := by
          have u := fb_ct_upd (fun p => rb L st p && decide (v < pc p ∨ (pc p = v ∧ p < i))) true (i := i) (n := 2 ^ n) c
          have z : (rb L st i && decide (v < pc i ∨ (pc i = v ∧ i < i))) = false := by
            rw [decide_eq_false (by omega), Bool.and_false]
          simp only [z, Bool.false_eq_true, if_false, if_true, Nat.add_zero] at u
          rw [← u]
          apply fb_ct_cong
          intro p hp
          by_cases e : p = i
          · subst e
            rw [if_pos rfl, (rb_iff _ _ _).mpr hri, Bool.true_and, decide_eq_true (Or.inr ⟨hv2, Nat.lt_succ_self p⟩)]
          · rw [if_neg e]
            congr 1
            apply decide_eq_decide.mpr
            omega
        rw [e1]
        refine line i c hri (fun p => v < pc p ∨ (pc p = v ∧ p < i)) _ fu 0 (Nat.zero_le _) (by omega) h (hh.iff fun q hq => ?_) (fun h' hh' => ih h' (hh'.iff fun q hq => ?_) hK hv)
        · constructor
          · exact fun r => Or.inl r
          · rintro (r | ⟨j, j1, -⟩)
            · exact r
            · omega
        · constructor
          · refine Rx_mono fun p hp hb x => ?_
            rcases x with x | x
            · omega
            · subst x; exact Or.inr ⟨hv2, by omega⟩
          · refine Rx_mono fun p hp hb x => ?_
            by_cases e : p = i
            · exact Or.inr e
            · exact Or.inl (by omega)
    · subst c
      have e1 : fb_ct (fun p => rb L st p && decide (v < pc p ∨ (pc p = v ∧ p < 2 ^ n))) (2 ^ n) = fb_ct (fun p => rb L st p && decide (v ≤ pc p)) (2 ^ n) := by
        apply fb_ct_cong
        intro p hp
        congr 1
        apply decide_eq_decide.mpr
        omega
      rw [e1]
      simp (disch := first | assumption | omega) only [↓zm1, z0, z1, z2, z3, z4, z5, z8, z10, z12, z13, z24, z25, z31, z99, z100, z104, z115, z116, z1000, z8192, z10240, nI_leI, nI_ltI, nI_eq, nI_clamp, z_in, z_inl, nI_add, pk_mul, pk_sub, z_pred, z_predm, pk_div, z_em, z_me, z_mlt, z_nmlt, z_mle, z_nmle, z_shl, z_bit1, z_bit0, z_cap, Nat.not_lt_zero, Nat.zero_le, Nat.lt_irrefl, Nat.le_refl, true_implies, false_implies, implies_true, and_true, true_and, not_true_eq_false, not_false_eq_true, and_self, false_and, and_false, if_true, if_false, ite_true, ite_false, reduceCtorEq, Bool.false_eq_true, Bool.true_eq_false, eq_self_iff_true, forall_const, iff_self]
      refine hK h (hh.iff fun q hq => ⟨Rx_mono fun p hp _ x => by omega, Rx_mono fun p hp _ x => by omega⟩))
  have key := lpd (Q := fun g w => w ≤ n + 1 → ∀ h : Nat → Int32, Rm (sA u 6 h) n (Rx L n st (fun p => w ≤ pc p)) → wp_X4_reaches_L32 fu (fun (v1_124 : Int32) (s_124 : SX) => (P v1_124 s_124)) g (dn w) (nI (fb_ct (fun p => rb L st p && decide (w ≤ pc p)) (2 ^ n))) (sA u 6 h)) (by
    intro g hw h hh
    rw [wp_X4_reaches_L32]
    unfold wp_X4_reaches_B32 dn
    simp (disch := first | assumption | omega) only [↓zm1, z0, z1, z2, z3, z4, z5, z8, z10, z12, z13, z24, z25, z31, z99, z100, z104, z115, z116, z1000, z8192, z10240, nI_leI, nI_ltI, nI_eq, nI_clamp, z_in, z_inl, nI_add, pk_mul, pk_sub, z_pred, z_predm, pk_div, z_em, z_me, z_mlt, z_nmlt, z_mle, z_nmle, z_shl, z_bit1, z_bit0, z_cap, Nat.not_lt_zero, Nat.zero_le, Nat.lt_irrefl, Nat.le_refl, true_implies, false_implies, implies_true, and_true, true_and, not_true_eq_false, not_false_eq_true, and_self, false_and, and_false, if_true, if_false, ite_true, ite_false, reduceCtorEq, Bool.false_eq_true, Bool.true_eq_false, eq_self_iff_true, forall_const, iff_self]
    have e1 : fb_ct (fun p => rb L st p && decide (0 ≤ pc p)) (2 ^ n) = fb_ct (rb L st) (2 ^ n) := by
      apply fb_ct_cong
      intro p hp
      rw [decide_eq_true (Nat.zero_le _), Bool.and_true]
    have := hP h (fun q hq => by
      obtain ⟨b, b1, b2⟩ := hh q hq
      rw [sA_eq] at b1
      rw [b1]
      congr 1
      cases hb : rb L st q
      · cases b
        · rfl
        · have := Rx_rc hL hst (b2.mp rfl)
          rw [(rb_iff _ _ _).mpr this] at hb
          cases hb
      · exact b2.mpr (rc_Rx hL hst (fun p _ _ => Nat.zero_le _) ((rb_iff _ _ _).mp hb)))
    rw [← e1] at this
    simpa only [Nat.zero_le] using this) (by
    intro g w ih hw h hh
    rw [wp_X4_reaches_L32]
    unfold wp_X4_reaches_B32 dn
    simp (disch := first | assumption | omega) only [↓zm1, z0, z1, z2, z3, z4, z5, z8, z10, z12, z13, z24, z25, z31, z99, z100, z104, z115, z116, z1000, z8192, z10240, nI_leI, nI_ltI, nI_eq, nI_clamp, z_in, z_inl, nI_add, pk_mul, pk_sub, z_pred, z_predm, pk_div, z_em, z_me, z_mlt, z_nmlt, z_mle, z_nmle, z_shl, z_bit1, z_bit0, z_cap, Nat.not_lt_zero, Nat.zero_le, Nat.lt_irrefl, Nat.le_refl, true_implies, false_implies, implies_true, and_true, true_and, not_true_eq_false, not_false_eq_true, and_self, false_and, and_false, if_true, if_false, ite_true, ite_false, reduceCtorEq, Bool.false_eq_true, Bool.true_eq_false, eq_self_iff_true, forall_const, iff_self]
    have e1 : fb_ct (fun p => rb L st p && decide (w + 1 ≤ pc p)) (2 ^ n) = fb_ct (fun p => rb L st p && decide (w < pc p ∨ (pc p = w ∧ p < 0))) (2 ^ n) := by
      apply fb_ct_cong
      intro p hp
      congr 1
      apply decide_eq_decide.mpr
      omega
    rw [e1]
    refine pegs w _ fu 0 (Nat.zero_le _) (by omega) h (hh.iff fun q hq => ⟨Rx_mono fun p hp _ x => by omega, Rx_mono fun p hp _ x => by omega⟩) (fun h' hh' => ?_) (by omega)
    rw [dn_step]
    exact ih (by omega) h' hh')
  unfold wp_X4_reaches
  rw [h0, h2]
  simp (disch := first | assumption | omega) only [z1, z31, z_shl]
  refine r_fill hfu (by omega) (by omega) fun g hg => ?_
  have q2 : st < 8192 := by omega
  have n1' : vp_nar .boolean (nI 1) = zb true := rfl
  simp (disch := first | assumption | omega) only [↓zm1, z0, z1, z2, z3, z4, z5, z8, z10, z12, z13, z24, z25, z31, z99, z100, z104, z115, z116, z1000, z8192, z10240, nI_leI, nI_ltI, nI_eq, nI_clamp, z_in, z_inl, nI_add, pk_mul, pk_sub, z_pred, z_predm, pk_div, z_em, z_me, z_mlt, z_nmlt, z_mle, z_nmle, z_shl, z_bit1, z_bit0, z_cap, Nat.not_lt_zero, Nat.zero_le, Nat.lt_irrefl, Nat.le_refl, true_implies, false_implies, implies_true, and_true, true_and, not_true_eq_false, not_false_eq_true, and_self, false_and, and_false, if_true, if_false, ite_true, ite_false, reduceCtorEq, Bool.false_eq_true, Bool.true_eq_false, eq_self_iff_true, forall_const, iff_self, q2, n1']
  rw [sA_sA]
  have z : fb_ct (fun p => rb L st p && decide (n + 1 ≤ pc p)) (2 ^ n) = 0 := fb_ct_zero.mpr fun p hp => by
    have := pc_le hp (by omega)
    rw [decide_eq_false (by omega), Bool.and_false]
  have := key fu (n + 1) (by omega) (Nat.le_refl _) (upd g st (zb true)) (fun q hq => by
    by_cases e2 : q = st
    · subst e2
      exact ⟨true, by rw [sA_eq, upd_eq], fun _ => Or.inl rfl, fun _ => rfl⟩
    · refine ⟨false, by rw [sA_eq, upd_ne e2]; exact hg q hq, fun c => (by cases c), fun c => ?_⟩
      rcases c with c | ⟨p, k, a1, a2, a3, -⟩
      · exact absurd c e2
      · have := pc_le a1 (by omega)
        omega)
  rw [z] at this
  exact this
