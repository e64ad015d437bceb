/-! ===== the reference's figures over what can be come to ===== -/
theorem pp_le {p : Nat} (hp : p < 8192) : pc p ≤ 13 := pc_le (n := 13) hp (by decide)
theorem r_fails0 {σ : SX} {P : Int32 → SX → Prop} : wp_X4_fails σ (nI 0) P ↔ P (nI 0) (sI σ 5 (nI 0)) := by
  unfold wp_X4_fails
  have h : nI 0 ≤ 0 := by decide
  simp only [h, true_implies, not_true_eq_false, false_implies, and_true]
  rfl
theorem r_failsN {σ : SX} {P : Int32 → SX → Prop} {t : Nat} (h0 : 0 < t) (ht : t < 2 ^ 31) : wp_X4_fails σ (nI t) P ↔ P (nI 1) (sI σ 5 (nI t)) := by
  unfold wp_X4_fails
  have h : ¬ nI t ≤ 0 := nI_nle h0 ht
  simp only [h, false_implies, true_and, not_false_eq_true, true_implies]
  rfl
theorem z_10 : nI 1 = nI 0 ↔ False := by decide
theorem r_dead {u : SX} {L : Ln} {n st fu : Nat} (hR : Rin u L) (hL : Lok n L) (hfu : 20000 ≤ fu) (hst : st < 2 ^ n) (h0 : u.1 0 = nI n) (h2 : u.1 2 = nI st) {P : Int32 → SX → Prop} (hP : ∀ g : Nat → Int32, P (nI (fb_ct (fun q => rb L st q && decide (J L q = 0)) (2 ^ n))) (sA (sI u 5 0) 6 g)) : wp_X4_dead fu u P := by
  have hn := hL.1
  have h8 := pow_13 hn
  have hm := hL.2.1
  unfold wp_X4_dead
  refine r_reaches (u := sI u 5 0) hR hL hfu hst h0 h2 fun g hg => ?_
  have hRs : Rin (sA (sI u 5 (nI 0)) 6 g) L := hR
  have h0s : (sA (sI u 5 0) 6 g).1 0 = nI n := h0
  have key := lp (m := 2 ^ n) (Q := fun f i => wp_X4_dead_L14 fu (sA (sI u 5 0) 6 g) (fun v => P v (sA (sI u 5 0) 6 g)) f (nI i) (nI (fb_ct (fun q => rb L st q && decide (J L q = 0)) i))) (by
    intro f i hi ih
    rw [wp_X4_dead_L14]
    unfold wp_X4_dead_B14 wp_X4_dead_J46 wp_X4_dead_J47
    rw [h0s]
    rcases Nat.lt_or_eq_of_le hi with c | c
    · have ih := ih c
      have q : ¬ 2 ^ n ≤ i := by omega
      have q2 : i < 8192 := by omega
      have hJ := fb_ct_le (can L i) L.length
      have hJ : J L i ≤ 104 := by unfold J; omega
      rw [fb_ct_succ] at ih
      simp (disch := first | assumption | omega) only [↓zm1, z0, z1, z2, z3, z4, z5, z8, z10, z12, z13, z24, z25, z31, z99, z100, z104, z115, z116, z1000, z8192, z10240, nI_leI, nI_ltI, nI_eq, nI_clamp, z_in, z_inl, nI_add, pk_mul, pk_sub, z_pred, z_predm, pk_div, z_em, z_me, z_mlt, z_nmlt, z_mle, z_nmle, z_shl, z_bit1, z_bit0, z_cap, Nat.not_lt_zero, Nat.zero_le, Nat.lt_irrefl, Nat.le_refl, true_implies, false_implies, implies_true, and_true, true_and, not_true_eq_false, not_false_eq_true, and_self, false_and, and_false, if_true, if_false, ite_true, ite_false, reduceCtorEq, Bool.false_eq_true, Bool.true_eq_false, eq_self_iff_true, forall_const, iff_self, q, q2, sA_eq, hg i c, zb_0, r_jumpsOf hRs hL hfu]
      cases hb : rb L st i
      · simp (disch := first | assumption | omega) only [hb, Bool.false_and, ↓zm1, z0, z1, z2, z3, z4, z5, z8, z10, z12, z13, z24, z25, z31, z99, z100, z104, z115, z116, z1000, z8192, z10240, nI_leI, nI_ltI, nI_eq, nI_clamp, z_in, z_inl, nI_add, pk_mul, pk_sub, z_pred, z_predm, pk_div, z_em, z_me, z_mlt, z_nmlt, z_mle, z_nmle, z_shl, z_bit1, z_bit0, z_cap, Nat.not_lt_zero, Nat.zero_le, Nat.lt_irrefl, Nat.le_refl, true_implies, false_implies, implies_true, and_true, true_and, not_true_eq_false, not_false_eq_true, and_self, false_and, and_false, if_true, if_false, ite_true, ite_false, reduceCtorEq, Bool.false_eq_true, Bool.true_eq_false, eq_self_iff_true, forall_const, iff_self] at ih ⊢
        exact ih
      · simp (disch := first | assumption | omega) only [hb, Bool.true_and, ↓zm1, z0, z1, z2, z3, z4, z5, z8, z10, z12, z13, z24, z25, z31, z99, z100, z104, z115, z116, z1000, z8192, z10240, nI_leI, nI_ltI, nI_eq, nI_clamp, z_in, z_inl, nI_add, pk_mul, pk_sub, z_pred, z_predm, pk_div, z_em, z_me, z_mlt, z_nmlt, z_mle, z_nmle, z_shl, z_bit1, z_bit0, z_cap, Nat.not_lt_zero, Nat.zero_le, Nat.lt_irrefl, Nat.le_refl, true_implies, false_implies, implies_true, and_true, true_and, not_true_eq_false, not_false_eq_true, and_self, false_and, and_false, if_true, if_false, ite_true, ite_false, reduceCtorEq, Bool.false_eq_true, Bool.true_eq_false, eq_self_iff_true, forall_const, iff_self, decide_eq_true_eq] at ih ⊢
        refine ⟨fun hz => ?_, fun hz => ?_⟩
        · simp only [hz, if_false] at ih; exact ih
        · simp only [hz, if_true] at ih; exact ih
    · subst c
      simp (disch := first | assumption | omega) only [↓zm1, z0, z1, z2, z3, z4, z5, z8, z10, z12, z13, z24, z25, z31, z99, z100, z104, z115, z116, z1000, z8192, z10240, nI_leI, nI_ltI, nI_eq, nI_clamp, z_in, z_inl, nI_add, pk_mul, pk_sub, z_pred, z_predm, pk_div, z_em, z_me, z_mlt, z_nmlt, z_mle, z_nmle, z_shl, z_bit1, z_bit0, z_cap, Nat.not_lt_zero, Nat.zero_le, Nat.lt_irrefl, Nat.le_refl, true_implies, false_implies, implies_true, and_true, true_and, not_true_eq_false, not_false_eq_true, and_self, false_and, and_false, if_true, if_false, ite_true, ite_false, reduceCtorEq, Bool.false_eq_true, Bool.true_eq_false, eq_self_iff_true, forall_const, iff_self]
      exact hP g) fu 0 (Nat.zero_le _) (by omega)
  exact key
def mnR (L : Ln) (st : Nat) : Nat → Nat
  | 0 => 13
  | i + 1 => if rb L st i = true then min (mnR L st i) (pc i) else mnR L st i
theorem mnR_le (L : Ln) (st : Nat) : ∀ i, mnR L st i ≤ 13
  | 0 => Nat.le_refl _
  | i + 1 => by
    unfold mnR
    have := mnR_le L st i
    split <;> omega
theorem r_fewest {u : SX} {L : Ln} {n st fu : Nat} (hR : Rin u L) (hL : Lok n L) (hfu : 20000 ≤ fu) (hst : st < 2 ^ n) (h0 : u.1 0 = nI n) (h2 : u.1 2 = nI st) {P : Int32 → SX → Prop} (hP : ∀ g : Nat → Int32, P (nI (mnR L st (2 ^ n))) (sA (sI u 5 0) 6 g)) : wp_X4_fewest fu u P := by
  have hn := hL.1
  have h8 := pow_13 hn
  unfold wp_X4_fewest
  refine r_reaches (u := sI u 5 0) hR hL hfu hst h0 h2 fun g hg => ?_
  have h0s : (sA (sI u 5 0) 6 g).1 0 = nI n := h0
  have key := lp (m := 2 ^ n) (Q := fun f i => wp_X4_fewest_L15 (sA (sI u 5 0) 6 g) (fun v => P v (sA (sI u 5 0) 6 g)) f (nI i) (nI (mnR L st i))) (by
    intro f i hi ih
    rw [wp_X4_fewest_L15]
    unfold wp_X4_fewest_B15 wp_X4_fewest_J46
    rw [h0s]
    have hmn := mnR_le L st i
    rcases Nat.lt_or_eq_of_le hi with c | c
    · have ih := ih c
      have q : ¬ 2 ^ n ≤ i := by omega
      have q2 : i < 8192 := by omega
      have hpi := pp_le q2
      unfold mnR at ih
      simp (disch := first | assumption | omega) only [↓zm1, z0, z1, z2, z3, z4, z5, z8, z10, z12, z13, z24, z25, z31, z99, z100, z104, z115, z116, z1000, z8192, z10240, nI_leI, nI_ltI, nI_eq, nI_clamp, z_in, z_inl, nI_add, pk_mul, pk_sub, z_pred, z_predm, pk_div, z_em, z_me, z_mlt, z_nmlt, z_mle, z_nmle, z_shl, z_bit1, z_bit0, z_cap, Nat.not_lt_zero, Nat.zero_le, Nat.lt_irrefl, Nat.le_refl, true_implies, false_implies, implies_true, and_true, true_and, not_true_eq_false, not_false_eq_true, and_self, false_and, and_false, if_true, if_false, ite_true, ite_false, reduceCtorEq, Bool.false_eq_true, Bool.true_eq_false, eq_self_iff_true, forall_const, iff_self, q, q2, sA_eq, hg i c, zb_0, bc_pc, z_min]
      cases hb : rb L st i
      · simp (disch := first | assumption | omega) only [hb, ↓zm1, z0, z1, z2, z3, z4, z5, z8, z10, z12, z13, z24, z25, z31, z99, z100, z104, z115, z116, z1000, z8192, z10240, nI_leI, nI_ltI, nI_eq, nI_clamp, z_in, z_inl, nI_add, pk_mul, pk_sub, z_pred, z_predm, pk_div, z_em, z_me, z_mlt, z_nmlt, z_mle, z_nmle, z_shl, z_bit1, z_bit0, z_cap, Nat.not_lt_zero, Nat.zero_le, Nat.lt_irrefl, Nat.le_refl, true_implies, false_implies, implies_true, and_true, true_and, not_true_eq_false, not_false_eq_true, and_self, false_and, and_false, if_true, if_false, ite_true, ite_false, reduceCtorEq, Bool.false_eq_true, Bool.true_eq_false, eq_self_iff_true, forall_const, iff_self] at ih ⊢
        exact ih
      · simp (disch := first | assumption | omega) only [hb, ↓zm1, z0, z1, z2, z3, z4, z5, z8, z10, z12, z13, z24, z25, z31, z99, z100, z104, z115, z116, z1000, z8192, z10240, nI_leI, nI_ltI, nI_eq, nI_clamp, z_in, z_inl, nI_add, pk_mul, pk_sub, z_pred, z_predm, pk_div, z_em, z_me, z_mlt, z_nmlt, z_mle, z_nmle, z_shl, z_bit1, z_bit0, z_cap, Nat.not_lt_zero, Nat.zero_le, Nat.lt_irrefl, Nat.le_refl, true_implies, false_implies, implies_true, and_true, true_and, not_true_eq_false, not_false_eq_true, and_self, false_and, and_false, if_true, if_false, ite_true, ite_false, reduceCtorEq, Bool.false_eq_true, Bool.true_eq_false, eq_self_iff_true, forall_const, iff_self] at ih ⊢
        exact ih
    · subst c
      simp (disch := first | assumption | omega) only [↓zm1, z0, z1, z2, z3, z4, z5, z8, z10, z12, z13, z24, z25, z31, z99, z100, z104, z115, z116, z1000, z8192, z10240, nI_leI, nI_ltI, nI_eq, nI_clamp, z_in, z_inl, nI_add, pk_mul, pk_sub, z_pred, z_predm, pk_div, z_em, z_me, z_mlt, z_nmlt, z_mle, z_nmle, z_shl, z_bit1, z_bit0, z_cap, Nat.not_lt_zero, Nat.zero_le, Nat.lt_irrefl, Nat.le_refl, true_implies, false_implies, implies_true, and_true, true_and, not_true_eq_false, not_false_eq_true, and_self, false_and, and_false, if_true, if_false, ite_true, ite_false, reduceCtorEq, Bool.false_eq_true, Bool.true_eq_false, eq_self_iff_true, forall_const, iff_self]
      exact hP g) fu 0 (Nat.zero_le _) (by omega)
  exact key
def orR (L : Ln) (st : Nat) : Nat → Nat
  | 0 => 0
  | i + 1 => if rb L st i = true then orR L st i ||| i else orR L st i
theorem orR_lt {n : Nat} (L : Ln) (st : Nat) : ∀ {i : Nat}, i ≤ 2 ^ n → orR L st i < 2 ^ n
  | 0, _ => Nat.two_pow_pos n
  | i + 1, h => by
    unfold orR
    have := orR_lt (n := n) L st (i := i) (by omega)
    split
    · exact Nat.or_lt_two_pow this (by omega)
    · exact this
/-- the least row of cells over the bits of t -/
def rwM (c : Nat → Nat) (t : Nat) : Nat → Nat
  | 0 => 5
  | h + 1 => if t.testBit h = true then min (rwM c t h) (c h / 5) else rwM c t h
theorem rwM_le (c : Nat → Nat) (t : Nat) : ∀ i, rwM c t i ≤ 5
  | 0 => Nat.le_refl _
  | i + 1 => by
    unfold rwM
    have := rwM_le c t i
    split <;> omega
theorem r_highest {u : SX} {L : Ln} {n st fu : Nat} {c : Nat → Nat} (hR : Rin u L) (hL : Lok n L) (hfu : 20000 ≤ fu) (hst : st < 2 ^ n) (h0 : u.1 0 = nI n) (h2 : u.1 2 = nI st) (hc : ∀ h, h < n → u.2.1 1 h = nI (c h) ∧ c h < 25) {P : Int32 → SX → Prop} (hz : st = 0 → P (nI 0) (sI u 5 1)) (hP : ¬ st = 0 → ∀ g : Nat → Int32, P (nI (rwM c (orR L st (2 ^ n)) n)) (sA (sI u 5 0) 6 g)) : wp_X4_highest fu u P := by
  have hn := hL.1
  have h8 := pow_13 hn
  unfold wp_X4_highest wp_X4_highest_J13
  rw [h2]
  have f1 : ∀ Q : Int32 → SX → Prop, wp_X4_fails u (nI 1) Q ↔ Q (nI 1) (sI u 5 (nI 1)) := fun Q => r_failsN (by decide) (by decide)
  simp (disch := first | assumption | omega) only [↓zm1, z0, z1, z5, nI_eq, r_fails0, f1, z_10, true_implies, false_implies, implies_true, and_true, true_and, not_true_eq_false, not_false_eq_true, and_self, false_and, and_false, if_true, if_false, ite_true, ite_false, reduceCtorEq, Bool.false_eq_true, Bool.true_eq_false, eq_self_iff_true, forall_const, iff_self]
  refine ⟨fun hs => ?_, fun hs => hz hs⟩
  refine r_reaches (u := sI u 5 (nI 0)) hR hL hfu hst h0 h2 fun g hg => ?_
  have h0s : (sA (sI u 5 (nI 0)) 6 g).1 0 = nI n := h0
  have key2 := lp (m := n) (Q := fun f i => wp_X4_highest_L67 (sA (sI u 5 (nI 0)) 6 g) (nI (orR L st (2 ^ n))) (fun v => P v (sA (sI u 5 (nI 0)) 6 g)) f (nI i) (nI (rwM c (orR L st (2 ^ n)) i))) (by
    intro f i hi ih
    rw [wp_X4_highest_L67]
    unfold wp_X4_highest_B67 wp_X4_highest_J99
    rw [h0s]
    have hor := orR_lt (n := n) L st (i := 2 ^ n) (Nat.le_refl _)
    have hmn := rwM_le c (orR L st (2 ^ n)) i
    rcases Nat.lt_or_eq_of_le hi with d | d
    · have ih := ih d
      have q : ¬ n ≤ i := by omega
      have q2 : i < 13 := by omega
      obtain ⟨c1, c2⟩ := hc i d
      have c1' : (sA (sI u 5 (nI 0)) 6 g).2.1 1 i = nI (c i) := c1
      unfold rwM at ih
      simp (disch := first | assumption | omega) only [↓zm1, z0, z1, z2, z3, z4, z5, z8, z10, z12, z13, z24, z25, z31, z99, z100, z104, z115, z116, z1000, z8192, z10240, nI_leI, nI_ltI, nI_eq, nI_clamp, z_in, z_inl, nI_add, pk_mul, pk_sub, z_pred, z_predm, pk_div, z_em, z_me, z_mlt, z_nmlt, z_mle, z_nmle, z_shl, z_bit1, z_bit0, z_cap, Nat.not_lt_zero, Nat.zero_le, Nat.lt_irrefl, Nat.le_refl, true_implies, false_implies, implies_true, and_true, true_and, not_true_eq_false, not_false_eq_true, and_self, false_and, and_false, if_true, if_false, ite_true, ite_false, reduceCtorEq, Bool.false_eq_true, Bool.true_eq_false, eq_self_iff_true, forall_const, iff_self, q, q2, r_has, zb_0, c1', z_min]
      cases hb : (orR L st (2 ^ n)).testBit i
      · simp (disch := first | assumption | omega) only [hb, ↓zm1, z0, z1, z2, z3, z4, z5, z8, z10, z12, z13, z24, z25, z31, z99, z100, z104, z115, z116, z1000, z8192, z10240, nI_leI, nI_ltI, nI_eq, nI_clamp, z_in, z_inl, nI_add, pk_mul, pk_sub, z_pred, z_predm, pk_div, z_em, z_me, z_mlt, z_nmlt, z_mle, z_nmle, z_shl, z_bit1, z_bit0, z_cap, Nat.not_lt_zero, Nat.zero_le, Nat.lt_irrefl, Nat.le_refl, true_implies, false_implies, implies_true, and_true, true_and, not_true_eq_false, not_false_eq_true, and_self, false_and, and_false, if_true, if_false, ite_true, ite_false, reduceCtorEq, Bool.false_eq_true, Bool.true_eq_false, eq_self_iff_true, forall_const, iff_self] at ih ⊢
        exact ih
      · simp (disch := first | assumption | omega) only [hb, ↓zm1, z0, z1, z2, z3, z4, z5, z8, z10, z12, z13, z24, z25, z31, z99, z100, z104, z115, z116, z1000, z8192, z10240, nI_leI, nI_ltI, nI_eq, nI_clamp, z_in, z_inl, nI_add, pk_mul, pk_sub, z_pred, z_predm, pk_div, z_em, z_me, z_mlt, z_nmlt, z_mle, z_nmle, z_shl, z_bit1, z_bit0, z_cap, Nat.not_lt_zero, Nat.zero_le, Nat.lt_irrefl, Nat.le_refl, true_implies, false_implies, implies_true, and_true, true_and, not_true_eq_false, not_false_eq_true, and_self, false_and, and_false, if_true, if_false, ite_true, ite_false, reduceCtorEq, Bool.false_eq_true, Bool.true_eq_false, eq_self_iff_true, forall_const, iff_self] at ih ⊢
        exact ih
    · subst d
      simp (disch := first | assumption | omega) only [↓zm1, z0, z1, z2, z3, z4, z5, z8, z10, z12, z13, z24, z25, z31, z99, z100, z104, z115, z116, z1000, z8192, z10240, nI_leI, nI_ltI, nI_eq, nI_clamp, z_in, z_inl, nI_add, pk_mul, pk_sub, z_pred, z_predm, pk_div, z_em, z_me, z_mlt, z_nmlt, z_mle, z_nmle, z_shl, z_bit1, z_bit0, z_cap, Nat.not_lt_zero, Nat.zero_le, Nat.lt_irrefl, Nat.le_refl, true_implies, false_implies, implies_true, and_true, true_and, not_true_eq_false, not_false_eq_true, and_self, false_and, and_false, if_true, if_false, ite_true, ite_false, reduceCtorEq, Bool.false_eq_true, Bool.true_eq_false, eq_self_iff_true, forall_const, iff_self]
      exact hP hs g) fu 0 (Nat.zero_le _) (by omega)
  have key := lp (m := 2 ^ n) (Q := fun f i => wp_X4_highest_L30 (sA (sI u 5 (nI 0)) 6 g) (fun (v1_63 : Int32) => (wp_X4_highest_L67 (sA (sI u 5 (nI 0)) 6 g) v1_63 (fun (v2_106 : Int32) => (P v2_106 (sA (sI u 5 (nI 0)) 6 g))) fu (nI 0) (nI 5))) f (nI i) (nI (orR L st i))) (by
    intro f i hi ih
    rw [wp_X4_highest_L30]
    unfold wp_X4_highest_B30 wp_X4_highest_J55
    rw [h0s]
    have hor := orR_lt (n := n) L st hi
    rcases Nat.lt_or_eq_of_le hi with d | d
    · have ih := ih d
      have q : ¬ 2 ^ n ≤ i := by omega
      have q2 : i < 8192 := by omega
      unfold orR at ih
      simp (disch := first | assumption | omega) only [↓zm1, z0, z1, z2, z3, z4, z5, z8, z10, z12, z13, z24, z25, z31, z99, z100, z104, z115, z116, z1000, z8192, z10240, nI_leI, nI_ltI, nI_eq, nI_clamp, z_in, z_inl, nI_add, pk_mul, pk_sub, z_pred, z_predm, pk_div, z_em, z_me, z_mlt, z_nmlt, z_mle, z_nmle, z_shl, z_bit1, z_bit0, z_cap, Nat.not_lt_zero, Nat.zero_le, Nat.lt_irrefl, Nat.le_refl, true_implies, false_implies, implies_true, and_true, true_and, not_true_eq_false, not_false_eq_true, and_self, false_and, and_false, if_true, if_false, ite_true, ite_false, reduceCtorEq, Bool.false_eq_true, Bool.true_eq_false, eq_self_iff_true, forall_const, iff_self, q, q2, sA_eq, hg i d, zb_0, fa_or]
      cases hb : rb L st i
      · simp (disch := first | assumption | omega) only [hb, ↓zm1, z0, z1, z2, z3, z4, z5, z8, z10, z12, z13, z24, z25, z31, z99, z100, z104, z115, z116, z1000, z8192, z10240, nI_leI, nI_ltI, nI_eq, nI_clamp, z_in, z_inl, nI_add, pk_mul, pk_sub, z_pred, z_predm, pk_div, z_em, z_me, z_mlt, z_nmlt, z_mle, z_nmle, z_shl, z_bit1, z_bit0, z_cap, Nat.not_lt_zero, Nat.zero_le, Nat.lt_irrefl, Nat.le_refl, true_implies, false_implies, implies_true, and_true, true_and, not_true_eq_false, not_false_eq_true, and_self, false_and, and_false, if_true, if_false, ite_true, ite_false, reduceCtorEq, Bool.false_eq_true, Bool.true_eq_false, eq_self_iff_true, forall_const, iff_self, Nat.or_zero] at ih ⊢
        exact ih
      · simp (disch := first | assumption | omega) only [hb, ↓zm1, z0, z1, z2, z3, z4, z5, z8, z10, z12, z13, z24, z25, z31, z99, z100, z104, z115, z116, z1000, z8192, z10240, nI_leI, nI_ltI, nI_eq, nI_clamp, z_in, z_inl, nI_add, pk_mul, pk_sub, z_pred, z_predm, pk_div, z_em, z_me, z_mlt, z_nmlt, z_mle, z_nmle, z_shl, z_bit1, z_bit0, z_cap, Nat.not_lt_zero, Nat.zero_le, Nat.lt_irrefl, Nat.le_refl, true_implies, false_implies, implies_true, and_true, true_and, not_true_eq_false, not_false_eq_true, and_self, false_and, and_false, if_true, if_false, ite_true, ite_false, reduceCtorEq, Bool.false_eq_true, Bool.true_eq_false, eq_self_iff_true, forall_const, iff_self] at ih ⊢
        exact ih
    · subst d
      simp (disch := first | assumption | omega) only [↓zm1, z0, z1, z2, z3, z4, z5, z8, z10, z12, z13, z24, z25, z31, z99, z100, z104, z115, z116, z1000, z8192, z10240, nI_leI, nI_ltI, nI_eq, nI_clamp, z_in, z_inl, nI_add, pk_mul, pk_sub, z_pred, z_predm, pk_div, z_em, z_me, z_mlt, z_nmlt, z_mle, z_nmle, z_shl, z_bit1, z_bit0, z_cap, Nat.not_lt_zero, Nat.zero_le, Nat.lt_irrefl, Nat.le_refl, true_implies, false_implies, implies_true, and_true, true_and, not_true_eq_false, not_false_eq_true, and_self, false_and, and_false, if_true, if_false, ite_true, ite_false, reduceCtorEq, Bool.false_eq_true, Bool.true_eq_false, eq_self_iff_true, forall_const, iff_self]
      exact key2) fu 0 (Nat.zero_le _) (by omega)
  exact key
theorem r_meanJumps {u : SX} {L : Ln} {n st fu : Nat} (hR : Rin u L) (hL : Lok n L) (hfu : 20000 ≤ fu) (hst : st < 2 ^ n) (h0 : u.1 0 = nI n) (h2 : u.1 2 = nI st) {P : UInt64 → SX → Prop} (hP : ∀ g : Nat → Int32, vf_n64 (FP.ddiv (FP.i2d (nI (fb_sm (fun q => if rb L st q = true then J L q else 0) (2 ^ n)))) (FP.i2d (nI (fb_ct (rb L st) (2 ^ n))))) ∧ P (FP.ddiv (FP.i2d (nI (fb_sm (fun q => if rb L st q = true then J L q else 0) (2 ^ n)))) (FP.i2d (nI (fb_ct (rb L st) (2 ^ n))))) (sA (sI u 5 0) 6 g)) : wp_X4_meanJumps fu u P := by
  have hn := hL.1
  have h8 := pow_13 hn
  have hm := hL.2.1
  unfold wp_X4_meanJumps
  refine r_reaches (u := sI u 5 0) hR hL hfu hst h0 h2 fun g hg => ?_
  have hRs : Rin (sA (sI u 5 (nI 0)) 6 g) L := hR
  have h0s : (sA (sI u 5 0) 6 g).1 0 = nI n := h0
  have key := lp (m := 2 ^ n) (Q := fun f i => wp_X4_meanJumps_L14 fu (sA (sI u 5 0) 6 g) (fun (v2_51 : Int32) => (vf_n64 (FP.ddiv (FP.i2d v2_51) (FP.i2d (nI (fb_ct (rb L st) (2 ^ n))))) ∧ (P (FP.ddiv (FP.i2d v2_51) (FP.i2d (nI (fb_ct (rb L st) (2 ^ n))))) (sA (sI u 5 0) 6 g)))) f (nI i) (nI (fb_sm (fun q => if rb L st q = true then J L q else 0) i))) (by
    intro f i hi ih
    rw [wp_X4_meanJumps_L14]
    unfold wp_X4_meanJumps_B14 wp_X4_meanJumps_J43
    rw [h0s]
    rcases Nat.lt_or_eq_of_le hi with c | c
    · have ih := ih c
      have q : ¬ 2 ^ n ≤ i := by omega
      have q2 : i < 8192 := by omega
      rw [fb_sm_succ] at ih
      simp (disch := first | assumption | omega) only [↓zm1, z0, z1, z2, z3, z4, z5, z8, z10, z12, z13, z24, z25, z31, z99, z100, z104, z115, z116, z1000, z8192, z10240, nI_leI, nI_ltI, nI_eq, nI_clamp, z_in, z_inl, nI_add, pk_mul, pk_sub, z_pred, z_predm, pk_div, z_em, z_me, z_mlt, z_nmlt, z_mle, z_nmle, z_shl, z_bit1, z_bit0, z_cap, Nat.not_lt_zero, Nat.zero_le, Nat.lt_irrefl, Nat.le_refl, true_implies, false_implies, implies_true, and_true, true_and, not_true_eq_false, not_false_eq_true, and_self, false_and, and_false, if_true, if_false, ite_true, ite_false, reduceCtorEq, Bool.false_eq_true, Bool.true_eq_false, eq_self_iff_true, forall_const, iff_self, q, q2, sA_eq, hg i c, zb_0, r_jumpsOf hRs hL hfu]
      cases hb : rb L st i
      · simp (disch := first | assumption | omega) only [hb, ↓zm1, z0, z1, z2, z3, z4, z5, z8, z10, z12, z13, z24, z25, z31, z99, z100, z104, z115, z116, z1000, z8192, z10240, nI_leI, nI_ltI, nI_eq, nI_clamp, z_in, z_inl, nI_add, pk_mul, pk_sub, z_pred, z_predm, pk_div, z_em, z_me, z_mlt, z_nmlt, z_mle, z_nmle, z_shl, z_bit1, z_bit0, z_cap, Nat.not_lt_zero, Nat.zero_le, Nat.lt_irrefl, Nat.le_refl, true_implies, false_implies, implies_true, and_true, true_and, not_true_eq_false, not_false_eq_true, and_self, false_and, and_false, if_true, if_false, ite_true, ite_false, reduceCtorEq, Bool.false_eq_true, Bool.true_eq_false, eq_self_iff_true, forall_const, iff_self, Nat.add_zero] at ih ⊢
        exact ih
      · simp (disch := first | assumption | omega) only [hb, ↓zm1, z0, z1, z2, z3, z4, z5, z8, z10, z12, z13, z24, z25, z31, z99, z100, z104, z115, z116, z1000, z8192, z10240, nI_leI, nI_ltI, nI_eq, nI_clamp, z_in, z_inl, nI_add, pk_mul, pk_sub, z_pred, z_predm, pk_div, z_em, z_me, z_mlt, z_nmlt, z_mle, z_nmle, z_shl, z_bit1, z_bit0, z_cap, Nat.not_lt_zero, Nat.zero_le, Nat.lt_irrefl, Nat.le_refl, true_implies, false_implies, implies_true, and_true, true_and, not_true_eq_false, not_false_eq_true, and_self, false_and, and_false, if_true, if_false, ite_true, ite_false, reduceCtorEq, Bool.false_eq_true, Bool.true_eq_false, eq_self_iff_true, forall_const, iff_self] at ih ⊢
        exact ih
    · subst c
      simp (disch := first | assumption | omega) only [↓zm1, z0, z1, z2, z3, z4, z5, z8, z10, z12, z13, z24, z25, z31, z99, z100, z104, z115, z116, z1000, z8192, z10240, nI_leI, nI_ltI, nI_eq, nI_clamp, z_in, z_inl, nI_add, pk_mul, pk_sub, z_pred, z_predm, pk_div, z_em, z_me, z_mlt, z_nmlt, z_mle, z_nmle, z_shl, z_bit1, z_bit0, z_cap, Nat.not_lt_zero, Nat.zero_le, Nat.lt_irrefl, Nat.le_refl, true_implies, false_implies, implies_true, and_true, true_and, not_true_eq_false, not_false_eq_true, and_self, false_and, and_false, if_true, if_false, ite_true, ite_false, reduceCtorEq, Bool.false_eq_true, Bool.true_eq_false, eq_self_iff_true, forall_const, iff_self]
      exact hP g) fu 0 (Nat.zero_le _) (by omega)
  exact key
/-! values -/
def ntz (y : Int32) : Int32 :=
  let x := (y ^^^ (-1)) &&& (y - 1)
  if 0 < x then
    let v1 : Int32 := if x ≤ 65536 then 1 else 1 + 16
    let x1 : Int32 := if x ≤ 65536 then x else (x.toUInt32 >>> ((16 : Int32).toUInt32 &&& Int32.toUInt32 31)).toInt32
    let v2 : Int32 := if x1 ≤ 256 then v1 else v1 + 8
    let x2 : Int32 := if x1 ≤ 256 then x1 else (x1.toUInt32 >>> ((8 : Int32).toUInt32 &&& Int32.toUInt32 31)).toInt32
    let v3 : Int32 := if x2 ≤ 16 then v2 else v2 + 4
    let x3 : Int32 := if x2 ≤ 16 then x2 else (x2.toUInt32 >>> ((4 : Int32).toUInt32 &&& Int32.toUInt32 31)).toInt32
    if x3 ≤ 4 then v3 + (x3.toUInt32 >>> ((1 : Int32).toUInt32 &&& Int32.toUInt32 31)).toInt32 else (v3 + 2) + (((x3.toUInt32 >>> ((2 : Int32).toUInt32 &&& Int32.toUInt32 31)).toInt32).toUInt32 >>> ((1 : Int32).toUInt32 &&& Int32.toUInt32 31)).toInt32
  else x &&& 32
theorem r_ntz {y : Int32} {P : Int32 → Prop} (h : P (ntz y)) : wp_J6_numberOfTrailingZeros_0f7a4 y P := by
  unfold wp_J6_numberOfTrailingZeros_0f7a4 wp_J6_numberOfTrailingZeros_0f7a4_J34 wp_J6_numberOfTrailingZeros_0f7a4_J49 wp_J6_numberOfTrailingZeros_0f7a4_J62
  unfold ntz at h
  simp only at h
  revert h
  generalize (y ^^^ (-1)) &&& (y - 1) = x
  intro h
  refine ⟨fun c => ?_, fun c => ?_⟩
  · rw [if_pos c] at h
    refine ⟨fun c1 => ?_, fun c1 => ?_⟩
    · simp only [c1, if_true] at h
      refine ⟨fun c2 => ?_, fun c2 => ?_⟩
      · simp only [c2, if_true] at h
        refine ⟨fun c3 => ?_, fun c3 => ?_⟩
        · simp only [c3, if_true] at h
          exact ⟨fun c4 => by simpa only [c4, if_true] using h, fun c4 => by simpa only [c4, if_false] using h⟩
        · simp only [c3, if_false] at h
          exact ⟨fun c4 => by simpa only [c4, if_true] using h, fun c4 => by simpa only [c4, if_false] using h⟩
      · simp only [c2, if_false] at h
        refine ⟨fun c3 => ?_, fun c3 => ?_⟩
        · simp only [c3, if_true] at h
          exact ⟨fun c4 => by simpa only [c4, if_true] using h, fun c4 => by simpa only [c4, if_false] using h⟩
        · simp only [c3, if_false] at h
          exact ⟨fun c4 => by simpa only [c4, if_true] using h, fun c4 => by simpa only [c4, if_false] using h⟩
    · simp only [c1, if_false] at h
      refine ⟨fun c2 => ?_, fun c2 => ?_⟩
      · simp only [c2, if_true] at h
        refine ⟨fun c3 => ?_, fun c3 => ?_⟩
        · simp only [c3, if_true] at h
          exact ⟨fun c4 => by simpa only [c4, if_true] using h, fun c4 => by simpa only [c4, if_false] using h⟩
        · simp only [c3, if_false] at h
          exact ⟨fun c4 => by simpa only [c4, if_true] using h, fun c4 => by simpa only [c4, if_false] using h⟩
      · simp only [c2, if_false] at h
        refine ⟨fun c3 => ?_, fun c3 => ?_⟩
        · simp only [c3, if_true] at h
          exact ⟨fun c4 => by simpa only [c4, if_true] using h, fun c4 => by simpa only [c4, if_false] using h⟩
        · simp only [c3, if_false] at h
          exact ⟨fun c4 => by simpa only [c4, if_true] using h, fun c4 => by simpa only [c4, if_false] using h⟩
  · rw [if_neg c] at h
    exact h
theorem xor_all {t : Nat} (h : t < 2 ^ 32) : t ^^^ (2 ^ 32 - 1) = 2 ^ 32 - (t + 1) := by
  apply Nat.eq_of_testBit_eq
  intro i
  rw [Nat.testBit_xor, Nat.testBit_two_pow_sub_one, Nat.testBit_two_pow_sub_succ h]
  by_cases hi : i < 32
  · simp only [hi, decide_true, Bool.xor_true, Bool.true_and]
  · rw [tb_lt h (by omega)]
    simp only [hi, decide_false, Bool.xor_false, Bool.false_and]
theorem and_cpl {a m : Nat} (h : a < 2 ^ m) : a &&& (2 ^ m - (a + 1)) = 0 := by
  apply Nat.eq_of_testBit_eq
  intro i
  rw [Nat.testBit_and, Nat.testBit_two_pow_sub_succ h, Nat.zero_testBit]
  cases a.testBit i
  · exact Bool.false_and _
  · simp only [Bool.not_true, Bool.and_false]
theorem low_and {t v : Nat} (hv : v < 31) (ht : t < 2 ^ 31) (h1 : ∀ u, u < v → t.testBit u = true) (h2 : t.testBit v = false) : t &&& (2 ^ 32 - (t + 1) - 1) = 2 ^ v - 1 := by
  have lo : t % 2 ^ (v + 1) = 2 ^ v - 1 := by
    apply Nat.eq_of_testBit_eq
    intro i
    rw [Nat.testBit_mod_two_pow, Nat.testBit_two_pow_sub_one]
    rcases Nat.lt_trichotomy i v with c | c | c
    · rw [h1 i c, Bool.and_true]
      have c2 : i < v + 1 := by omega
      simp only [c, c2]
    · subst c
      rw [h2, Bool.and_false, decide_eq_false (Nat.lt_irrefl _)]
    · rw [decide_eq_false (by omega), decide_eq_false (by omega), Bool.false_and]
  have e := Nat.div_add_mod t (2 ^ (v + 1))
  have p1 : 2 ^ (v + 1) = 2 * 2 ^ v := by rw [Nat.pow_succ, Nat.mul_comm]
  have p2 : 2 ^ 32 = 2 ^ (v + 1) * 2 ^ (31 - v) := by rw [← Nat.pow_add]; congr 1; omega
  have pv := Nat.two_pow_pos v
  generalize hA : t / 2 ^ (v + 1) = A at e
  have hAl : A < 2 ^ (31 - v) := by
    rw [← hA]
    apply Nat.div_lt_of_lt_mul
    rw [← p2]
    omega
  generalize hM : 2 ^ (31 - v) = M at *
  have e2 : 2 ^ 32 - (t + 1) - 1 = 2 ^ (v + 1) * (M - (A + 1)) + (2 ^ v - 1) := by
    obtain ⟨d, rfl⟩ : ∃ d, M = A + 1 + d := ⟨M - (A + 1), by omega⟩
    rw [p2, ← e, lo]
    have : A + 1 + d - (A + 1) = d := by omega
    rw [this]
    rw [Nat.mul_add, Nat.mul_add, Nat.mul_one]
    omega
  have f1 : (2 ^ 32 - (t + 1) - 1) % 2 ^ (v + 1) = 2 ^ v - 1 := by
    rw [e2, Nat.mul_add_mod]
    exact Nat.mod_eq_of_lt (by omega)
  have f2 : (2 ^ 32 - (t + 1) - 1) / 2 ^ (v + 1) = M - (A + 1) := by
    rw [e2, Nat.mul_add_div (by omega), Nat.div_eq_of_lt (by omega), Nat.add_zero]
  rw [an_k t _ (v + 1), lo, f1, f2, hA, Nat.and_self, ← hM, and_cpl (by rw [hM]; exact hAl), Nat.mul_zero, Nat.add_zero]
theorem ntz_pow : ∀ v, v < 14 → (let x : Int32 := nI (2 ^ v - 1)
  if 0 < x then
    let v1 : Int32 := if x ≤ 65536 then 1 else 1 + 16
    let x1 : Int32 := if x ≤ 65536 then x else (x.toUInt32 >>> ((16 : Int32).toUInt32 &&& Int32.toUInt32 31)).toInt32
    let v2 : Int32 := if x1 ≤ 256 then v1 else v1 + 8
    let x2 : Int32 := if x1 ≤ 256 then x1 else (x1.toUInt32 >>> ((8 : Int32).toUInt32 &&& Int32.toUInt32 31)).toInt32
    let v3 : Int32 := if x2 ≤ 16 then v2 else v2 + 4
    let x3 : Int32 := if x2 ≤ 16 then x2 else (x2.toUInt32 >>> ((4 : Int32).toUInt32 &&& Int32.toUInt32 31)).toInt32
    if x3 ≤ 4 then v3 + (x3.toUInt32 >>> ((1 : Int32).toUInt32 &&& Int32.toUInt32 31)).toInt32 else (v3 + 2) + (((x3.toUInt32 >>> ((2 : Int32).toUInt32 &&& Int32.toUInt32 31)).toInt32).toUInt32 >>> ((1 : Int32).toUInt32 &&& Int32.toUInt32 31)).toInt32
  else x &&& 32) = nI v := by decide +kernel
theorem ntz_mex (t : Nat) (ht : t < 8192) : ntz (nI t ^^^ (-1)) = nI (mex (fun v => t.testBit v)) := by
  have a := fa_first_le (fun v => !t.testBit v) 13
  have hlow : ∀ u, u < mex (fun v => t.testBit v) → t.testBit u = true := fun u hu => by
    have := fa_first_no (fun v => !t.testBit v) 13 u hu
    simpa using this
  have hhi : t.testBit (mex (fun v => t.testBit v)) = false := by
    rcases Nat.lt_or_eq_of_le a with c | c
    · have := fa_first_yes (fun v => !t.testBit v) 13 c
      have e : (!t.testBit (mex (fun v => t.testBit v))) = true := this
      simpa using e
    · have e : mex (fun v => t.testBit v) = 13 := c
      rw [e]
      exact tb_lt (n := 13) ht (Nat.le_refl _)
  have a : mex (fun v => t.testBit v) ≤ 13 := a
  revert hlow hhi a
  generalize mex (fun v => t.testBit v) = v
  intro hlow hhi a
  have m1 : (-1 : Int32) = nI (2 ^ 32 - 1) := by decide
  have e1 : nI t ^^^ (-1) = nI (2 ^ 32 - (t + 1)) := by rw [m1, fb_xorI, xor_all (by omega)]
  have e2 : nI (2 ^ 32 - (t + 1)) ^^^ (-1) = nI t := by rw [m1, fb_xorI, ← xor_all (by omega), Nat.xor_assoc, Nat.xor_self, Nat.xor_zero]
  have e3 : nI (2 ^ 32 - (t + 1)) - 1 = nI (2 ^ 32 - (t + 1) - 1) := pk_sub (b := 1) (by omega)
  have e4 : (nI (2 ^ 32 - (t + 1)) ^^^ (-1)) &&& (nI (2 ^ 32 - (t + 1)) - 1) = nI (2 ^ v - 1) := by rw [e2, e3, fa_and, low_and (by omega) (by omega) hlow hhi]
  have := ntz_pow v (by omega)
  rw [e1]
  unfold ntz
  rw [e4]
  exact this
theorem r_value {u : SX} {L : Ln} {n p fu : Nat} (hR : Rin u L) (hL : Lok n L) (hfu : 20000 ≤ fu) (hp : p < 2 ^ n) (hv : ∀ k, k < L.length → can L p k = true → u.2.1 7 (nx L p k) = nI (Gv L (nx L p k))) {P : SX → Prop} (hP : P (sA u 7 (upd (u.2.1 7) p (nI (Gv L p))))) : wp_X4_value fu u (nI p) P := by
  have hn := hL.1
  have h8 := pow_13 hn
  have hm := hL.2.1
  have key := fun (K : Int32 → Prop) (hK : K (nI (tk L p L.length))) => lp (m := L.length) (Q := fun g k => wp_X4_value_L4 u (nI p) K g (nI k) (nI (tk L p k))) (by
    intro g k hk ih
    rw [wp_X4_value_L4]
    unfold wp_X4_value_B4 wp_X4_value_J37
    rw [hR.1]
    rcases Nat.lt_or_eq_of_le hk with c | c
    · have ih := ih c
      have q : ¬ L.length ≤ k := by omega
      unfold tk at ih
      have hx := nx_lt hL c hp
      have hx3 : nx L p k < 8192 := by omega
      simp (disch := first | assumption | omega) only [↓zm1, z0, z1, z2, z3, z4, z5, z8, z10, z12, z13, z24, z25, z31, z99, z100, z104, z115, z116, z1000, z8192, z10240, nI_leI, nI_ltI, nI_eq, nI_clamp, z_in, z_inl, nI_add, pk_mul, pk_sub, z_pred, z_predm, pk_div, z_em, z_me, z_mlt, z_nmlt, z_mle, z_nmle, z_shl, z_bit1, z_bit0, z_cap, Nat.not_lt_zero, Nat.zero_le, Nat.lt_irrefl, Nat.le_refl, true_implies, false_implies, implies_true, and_true, true_and, not_true_eq_false, not_false_eq_true, and_self, false_and, and_false, if_true, if_false, ite_true, ite_false, reduceCtorEq, Bool.false_eq_true, Bool.true_eq_false, eq_self_iff_true, forall_const, iff_self, q, r_can hR hL, c, zb_0, r_behind hR hL c, hx3]
      refine ⟨fun hc => ?_, fun hc => ?_⟩
      · rw [if_neg (by rw [hc]; decide)] at ih; exact ih
      · have hc : can L p k = true := by
          cases h : can L p k
          · exact absurd h hc
          · rfl
        have g1 := Gv_le hL (nx L p k)
        have g2 := can_pc hL c hc
        have g4 := pp_le (p := p) (by omega)
        have g3 : Gv L (nx L p k) < 31 := by omega
        rw [hv k c hc]
        simp (disch := first | assumption | omega) only [↓zm1, z0, z1, z2, z3, z4, z5, z8, z10, z12, z13, z24, z25, z31, z99, z100, z104, z115, z116, z1000, z8192, z10240, nI_leI, nI_ltI, nI_eq, nI_clamp, z_in, z_inl, nI_add, pk_mul, pk_sub, z_pred, z_predm, pk_div, z_em, z_me, z_mlt, z_nmlt, z_mle, z_nmle, z_shl, z_bit1, z_bit0, z_cap, Nat.not_lt_zero, Nat.zero_le, Nat.lt_irrefl, Nat.le_refl, fa_or]
        rw [if_pos hc] at ih
        exact ih
    · subst c
      simp (disch := first | assumption | omega) only [↓zm1, z0, z1, z2, z3, z4, z5, z8, z10, z12, z13, z24, z25, z31, z99, z100, z104, z115, z116, z1000, z8192, z10240, nI_leI, nI_ltI, nI_eq, nI_clamp, z_in, z_inl, nI_add, pk_mul, pk_sub, z_pred, z_predm, pk_div, z_em, z_me, z_mlt, z_nmlt, z_mle, z_nmle, z_shl, z_bit1, z_bit0, z_cap, Nat.not_lt_zero, Nat.zero_le, Nat.lt_irrefl, Nat.le_refl, true_implies, false_implies, implies_true, and_true, true_and, not_true_eq_false, not_false_eq_true, and_self, false_and, and_false, if_true, if_false, ite_true, ite_false, reduceCtorEq, Bool.false_eq_true, Bool.true_eq_false, eq_self_iff_true, forall_const, iff_self]
      exact hK) fu 0 (Nat.zero_le _) (by omega)
  refine key _ ?_
  have q2 : p < 8192 := by omega
  have q3 := tk_lt hL hp L.length (Nat.le_refl _)
  refine r_ntz ⟨(z_in (by omega)).mpr q2, ?_⟩
  rw [nI_clamp (by omega), ntz_mex _ q3, ← Gv_eq hL hp]
  exact hP
theorem r_valueAll {u : SX} {L : Ln} {n fu : Nat} (hR : Rin u L) (hL : Lok n L) (hfu : 20000 ≤ fu) (h0 : u.1 0 = nI n) {P : SX → Prop} (hP : ∀ w : Nat → Int32, (∀ p, p < 2 ^ n → w p = nI (Gv L p)) → P (sA u 7 w)) : wp_X4_valueAll fu u P := by
  have hn := hL.1
  have h8 := pow_13 hn
  have hm := hL.2.1
  have pegs := fun (v : Nat) (K : SX → Prop) => lp (m := 2 ^ n) (Q := fun g i => ∀ w : Nat → Int32, (∀ p, p < 2 ^ n → (pc p < v ∨ (pc p = v ∧ p < i)) → w p = nI (Gv L p)) →
      (∀ w : Nat → Int32, (∀ p, p < 2 ^ n → pc p < v + 1 → w p = nI (Gv L p)) → K (sA u 7 w)) → v ≤ n → wp_X4_valueAll_L12 fu (nI v) K g (nI i) (sA u 7 w)) (by
    intro g i hi ih w hw hK hv
    rw [wp_X4_valueAll_L12]
    unfold wp_X4_valueAll_B12 wp_X4_valueAll_J35
    rw [sA_sc, h0]
    have hRw : Rin (sA u 7 w) L := hR
    rcases Nat.lt_or_eq_of_le hi with c | c
    · have ih := ih c
      have q : ¬ 2 ^ n ≤ i := by omega
      have hpi := pc_le c (by omega)
      simp (disch := first | assumption | omega) only [↓zm1, z0, z1, z2, z3, z4, z5, z8, z10, z12, z13, z24, z25, z31, z99, z100, z104, z115, z116, z1000, z8192, z10240, nI_leI, nI_ltI, nI_eq, nI_clamp, z_in, z_inl, nI_add, pk_mul, pk_sub, z_pred, z_predm, pk_div, z_em, z_me, z_mlt, z_nmlt, z_mle, z_nmle, z_shl, z_bit1, z_bit0, z_cap, Nat.not_lt_zero, Nat.zero_le, Nat.lt_irrefl, Nat.le_refl, true_implies, false_implies, implies_true, and_true, true_and, not_true_eq_false, not_false_eq_true, and_self, false_and, and_false, if_true, if_false, ite_true, ite_false, reduceCtorEq, Bool.false_eq_true, Bool.true_eq_false, eq_self_iff_true, forall_const, iff_self, q, bc_pc]
      refine ⟨fun hv2 => ?_, fun hv2 => ?_⟩
      · refine ih w (fun p hp hpp => hw p hp ?_) hK hv
        rcases hpp with d | ⟨d, d2⟩
        · exact Or.inl d
        · refine Or.inr ⟨d, ?_⟩
          rcases Nat.lt_or_eq_of_le (Nat.lt_succ_iff.mp d2) with d3 | d3
          · exact d3
          · subst d3; exact absurd d hv2
      · refine r_value hRw hL hfu c (fun k hk hc => ?_) ?_
        · have := can_pc hL hk hc
          rw [sA_eq]
          exact hw _ (nx_lt hL hk c) (Or.inl (by omega))
        · rw [sA_eq, sA_sA]
          refine ih _ (fun p hp hpp => ?_) hK hv
          by_cases e : p = i
          · subst e; rw [upd_eq]
          · rw [upd_ne e]
            exact hw p hp (by omega)
    · subst c
      simp (disch := first | assumption | omega) only [↓zm1, z0, z1, z2, z3, z4, z5, z8, z10, z12, z13, z24, z25, z31, z99, z100, z104, z115, z116, z1000, z8192, z10240, nI_leI, nI_ltI, nI_eq, nI_clamp, z_in, z_inl, nI_add, pk_mul, pk_sub, z_pred, z_predm, pk_div, z_em, z_me, z_mlt, z_nmlt, z_mle, z_nmle, z_shl, z_bit1, z_bit0, z_cap, Nat.not_lt_zero, Nat.zero_le, Nat.lt_irrefl, Nat.le_refl, true_implies, false_implies, implies_true, and_true, true_and, not_true_eq_false, not_false_eq_true, and_self, false_and, and_false, if_true, if_false, ite_true, ite_false, reduceCtorEq, Bool.false_eq_true, Bool.true_eq_false, eq_self_iff_true, forall_const, iff_self]
      exact hK w fun p hp hpp => hw p hp (by omega))
  have key := lp (m := n + 1) (Q := fun g v => ∀ w : Nat → Int32, (∀ p, p < 2 ^ n → pc p < v → w p = nI (Gv L p)) → wp_X4_valueAll_L2 fu (fun (s_47 : SX) => (P s_47)) g (nI v) (sA u 7 w)) (by
    intro g v hv ih w hw
    rw [wp_X4_valueAll_L2]
    unfold wp_X4_valueAll_B2
    rw [sA_sc, h0]
    rcases Nat.lt_or_eq_of_le hv with c | c
    · have ih := ih c
      have q : ¬ n < v := by omega
      simp (disch := first | assumption | omega) only [↓zm1, z0, z1, z2, z3, z4, z5, z8, z10, z12, z13, z24, z25, z31, z99, z100, z104, z115, z116, z1000, z8192, z10240, nI_leI, nI_ltI, nI_eq, nI_clamp, z_in, z_inl, nI_add, pk_mul, pk_sub, z_pred, z_predm, pk_div, z_em, z_me, z_mlt, z_nmlt, z_mle, z_nmle, z_shl, z_bit1, z_bit0, z_cap, Nat.not_lt_zero, Nat.zero_le, Nat.lt_irrefl, Nat.le_refl, true_implies, false_implies, implies_true, and_true, true_and, not_true_eq_false, not_false_eq_true, and_self, false_and, and_false, if_true, if_false, ite_true, ite_false, reduceCtorEq, Bool.false_eq_true, Bool.true_eq_false, eq_self_iff_true, forall_const, iff_self, q]
      exact pegs v _ fu 0 (Nat.zero_le _) (by omega) w (fun p hp hpp => hw p hp (by omega)) (fun w' hw' => ih w' hw') (by omega)
    · subst c
      have q : n < n + 1 := by omega
      simp (disch := first | assumption | omega) only [↓zm1, z0, z1, z2, z3, z4, z5, z8, z10, z12, z13, z24, z25, z31, z99, z100, z104, z115, z116, z1000, z8192, z10240, nI_leI, nI_ltI, nI_eq, nI_clamp, z_in, z_inl, nI_add, pk_mul, pk_sub, z_pred, z_predm, pk_div, z_em, z_me, z_mlt, z_nmlt, z_mle, z_nmle, z_shl, z_bit1, z_bit0, z_cap, Nat.not_lt_zero, Nat.zero_le, Nat.lt_irrefl, Nat.le_refl, true_implies, false_implies, implies_true, and_true, true_and, not_true_eq_false, not_false_eq_true, and_self, false_and, and_false, if_true, if_false, ite_true, ite_false, reduceCtorEq, Bool.false_eq_true, Bool.true_eq_false, eq_self_iff_true, forall_const, iff_self, q]
      refine hP w fun p hp => hw p hp ?_
      have := pc_le hp (by omega)
      omega) fu 0 (by omega) (by omega)
  have e : u = sA u 7 (u.2.1 7) := by
    unfold sA
    refine Prod.ext rfl (Prod.ext ?_ rfl)
    funext j
    show u.2.1 j = (bif Nat.beq j 7 then u.2.1 7 else u.2.1 j)
    cases hb : Nat.beq j 7
    · rfl
    · have : j = 7 := Nat.eq_of_beq_eq_true hb
      subst this; rfl
  have := key (u.2.1 7) (fun p _ hp => by omega)
  rw [← e] at this
  exact this
