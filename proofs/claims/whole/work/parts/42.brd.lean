/-! ===== lines, positions ===== -/
abbrev Ln : Type := List (Nat × Nat × Nat)
def lF (L : Ln) (k : Nat) : Nat := (L.getD k (0, 0, 0)).1
def lO (L : Ln) (k : Nat) : Nat := (L.getD k (0, 0, 0)).2.1
def lT (L : Ln) (k : Nat) : Nat := (L.getD k (0, 0, 0)).2.2
def can (L : Ln) (p k : Nat) : Bool := p.testBit (lF L k) && p.testBit (lO L k) && !p.testBit (lT L k)
def pr (L : Ln) (k : Nat) : Nat := 2 ^ lF L k ||| 2 ^ lO L k
def sp (L : Ln) (k : Nat) : Nat := pr L k ||| 2 ^ lT L k
def nx (L : Ln) (p k : Nat) : Nat := p ^^^ sp L k
def Lok (n : Nat) (L : Ln) : Prop := n ≤ 13 ∧ L.length ≤ 104 ∧ (∀ k, k < L.length → lF L k < n ∧ lO L k < n ∧ lT L k < n ∧ lF L k ≠ lO L k ∧ lF L k ≠ lT L k ∧ lO L k ≠ lT L k) ∧ ∀ j k, j < L.length → k < L.length → lF L j = lF L k → lT L j = lT L k → j = k
theorem pow_13 {n : Nat} (h : n ≤ 13) : 2 ^ n ≤ 8192 := Nat.pow_le_pow_right (n := 2) (by decide) h
theorem tb_lt {p n i : Nat} (hp : p < 2 ^ n) (hi : n ≤ i) : p.testBit i = false := Nat.testBit_lt_two_pow (Nat.lt_of_lt_of_le hp (Nat.pow_le_pow_right (by decide) hi))
theorem tb_inv {p n i : Nat} (hp : p < 2 ^ n) (h : p.testBit i = true) : i < n := Nat.lt_of_not_le fun q => by rw [tb_lt hp q] at h; cases h
theorem pr_bit (L : Ln) (k i : Nat) : (pr L k).testBit i = (decide (lF L k = i) || decide (lO L k = i)) := by
  unfold pr
  rw [Nat.testBit_or, Nat.testBit_two_pow, Nat.testBit_two_pow]
theorem sp_bit (L : Ln) (k i : Nat) : (sp L k).testBit i = (decide (lF L k = i) || decide (lO L k = i) || decide (lT L k = i)) := by
  unfold sp
  rw [Nat.testBit_or, pr_bit, Nat.testBit_two_pow]
theorem can_iff {n : Nat} {L : Ln} (hL : Lok n L) {p k : Nat} (hk : k < L.length) : p &&& sp L k = pr L k ↔ can L p k = true := by
  obtain ⟨-, -, h, -⟩ := hL
  obtain ⟨-, -, -, d1, d2, d3⟩ := h k hk
  unfold can
  constructor
  · intro e
    have t : ∀ i, (p &&& sp L k).testBit i = (pr L k).testBit i := fun i => by rw [e]
    have t1 := t (lF L k)
    have t2 := t (lO L k)
    have t3 := t (lT L k)
    rw [Nat.testBit_and, sp_bit, pr_bit] at t1 t2 t3
    simp [d1, d2, d3, d1.symm, d2.symm, d3.symm] at t1 t2 t3
    simp [t1, t2, t3]
  · intro e
    simp only [Bool.and_eq_true, Bool.not_eq_true'] at e
    obtain ⟨⟨e1, e2⟩, e3⟩ := e
    apply Nat.eq_of_testBit_eq
    intro i
    rw [Nat.testBit_and, sp_bit, pr_bit]
    by_cases h1 : lF L k = i
    · subst h1; simp [e1]
    · by_cases h2 : lO L k = i
      · subst h2; simp [e2]
      · by_cases h3 : lT L k = i
        · subst h3; simp [e3, h1, h2]
        · simp [h1, h2, h3]
theorem nx_bit {L : Ln} {p k : Nat} (hc : can L p k = true) (i : Nat) : (nx L p k).testBit i = if i = lF L k then false else if i = lO L k then false else if i = lT L k then true else p.testBit i := by
  unfold can at hc
  simp only [Bool.and_eq_true, Bool.not_eq_true'] at hc
  obtain ⟨⟨e1, e2⟩, e3⟩ := hc
  unfold nx
  rw [Nat.testBit_xor, sp_bit]
  by_cases h1 : i = lF L k
  · subst h1; simp [e1]
  · rw [if_neg h1]
    by_cases h2 : i = lO L k
    · subst h2; simp [e2]
    · rw [if_neg h2]
      by_cases h3 : i = lT L k
      · subst h3; simp [e3]
      · rw [if_neg h3]
        simp [Ne.symm h1, Ne.symm h2, Ne.symm h3, eq_comm, h1, h2, h3]
theorem nx_lt {n : Nat} {L : Ln} (hL : Lok n L) {p k : Nat} (hk : k < L.length) (hp : p < 2 ^ n) : nx L p k < 2 ^ n := by
  obtain ⟨-, -, h, -⟩ := hL
  obtain ⟨a1, a2, a3, -⟩ := h k hk
  apply Nat.lt_pow_two_of_testBit
  intro i hi
  unfold nx
  rw [Nat.testBit_xor, sp_bit, tb_lt hp hi]
  have b1 : ¬ lF L k = i := by omega
  have b2 : ¬ lO L k = i := by omega
  have b3 : ¬ lT L k = i := by omega
  simp [b1, b2, b3]
theorem nx_pc {n : Nat} {L : Ln} (hL : Lok n L) {p k : Nat} (hk : k < L.length) (hc : can L p k = true) : pc (nx L p k) + 1 = pc p := by
  obtain ⟨hn, -, h, -⟩ := hL
  obtain ⟨a1, a2, a3, d1, d2, d3⟩ := h k hk
  have hb := nx_bit hc
  unfold can at hc
  simp only [Bool.and_eq_true, Bool.not_eq_true'] at hc
  obtain ⟨⟨e1, e2⟩, e3⟩ := hc
  unfold pc
  have q1 := fb_ct_upd (fun i => p.testBit i) true (i := lT L k) (n := 32) (by omega)
  have q2 := fb_ct_upd (fun i => if i = lT L k then true else p.testBit i) false (i := lO L k) (n := 32) (by omega)
  have q3 := fb_ct_upd (fun i => if i = lO L k then false else if i = lT L k then true else p.testBit i) false (i := lF L k) (n := 32) (by omega)
  have e : fb_ct (fun i => (nx L p k).testBit i) 32 = fb_ct (fun i => if i = lF L k then false else if i = lO L k then false else if i = lT L k then true else p.testBit i) 32 := fb_ct_cong fun i _ => hb i
  rw [e]
  simp only [e3, Bool.false_eq_true, if_false, if_true] at q1
  simp only [if_neg d3, e2, Bool.false_eq_true, if_false, if_true] at q2
  simp only [if_neg d1, if_neg d2, e1, Bool.false_eq_true, if_false, if_true] at q3
  omega
theorem pc_le {n p : Nat} (hp : p < 2 ^ n) (hn : n ≤ 32) : pc p ≤ n := by
  unfold pc
  obtain ⟨d, hd⟩ : ∃ d, 32 = n + d := ⟨32 - n, by omega⟩
  rw [hd, fb_ct_split]
  have z : fb_ct (fun k => p.testBit (n + k)) d = 0 := fb_ct_zero.mpr fun k _ => tb_lt hp (by omega)
  have := fb_ct_le (fun i => p.testBit i) n
  omega
theorem pc_0 : pc 0 = 0 := by decide
theorem pc_pos {p : Nat} (hp : p < 2 ^ 32) : 0 < pc p ↔ p ≠ 0 := by
  constructor
  · intro h e
    rw [e, pc_0] at h
    omega
  · intro h
    unfold pc
    rw [fb_ct_pos]
    refine Classical.byContradiction fun q => h ?_
    apply Nat.eq_of_testBit_eq
    intro i
    rw [Nat.zero_testBit]
    by_cases hi : i < 32
    · cases hb : p.testBit i
      · rfl
      · exact absurd ⟨i, hi, hb⟩ q
    · exact tb_lt hp (by omega)
/-! ===== the class's lines ===== -/
def Lin (σ : SX) (L : Ln) : Prop := σ.1 3 = nI L.length ∧ σ.1 4 = nI L.length ∧ σ.1 5 = nI L.length ∧ σ.1 6 = nI L.length ∧ ∀ k, k < L.length → σ.2.1 2 k = nI (lF L k * 100 + lT L k) ∧ σ.2.1 3 k = nI (lO L k) ∧ σ.2.1 4 k = nI (pr L k) ∧ σ.2.1 5 k = nI (sp L k)
theorem w_at {cap n i : Nat} {f : Nat → Int32} {P : Int32 → Prop} (hi : i < n) (hn : n ≤ cap) (hc : cap < 2 ^ 31) : wp_X1_at cap f (nI n) (nI i) P ↔ P (f i) := by
  unfold wp_X1_at
  have q1 : ¬ n ≤ i := by omega
  have q2 : ¬ cap ≤ i := by omega
  have q3 : i < cap := by omega
  simp (disch := first | assumption | omega) only [↓zm1, z0, z1, z2, z3, z4, z5, z8, z10, z12, z13, z24, z25, z31, z99, z100, z104, z115, z116, z1000, z8192, z10240, nI_leI, nI_ltI, nI_eq, nI_clamp, z_in, z_inl, nI_add, pk_mul, pk_sub, z_pred, z_predm, pk_div, z_em, z_me, z_mlt, z_nmlt, z_mle, z_nmle, z_shl, z_bit1, z_bit0, z_cap, Nat.not_lt_zero, Nat.zero_le, Nat.lt_irrefl, Nat.le_refl, true_implies, false_implies, implies_true, and_true, true_and, not_true_eq_false, not_false_eq_true, and_self, false_and, and_false, if_true, if_false, ite_true, ite_false, reduceCtorEq, Bool.false_eq_true, Bool.true_eq_false, eq_self_iff_true, forall_const, iff_self, q1, q2, q3]
theorem w_at_out {cap n i : Nat} {f : Nat → Int32} {P : Int32 → Prop} (hi : n ≤ i) (hb : i < 2 ^ 31) (hn : n < 2 ^ 31) : wp_X1_at cap f (nI n) (nI i) P ↔ P mI := by
  unfold wp_X1_at
  simp (disch := first | assumption | omega) only [↓zm1, z0, z1, z2, z3, z4, z5, z8, z10, z12, z13, z24, z25, z31, z99, z100, z104, z115, z116, z1000, z8192, z10240, nI_leI, nI_ltI, nI_eq, nI_clamp, z_in, z_inl, nI_add, pk_mul, pk_sub, z_pred, z_predm, pk_div, z_em, z_me, z_mlt, z_nmlt, z_mle, z_nmle, z_shl, z_bit1, z_bit0, z_cap, Nat.not_lt_zero, Nat.zero_le, Nat.lt_irrefl, Nat.le_refl, true_implies, false_implies, implies_true, and_true, true_and, not_true_eq_false, not_false_eq_true, and_self, false_and, and_false, if_true, if_false, ite_true, ite_false, reduceCtorEq, Bool.false_eq_true, Bool.true_eq_false, eq_self_iff_true, forall_const, iff_self, hi]
theorem w_at_neg {cap : Nat} {n : Int32} {f : Nat → Int32} {P : Int32 → Prop} : wp_X1_at cap f n mI P ↔ P mI := by
  unfold wp_X1_at
  have : mI < 0 := by decide
  simp only [this, zm1, true_implies, not_true_eq_false, false_implies, and_true]
theorem w_add {cap n : Nat} {f : Nat → Int32} {x : Int32} {P : (Nat → Int32) → Int32 → Prop} (hn : n < cap) (hc : cap < 2 ^ 31) : wp_X1_add cap f (nI n) x P ↔ P (upd f n x) (nI (n + 1)) := by
  unfold wp_X1_add
  have q2 : ¬ cap ≤ n := by omega
  simp (disch := first | assumption | omega) only [↓zm1, z0, z1, z2, z3, z4, z5, z8, z10, z12, z13, z24, z25, z31, z99, z100, z104, z115, z116, z1000, z8192, z10240, nI_leI, nI_ltI, nI_eq, nI_clamp, z_in, z_inl, nI_add, pk_mul, pk_sub, z_pred, z_predm, pk_div, z_em, z_me, z_mlt, z_nmlt, z_mle, z_nmle, z_shl, z_bit1, z_bit0, z_cap, Nat.not_lt_zero, Nat.zero_le, Nat.lt_irrefl, Nat.le_refl, true_implies, false_implies, implies_true, and_true, true_and, not_true_eq_false, not_false_eq_true, and_self, false_and, and_false, if_true, if_false, ite_true, ite_false, reduceCtorEq, Bool.false_eq_true, Bool.true_eq_false, eq_self_iff_true, forall_const, iff_self, q2, hn]
theorem sp_lt {n : Nat} {L : Ln} (hL : Lok n L) {k : Nat} (hk : k < L.length) : sp L k < 8192 ∧ pr L k < 8192 := by
  obtain ⟨hn, -, h, -⟩ := hL
  obtain ⟨a1, a2, a3, -⟩ := h k hk
  constructor
  · apply Nat.lt_pow_two_of_testBit (n := 13)
    intro i hi
    rw [sp_bit]
    have b1 : ¬ lF L k = i := by omega
    have b2 : ¬ lO L k = i := by omega
    have b3 : ¬ lT L k = i := by omega
    simp [b1, b2, b3]
  · apply Nat.lt_pow_two_of_testBit (n := 13)
    intro i hi
    rw [pr_bit]
    have b1 : ¬ lF L k = i := by omega
    have b2 : ¬ lO L k = i := by omega
    simp [b1, b2]
theorem w_lineCount {σ : SX} {L : Ln} (hl : Lin σ L) {P : Int32 → Prop} : wp_X0_lineCount σ P ↔ P (nI L.length) := by
  unfold wp_X0_lineCount wp_X1_size
  rw [hl.1]
theorem w_behind {σ : SX} {L : Ln} {n : Nat} (hl : Lin σ L) (hL : Lok n L) {p k : Nat} (hp : p < 2 ^ 31) (hk : k < L.length) {P : Int32 → Prop} : wp_X0_behind σ (nI p) (nI k) P ↔ P (if can L p k = true then nI (nx L p k) else mI) := by
  obtain ⟨l3, l4, l5, l6, hr⟩ := hl
  obtain ⟨r2, r3, r4, r5⟩ := hr k hk
  have hs := sp_lt hL hk
  have hc := can_iff hL (p := p) hk
  have hl := hL.2.1
  unfold wp_X0_behind
  rw [l6, l5]
  simp (disch := first | assumption | omega) only [w_at, r5, r4, zm1, z_em, true_implies, false_implies, implies_true, and_true, true_and, not_true_eq_false, not_false_eq_true, and_self, false_and, and_false, if_true, if_false, ite_true, ite_false, reduceCtorEq, Bool.false_eq_true, Bool.true_eq_false, eq_self_iff_true, forall_const, iff_self, fa_and]
  have ha : p &&& sp L k < 2 ^ 31 := Nat.lt_of_le_of_lt Nat.and_le_left hp
  rw [nI_eq ha (by omega), hc, fb_xorI]
  cases hq : can L p k
  · simp
  · simp [nx]
theorem w_behind_mI {σ : SX} {p : Int32} {P : Int32 → Prop} : wp_X0_behind σ p mI P ↔ P mI := by
  unfold wp_X0_behind
  simp only [w_at_neg, zm1, true_implies, false_implies, implies_true, and_true, true_and, not_true_eq_false, not_false_eq_true, and_self, false_and, and_false, if_true, if_false, ite_true, ite_false, reduceCtorEq, Bool.false_eq_true, Bool.true_eq_false, eq_self_iff_true, forall_const, iff_self]
theorem w_ahead {σ : SX} {L : Ln} {n : Nat} (hl : Lin σ L) (hL : Lok n L) {p k : Nat} (hk : k < L.length) {P : Int32 → Prop} : wp_X0_ahead σ (nI p) (nI k) P ↔ P (nI (nx L p k)) := by
  obtain ⟨l3, l4, l5, l6, hr⟩ := hl
  obtain ⟨r2, r3, r4, r5⟩ := hr k hk
  have hs := sp_lt hL hk
  have hl := hL.2.1
  unfold wp_X0_ahead
  rw [l6]
  simp (disch := first | assumption | omega) only [w_at, r5, zm1, z_em, true_implies, false_implies, implies_true, and_true, true_and, not_true_eq_false, not_false_eq_true, and_self, false_and, and_false, if_true, if_false, ite_true, ite_false, reduceCtorEq, Bool.false_eq_true, Bool.true_eq_false, eq_self_iff_true, forall_const, iff_self, fb_xorI]
  rfl
theorem w_codeOf {σ : SX} {L : Ln} {n : Nat} (hl : Lin σ L) (hL : Lok n L) {k : Nat} (hk : k < L.length) {P : Int32 → Prop} : wp_X0_codeOf σ (nI k) P ↔ P (nI (lF L k * 100 + lT L k)) := by
  obtain ⟨l3, l4, l5, l6, hr⟩ := hl
  obtain ⟨r2, r3, r4, r5⟩ := hr k hk
  have hl := hL.2.1
  unfold wp_X0_codeOf
  rw [l3]
  simp (disch := first | assumption | omega) only [w_at, r2]
theorem w_countJumps {σ : SX} {L : Ln} {n fu : Nat} (hl : Lin σ L) (hL : Lok n L) (hfu : 20000 ≤ fu) {p : Nat} (hp : p < 2 ^ 31) {P : Int32 → Prop} : wp_X0_countJumps fu σ (nI p) P ↔ P (nI (fb_ct (can L p) L.length)) := by
  have hm := hL.2.1
  have key := lp (m := L.length) (Q := fun f i => (wp_X0_countJumps_L4 σ (nI p) (fun v => P v) f (nI i) (nI (fb_ct (can L p) i)) ↔ P (nI (fb_ct (can L p) L.length)))) (by
    intro f i hi ih
    have hc := fb_ct_le (can L p) i
    rw [wp_X0_countJumps_L4]
    unfold wp_X0_countJumps_B4 wp_X0_countJumps_J28 wp_X1_size
    rw [hl.1]
    rcases Nat.lt_or_eq_of_le hi with h | h
    · have ih := ih h
      have q : ¬ L.length ≤ i := by omega
      simp (disch := first | assumption | omega) only [↓zm1, z0, z1, z2, z3, z4, z5, z8, z10, z12, z13, z24, z25, z31, z99, z100, z104, z115, z116, z1000, z8192, z10240, nI_leI, nI_ltI, nI_eq, nI_clamp, z_in, z_inl, nI_add, pk_mul, pk_sub, z_pred, z_predm, pk_div, z_em, z_me, z_mlt, z_nmlt, z_mle, z_nmle, z_shl, z_bit1, z_bit0, z_cap, Nat.not_lt_zero, Nat.zero_le, Nat.lt_irrefl, Nat.le_refl, true_implies, false_implies, implies_true, and_true, true_and, not_true_eq_false, not_false_eq_true, and_self, false_and, and_false, if_true, if_false, ite_true, ite_false, reduceCtorEq, Bool.false_eq_true, Bool.true_eq_false, eq_self_iff_true, forall_const, iff_self, q, w_behind hl hL hp h]
      rw [fb_ct_succ] at ih
      cases hq : can L p i
      · simp (disch := first | assumption | omega) only [hq, ↓zm1, z0, z1, z2, z3, z4, z5, z8, z10, z12, z13, z24, z25, z31, z99, z100, z104, z115, z116, z1000, z8192, z10240, nI_leI, nI_ltI, nI_eq, nI_clamp, z_in, z_inl, nI_add, pk_mul, pk_sub, z_pred, z_predm, pk_div, z_em, z_me, z_mlt, z_nmlt, z_mle, z_nmle, z_shl, z_bit1, z_bit0, z_cap, Nat.not_lt_zero, Nat.zero_le, Nat.lt_irrefl, Nat.le_refl, true_implies, false_implies, implies_true, and_true, true_and, not_true_eq_false, not_false_eq_true, and_self, false_and, and_false, if_true, if_false, ite_true, ite_false, reduceCtorEq, Bool.false_eq_true, Bool.true_eq_false, eq_self_iff_true, forall_const, iff_self] at ih ⊢
        exact ih
      · have hx := nx_lt hL (p := p) (k := i) h
        have hx2 : nx L p i < 2 ^ 31 := by
          have := sp_lt hL h
          exact Nat.xor_lt_two_pow hp (by omega)
        simp (disch := first | assumption | omega) only [hq, ↓zm1, z0, z1, z2, z3, z4, z5, z8, z10, z12, z13, z24, z25, z31, z99, z100, z104, z115, z116, z1000, z8192, z10240, nI_leI, nI_ltI, nI_eq, nI_clamp, z_in, z_inl, nI_add, pk_mul, pk_sub, z_pred, z_predm, pk_div, z_em, z_me, z_mlt, z_nmlt, z_mle, z_nmle, z_shl, z_bit1, z_bit0, z_cap, Nat.not_lt_zero, Nat.zero_le, Nat.lt_irrefl, Nat.le_refl, true_implies, false_implies, implies_true, and_true, true_and, not_true_eq_false, not_false_eq_true, and_self, false_and, and_false, if_true, if_false, ite_true, ite_false, reduceCtorEq, Bool.false_eq_true, Bool.true_eq_false, eq_self_iff_true, forall_const, iff_self] at ih ⊢
        exact ih
    · subst h
      simp (disch := first | assumption | omega) only [↓zm1, z0, z1, z2, z3, z4, z5, z8, z10, z12, z13, z24, z25, z31, z99, z100, z104, z115, z116, z1000, z8192, z10240, nI_leI, nI_ltI, nI_eq, nI_clamp, z_in, z_inl, nI_add, pk_mul, pk_sub, z_pred, z_predm, pk_div, z_em, z_me, z_mlt, z_nmlt, z_mle, z_nmle, z_shl, z_bit1, z_bit0, z_cap, Nat.not_lt_zero, Nat.zero_le, Nat.lt_irrefl, Nat.le_refl, true_implies, false_implies, implies_true, and_true, true_and, not_true_eq_false, not_false_eq_true, and_self, false_and, and_false, if_true, if_false, ite_true, ite_false, reduceCtorEq, Bool.false_eq_true, Bool.true_eq_false, eq_self_iff_true, forall_const, iff_self]) fu 0 (by omega) (by omega)
  exact key
