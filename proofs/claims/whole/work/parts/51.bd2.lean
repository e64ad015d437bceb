/-! ===== the board: cells, masks, lines ===== -/
def kch (kd : Nat) : Nat := if kd = 0 then 115 else if kd = 1 then 116 else 100
def mk (c : Nat → Nat) : Nat → Nat
  | 0 => 0
  | h + 1 => mk c h ||| 2 ^ c h
def ix (c : Nat → Nat) (n x : Nat) : Nat := fb_ct (fun h => decide (c h < x)) n
/-- the cells of n holes, in order -/
def Cok (n : Nat) (c : Nat → Nat) : Prop := n ≤ 13 ∧ (∀ h, h < n → c h < 25) ∧ ∀ i j, i < j → j < n → c i < c j
theorem mk_succ (c : Nat → Nat) (h : Nat) : mk c (h + 1) = mk c h ||| 2 ^ c h := rfl
theorem mk_bit (c : Nat → Nat) (x : Nat) : ∀ n, (mk c n).testBit x = true ↔ ∃ h, h < n ∧ c h = x
  | 0 => ⟨fun h => by rw [mk, Nat.zero_testBit] at h; exact absurd h (by decide), fun ⟨j, hj, _⟩ => by omega⟩
  | n + 1 => by
    have ih := mk_bit c x n
    unfold mk
    rw [Nat.testBit_or, Bool.or_eq_true, ih, Nat.testBit_two_pow, decide_eq_true_iff]
    constructor
    · rintro (⟨j, h1, h2⟩ | h)
      · exact ⟨j, by omega, h2⟩
      · exact ⟨n, by omega, h⟩
    · rintro ⟨j, h1, h2⟩
      rcases Nat.lt_or_eq_of_le (Nat.lt_succ_iff.mp h1) with d | d
      · exact Or.inl ⟨j, d, h2⟩
      · rw [d] at h2; exact Or.inr h2
theorem mk_bit_f {c : Nat → Nat} {x n : Nat} : (mk c n).testBit x = false ↔ ∀ h, h < n → c h ≠ x := by
  rw [← Bool.not_eq_true, mk_bit]
  constructor
  · intro q h hh e; exact q ⟨h, hh, e⟩
  · rintro q ⟨h, hh, e⟩; exact q h hh e
theorem mk_lt {c : Nat → Nat} : ∀ {n : Nat}, (∀ h, h < n → c h < 25) → mk c n < 2 ^ 25
  | 0, _ => (by decide : 0 < 2 ^ 25)
  | n + 1, h => Nat.or_lt_two_pow (mk_lt fun j hj => h j (by omega)) (Nat.pow_lt_pow_right (by decide) (h n (by omega)))
theorem Cok.inj {n : Nat} {c : Nat → Nat} (h : Cok n c) {i j : Nat} (hi : i < n) (hj : j < n) (e : c i = c j) : i = j := by
  rcases Nat.lt_trichotomy i j with d | d | d
  · have := h.2.2 i j d hj; omega
  · exact d
  · have := h.2.2 j i d hi; omega
theorem Cok.le {n : Nat} {c : Nat → Nat} (h : Cok n c) {i j : Nat} (hi : i < n) (hj : j < n) : c i < c j ↔ i < j := by
  constructor
  · intro d
    rcases Nat.lt_trichotomy i j with e | e | e
    · exact e
    · subst e; omega
    · have := h.2.2 j i e hi; omega
  · intro d; exact h.2.2 i j d hj
theorem ct_lt (m : Nat) : ∀ n, fb_ct (fun h => decide (h < m)) n = min m n
  | 0 => (Nat.min_zero m).symm
  | n + 1 => by
    rw [fb_ct_succ, ct_lt m n]
    by_cases h : n < m
    · rw [decide_eq_true h, if_pos rfl]; omega
    · rw [decide_eq_false h]; simp only [Bool.false_eq_true, if_false]; omega
theorem ix_self {n : Nat} {c : Nat → Nat} (h : Cok n c) {i : Nat} (hi : i < n) : ix c n (c i) = i := by
  unfold ix
  rw [fb_ct_cong (q := fun h => decide (h < i)) (fun k hk => by
    apply decide_eq_decide.mpr; exact h.le hk hi), ct_lt]
  omega
theorem ix_succ {n : Nat} {c : Nat → Nat} (h : Cok n c) {i : Nat} (hi : i < n) : ix c n (c i + 1) = i + 1 := by
  unfold ix
  rw [fb_ct_cong (q := fun h => decide (h < i + 1)) (fun k hk => by
    apply decide_eq_decide.mpr
    have a := h.le hk hi
    constructor
    · intro d
      rcases Nat.lt_or_eq_of_le (Nat.lt_succ_iff.mp d) with e | e
      · have := a.mp e; omega
      · have := h.inj hk hi e; omega
    · intro d
      rcases Nat.lt_or_eq_of_le (Nat.lt_succ_iff.mp d) with e | e
      · have := a.mpr e; omega
      · rw [e]; omega), ct_lt]
  omega
theorem ix_no {n : Nat} {c : Nat → Nat} {x : Nat} (hx : (mk c n).testBit x = false) : ix c n (x + 1) = ix c n x := by
  have hx := mk_bit_f.mp hx
  unfold ix
  apply fb_ct_cong
  intro k hk
  apply decide_eq_decide.mpr
  have := hx k hk
  omega
theorem ix_le (c : Nat → Nat) (n x : Nat) : ix c n x ≤ n := fb_ct_le _ _
theorem ix_all {n : Nat} {c : Nat → Nat} (h : Cok n c) {x : Nat} (hx : 25 ≤ x) : ix c n x = n := by
  unfold ix
  exact fb_ct_all.mpr fun k hk => decide_eq_true (by have := h.2.1 k hk; omega)
theorem ix_bit {n : Nat} {c : Nat → Nat} (h : Cok n c) {x : Nat} (hx : (mk c n).testBit x = true) : ix c n x < n ∧ c (ix c n x) = x := by
  obtain ⟨i, hi, e⟩ := (mk_bit c x n).mp hx
  rw [← e, ix_self h hi]
  exact ⟨hi, rfl⟩
theorem pc_ct {x : Nat} (h : x < 2 ^ 32) : pc x = fb_ct (fun i => x.testBit i) 32 := rfl
theorem pc_mk {c : Nat → Nat} (x : Nat) : ∀ n, (∀ h, h < n → c h < 25) → (∀ i j, i < j → j < n → c i < c j) → pc (mk c n &&& (2 ^ x - 1)) = ix c n x
  | 0, _, _ => by
    show pc (0 &&& (2 ^ x - 1)) = 0
    rw [Nat.zero_and]
    decide
  | n + 1, h, h2 => by
    have ih := pc_mk x n (fun j hj => h j (by omega)) (fun i j hi hj => h2 i j hi (by omega))
    have hcn := h n (by omega)
    unfold ix at ih ⊢
    rw [fb_ct_succ, ← ih]
    unfold pc
    have nb : (mk c n).testBit (c n) = false := mk_bit_f.mpr fun j hj e => by have := h2 j n hj (by omega); omega
    have u := fb_ct_upd (fun i => (mk c n &&& (2 ^ x - 1)).testBit i) (decide (c n < x)) (i := c n) (n := 32) (by omega)
    have z : (mk c n &&& (2 ^ x - 1)).testBit (c n) = false := by rw [Nat.testBit_and, nb, Bool.false_and]
    simp only [z, Bool.false_eq_true, if_false, Nat.add_zero] at u
    rw [← u]
    apply fb_ct_cong
    intro i _
    rw [Nat.testBit_and, Nat.testBit_and, mk_succ, Nat.testBit_or, Nat.testBit_two_pow, Nat.testBit_two_pow_sub_one]
    by_cases e : i = c n
    · subst e
      rw [if_pos rfl, decide_eq_true rfl, Bool.or_true, Bool.true_and]
    · rw [if_neg e, decide_eq_false (fun q => e q.symm), Bool.or_false]
/-- the board but its lines -/
def Bb (σ : SX) (n : Nat) (c : Nat → Nat) (kd : Nat) : Prop := σ.1 0 = nI (kch kd) ∧ σ.1 1 = nI (mk c n) ∧ σ.1 2 = nI n ∧ ∀ h, h < n → σ.2.1 1 h = nI (c h)
theorem w_isHole {σ : SX} {m : Nat} (h1 : σ.1 1 = nI m) (hm : m < 2 ^ 31) {x : Nat} (hx : x < 25) {P : Int32 → Prop} : wp_X0_isHole σ (nI x) P ↔ P (zb (m.testBit x)) := by
  unfold wp_X0_isHole
  have q : ¬ 25 ≤ x := by omega
  rw [h1]
  simp (disch := first | assumption | omega) only [↓zm1, z0, z1, z2, z3, z4, z5, z8, z10, z12, z13, z24, z25, z31, z99, z100, z104, z115, z116, z1000, z8192, z10240, nI_leI, nI_ltI, nI_eq, nI_clamp, z_in, z_inl, nI_add, pk_mul, pk_sub, z_pred, z_predm, pk_div, z_em, z_me, z_mlt, z_nmlt, z_mle, z_nmle, z_shl, z_bit1, z_bit0, z_cap, Nat.not_lt_zero, Nat.zero_le, Nat.lt_irrefl, Nat.le_refl, true_implies, false_implies, implies_true, and_true, true_and, not_true_eq_false, not_false_eq_true, and_self, false_and, and_false, if_true, if_false, ite_true, ite_false, reduceCtorEq, Bool.false_eq_true, Bool.true_eq_false, eq_self_iff_true, forall_const, iff_self, q]
  cases m.testBit x
  · simp only [true_implies, false_implies, implies_true, and_true, true_and, not_true_eq_false, not_false_eq_true, and_self, false_and, and_false, if_true, if_false, ite_true, ite_false, reduceCtorEq, Bool.false_eq_true, Bool.true_eq_false, eq_self_iff_true, forall_const, iff_self]; rfl
  · simp only [true_implies, false_implies, implies_true, and_true, true_and, not_true_eq_false, not_false_eq_true, and_self, false_and, and_false, if_true, if_false, ite_true, ite_false, reduceCtorEq, Bool.false_eq_true, Bool.true_eq_false, eq_self_iff_true, forall_const, iff_self]; rfl
theorem w_numberOf {σ : SX} {n : Nat} {c : Nat → Nat} (hC : Cok n c) (h1 : σ.1 1 = nI (mk c n)) {x : Nat} (hx : x < 25) (hb : (mk c n).testBit x = true) {P : Int32 → Prop} : wp_X0_numberOf σ (nI x) P ↔ P (nI (ix c n x)) := by
  have hm := mk_lt (c := c) (n := n) hC.2.1
  have px : 2 ^ x ≤ 2 ^ 24 := Nat.pow_le_pow_right (by decide) (by omega)
  have p0 := Nat.two_pow_pos x
  have ha : mk c n &&& (2 ^ x - 1) ≤ mk c n := Nat.and_le_left
  unfold wp_X0_numberOf
  rw [w_isHole h1 (by omega) hx, hb, h1]
  simp (disch := first | assumption | omega) only [↓zm1, z0, z1, z2, z3, z4, z5, z8, z10, z12, z13, z24, z25, z31, z99, z100, z104, z115, z116, z1000, z8192, z10240, nI_leI, nI_ltI, nI_eq, nI_clamp, z_in, z_inl, nI_add, pk_mul, pk_sub, z_pred, z_predm, pk_div, z_em, z_me, z_mlt, z_nmlt, z_mle, z_nmle, z_shl, z_bit1, z_bit0, z_cap, Nat.not_lt_zero, Nat.zero_le, Nat.lt_irrefl, Nat.le_refl, true_implies, false_implies, implies_true, and_true, true_and, not_true_eq_false, not_false_eq_true, and_self, false_and, and_false, if_true, if_false, ite_true, ite_false, reduceCtorEq, Bool.false_eq_true, Bool.true_eq_false, eq_self_iff_true, forall_const, iff_self, zb_t]
  rw [fa_and, bc_pc (by omega), pc_mk x n hC.2.1 hC.2.2]
/-- two steps in one direction, as the class has it -/
def twI (k a b : Int32) : Bool := if a = 0 ∨ b = 0 then decide (jabs (a + b) = 2) else (decide (jabs a = 2) && (decide (jabs b = 2) && (decide (k = 100) || (decide (k = 116) && decide (a = -b)))))
def two (kd x y : Nat) : Bool := twI (nI (kch kd)) (nI (y / 5) - nI (x / 5)) (nI (y % 5) - nI (x % 5))
theorem w_isTwoSteps {σ : SX} {a b : Int32} {P : Int32 → Prop} : wp_X0_isTwoSteps σ a b P ↔ P (zb (twI (σ.1 0) a b)) := by
  unfold wp_X0_isTwoSteps wp_X0_isTwoSteps_J8 twI
  by_cases ha : a = 0
  · simp only [ha, true_or, if_true, true_implies, false_implies, implies_true, and_true, true_and, not_true_eq_false, not_false_eq_true, and_self, false_and, and_false, if_true, if_false, ite_true, ite_false, reduceCtorEq, Bool.false_eq_true, Bool.true_eq_false, eq_self_iff_true, forall_const, iff_self]
    by_cases h : jabs (0 + b) = 2
    · simp only [h, decide_true, true_implies, false_implies, implies_true, and_true, true_and, not_true_eq_false, not_false_eq_true, and_self, false_and, and_false, if_true, if_false, ite_true, ite_false, reduceCtorEq, Bool.false_eq_true, Bool.true_eq_false, eq_self_iff_true, forall_const, iff_self]; rfl
    · simp only [h, decide_false, true_implies, false_implies, implies_true, and_true, true_and, not_true_eq_false, not_false_eq_true, and_self, false_and, and_false, if_true, if_false, ite_true, ite_false, reduceCtorEq, Bool.false_eq_true, Bool.true_eq_false, eq_self_iff_true, forall_const, iff_self]; rfl
  · by_cases hb : b = 0
    · simp only [ha, hb, or_true, if_true, true_implies, false_implies, implies_true, and_true, true_and, not_true_eq_false, not_false_eq_true, and_self, false_and, and_false, if_true, if_false, ite_true, ite_false, reduceCtorEq, Bool.false_eq_true, Bool.true_eq_false, eq_self_iff_true, forall_const, iff_self]
      by_cases h : jabs (a + 0) = 2
      · simp only [h, decide_true, true_implies, false_implies, implies_true, and_true, true_and, not_true_eq_false, not_false_eq_true, and_self, false_and, and_false, if_true, if_false, ite_true, ite_false, reduceCtorEq, Bool.false_eq_true, Bool.true_eq_false, eq_self_iff_true, forall_const, iff_self]; rfl
      · simp only [h, decide_false, true_implies, false_implies, implies_true, and_true, true_and, not_true_eq_false, not_false_eq_true, and_self, false_and, and_false, if_true, if_false, ite_true, ite_false, reduceCtorEq, Bool.false_eq_true, Bool.true_eq_false, eq_self_iff_true, forall_const, iff_self]; rfl
    · simp only [ha, hb, or_false, if_false, true_implies, false_implies, implies_true, and_true, true_and, not_true_eq_false, not_false_eq_true, and_self, false_and, and_false, if_true, if_false, ite_true, ite_false, reduceCtorEq, Bool.false_eq_true, Bool.true_eq_false, eq_self_iff_true, forall_const, iff_self]
      by_cases h1 : jabs a = 2
      · by_cases h2 : jabs b = 2
        · by_cases h3 : σ.1 0 = 100
          · simp only [h1, h2, h3, decide_true, true_implies, false_implies, implies_true, and_true, true_and, not_true_eq_false, not_false_eq_true, and_self, false_and, and_false, if_true, if_false, ite_true, ite_false, reduceCtorEq, Bool.false_eq_true, Bool.true_eq_false, eq_self_iff_true, forall_const, iff_self, Bool.true_and, Bool.true_or]; rfl
          · by_cases h4 : σ.1 0 = 116
            · by_cases h5 : a = -b
              · simp only [h1, h2, h4, decide_true, decide_false, true_implies, false_implies, implies_true, and_true, true_and, not_true_eq_false, not_false_eq_true, and_self, false_and, and_false, if_true, if_false, ite_true, ite_false, reduceCtorEq, Bool.false_eq_true, Bool.true_eq_false, eq_self_iff_true, forall_const, iff_self, Bool.true_and, Bool.false_or, ← h5]
                have : ¬ (116 : Int32) = 100 := by decide
                simp only [this, decide_false, true_implies, false_implies, implies_true, and_true, true_and, not_true_eq_false, not_false_eq_true, and_self, false_and, and_false, if_true, if_false, ite_true, ite_false, reduceCtorEq, Bool.false_eq_true, Bool.true_eq_false, eq_self_iff_true, forall_const, iff_self, Bool.false_or]
                rfl
              · have : ¬ (116 : Int32) = 100 := by decide
                simp only [h1, h2, h4, h5, this, decide_true, decide_false, true_implies, false_implies, implies_true, and_true, true_and, not_true_eq_false, not_false_eq_true, and_self, false_and, and_false, if_true, if_false, ite_true, ite_false, reduceCtorEq, Bool.false_eq_true, Bool.true_eq_false, eq_self_iff_true, forall_const, iff_self, Bool.true_and, Bool.false_or, Bool.and_false]
                rfl
            · simp only [h1, h2, h3, h4, decide_true, decide_false, true_implies, false_implies, implies_true, and_true, true_and, not_true_eq_false, not_false_eq_true, and_self, false_and, and_false, if_true, if_false, ite_true, ite_false, reduceCtorEq, Bool.false_eq_true, Bool.true_eq_false, eq_self_iff_true, forall_const, iff_self, Bool.true_and, Bool.false_or, Bool.false_and]; rfl
        · simp only [h1, h2, decide_true, decide_false, true_implies, false_implies, implies_true, and_true, true_and, not_true_eq_false, not_false_eq_true, and_self, false_and, and_false, if_true, if_false, ite_true, ite_false, reduceCtorEq, Bool.false_eq_true, Bool.true_eq_false, eq_self_iff_true, forall_const, iff_self, Bool.true_and, Bool.false_and]; rfl
      · simp only [h1, decide_false, true_implies, false_implies, implies_true, and_true, true_and, not_true_eq_false, not_false_eq_true, and_self, false_and, and_false, if_true, if_false, ite_true, ite_false, reduceCtorEq, Bool.false_eq_true, Bool.true_eq_false, eq_self_iff_true, forall_const, iff_self, Bool.false_and]; rfl
theorem z_rem {a d : Nat} (ha : a < 2 ^ 31) (h0 : 0 < d) (hd : d < 2 ^ 31) : nI a - nI (a / d * d) = nI (a % d) := by
  have := pk_rem ha h0 hd
  rwa [pk_div ha h0 hd, pk_mul] at this
theorem w_isLine {σ : SX} {m kd : Nat} (h0 : σ.1 0 = nI (kch kd)) (h1 : σ.1 1 = nI m) (hm : m < 2 ^ 31) {x y : Nat} (hx : x < 25) (hy : y < 25) {P : Int32 → Prop} : wp_X0_isLine σ (nI x) (nI y) P ↔ P (zb (two kd x y && (m.testBit x && (m.testBit ((x + y) / 2) && m.testBit y)))) := by
  unfold wp_X0_isLine
  have e1 : (nI y / 5 - nI x / 5) = nI (y / 5) - nI (x / 5) := by
    show (nI y / nI 5 - nI x / nI 5) = _
    rw [pk_div (by omega) (by decide) (by decide), pk_div (by omega) (by decide) (by decide)]
  have e2 : (nI y - nI y / 5 * 5) = nI (y % 5) := pk_rem (d := 5) (by omega) (by decide) (by decide)
  have e3 : (nI x - nI x / 5 * 5) = nI (x % 5) := pk_rem (d := 5) (by omega) (by decide) (by decide)
  have e4 : (nI x + nI y) / 2 = nI ((x + y) / 2) := by
    rw [nI_add]
    exact pk_div (d := 2) (by omega) (by decide) (by decide)
  rw [w_isTwoSteps, h0, e1, e2, e3, e4]
  show ((zb (two kd x y) = nI 0 → P 0) ∧ (¬ zb (two kd x y) = nI 0 → _)) ↔ _
  cases two kd x y
  · simp only [zb_0, true_implies, false_implies, implies_true, and_true, true_and, not_true_eq_false, not_false_eq_true, and_self, false_and, and_false, if_true, if_false, ite_true, ite_false, reduceCtorEq, Bool.false_eq_true, Bool.true_eq_false, eq_self_iff_true, forall_const, iff_self, Bool.false_and]; rfl
  · simp only [zb_0, true_implies, false_implies, implies_true, and_true, true_and, not_true_eq_false, not_false_eq_true, and_self, false_and, and_false, if_true, if_false, ite_true, ite_false, reduceCtorEq, Bool.false_eq_true, Bool.true_eq_false, eq_self_iff_true, forall_const, iff_self, Bool.true_and]
    rw [w_isHole h1 hm hx]
    show ((zb (m.testBit x) = nI 0 → P 0) ∧ (¬ zb (m.testBit x) = nI 0 → _)) ↔ _
    cases m.testBit x
    · simp only [zb_0, true_implies, false_implies, implies_true, and_true, true_and, not_true_eq_false, not_false_eq_true, and_self, false_and, and_false, if_true, if_false, ite_true, ite_false, reduceCtorEq, Bool.false_eq_true, Bool.true_eq_false, eq_self_iff_true, forall_const, iff_self, Bool.false_and]; rfl
    · simp only [zb_0, true_implies, false_implies, implies_true, and_true, true_and, not_true_eq_false, not_false_eq_true, and_self, false_and, and_false, if_true, if_false, ite_true, ite_false, reduceCtorEq, Bool.false_eq_true, Bool.true_eq_false, eq_self_iff_true, forall_const, iff_self, Bool.true_and]
      rw [w_isHole h1 hm (by omega)]
      show ((zb (m.testBit ((x + y) / 2)) = nI 0 → P 0) ∧ (¬ zb (m.testBit ((x + y) / 2)) = nI 0 → _)) ↔ _
      cases m.testBit ((x + y) / 2)
      · simp only [zb_0, true_implies, false_implies, implies_true, and_true, true_and, not_true_eq_false, not_false_eq_true, and_self, false_and, and_false, if_true, if_false, ite_true, ite_false, reduceCtorEq, Bool.false_eq_true, Bool.true_eq_false, eq_self_iff_true, forall_const, iff_self, Bool.false_and]; rfl
      · simp only [zb_0, true_implies, false_implies, implies_true, and_true, true_and, not_true_eq_false, not_false_eq_true, and_self, false_and, and_false, if_true, if_false, ite_true, ite_false, reduceCtorEq, Bool.false_eq_true, Bool.true_eq_false, eq_self_iff_true, forall_const, iff_self, Bool.true_and]
        rw [w_isHole h1 hm hy]
        show ((zb (m.testBit y) = nI 0 → P 0) ∧ (¬ zb (m.testBit y) = nI 0 → P 1)) ↔ _
        cases m.testBit y
        · simp only [zb_0, true_implies, false_implies, implies_true, and_true, true_and, not_true_eq_false, not_false_eq_true, and_self, false_and, and_false, if_true, if_false, ite_true, ite_false, reduceCtorEq, Bool.false_eq_true, Bool.true_eq_false, eq_self_iff_true, forall_const, iff_self]; rfl
        · simp only [zb_0, true_implies, false_implies, implies_true, and_true, true_and, not_true_eq_false, not_false_eq_true, and_self, false_and, and_false, if_true, if_false, ite_true, ite_false, reduceCtorEq, Bool.false_eq_true, Bool.true_eq_false, eq_self_iff_true, forall_const, iff_self]; rfl
