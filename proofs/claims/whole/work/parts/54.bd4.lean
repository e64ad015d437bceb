/-! ===== colours ===== -/
def colI (y t : Int32) : Int32 := if t = 0 then ((y / 5) + (y - y / 5 * 5)) - ((y / 5) + (y - y / 5 * 5)) / 3 * 3 else (((y / 5) + 5) - (y - y / 5 * 5)) - (((y / 5) + 5) - (y - y / 5 * 5)) / 3 * 3
def col (x t : Nat) : Nat := if t = 0 then (x / 5 + x % 5) % 3 else (x / 5 + 5 - x % 5) % 3
theorem colI_col : ∀ x, x < 25 → ∀ t, t < 2 → colI (nI x) (nI t) = nI (col x t) := by decide +kernel
theorem col_lt (x t : Nat) : col x t < 3 := by
  unfold col
  split <;> omega
theorem w_colourOf {σ : SX} {n kd : Nat} {c : Nat → Nat} (hC : Cok n c) (hB : Bb σ n c kd) {h t : Nat} (hh : h < n) (ht : t < 2) {P : Int32 → Prop} : wp_X0_colourOf σ (nI h) (nI t) P ↔ P (nI (col (c h) t)) := by
  have hn := hC.1
  obtain ⟨b0, b1, b2, b3⟩ := hB
  unfold wp_X0_colourOf
  rw [b2, w_at hh (by omega) (by omega), w_at hh (by omega) (by omega), b3 h hh, ← colI_col _ (hC.2.1 h hh) t ht]
  unfold colI
  by_cases e : nI t = 0
  · simp only [e, if_true, not_true_eq_false, false_implies, true_implies, true_and]
  · simp only [e, if_false, not_false_eq_true, false_implies, true_implies, and_true]
def ctC (c : Nat → Nat) (n p x t : Nat) : Nat := fb_ct (fun h => p.testBit h && decide (col (c h) t = x)) n
theorem w_countColour {σ : SX} {n kd fu : Nat} {c : Nat → Nat} (hC : Cok n c) (hB : Bb σ n c kd) (hfu : 20000 ≤ fu) {p x t : Nat} (hp : p < 2 ^ 31) (hx : x < 3) (ht : t < 2) {P : Int32 → Prop} (hP : P (nI (ctC c n p x t))) : wp_X0_countColour fu σ (nI p) (nI x) (nI t) P := by
  have hn := hC.1
  have key := lp (m := n) (Q := fun f i => wp_X0_countColour_L6 σ (nI p) (nI x) (nI t) P f (nI i) (nI (fb_ct (fun h => p.testBit h && decide (col (c h) t = x)) i))) (by
    intro f i hi ih
    rw [wp_X0_countColour_L6]
    unfold wp_X0_countColour_B6 wp_X0_countColour_J42 wp_X1_size
    rw [hB.2.2.1]
    rcases Nat.lt_or_eq_of_le hi with d | d
    · have ih := ih d
      have q : ¬ n ≤ i := by omega
      have hcl := col_lt (c i) t
      rw [fb_ct_succ] at ih
      simp (disch := first | assumption | omega) only [↓zm1, z0, z1, z2, z3, z4, z5, z8, z10, z12, z13, z24, z25, z31, z99, z100, z104, z115, z116, z1000, z8192, z10240, nI_leI, nI_ltI, nI_eq, nI_clamp, z_in, z_inl, nI_add, pk_mul, pk_sub, z_pred, z_predm, pk_div, z_em, z_me, z_mlt, z_nmlt, z_mle, z_nmle, z_shl, z_bit1, z_bit0, z_cap, Nat.not_lt_zero, Nat.zero_le, Nat.lt_irrefl, Nat.le_refl, true_implies, false_implies, implies_true, and_true, true_and, not_true_eq_false, not_false_eq_true, and_self, false_and, and_false, if_true, if_false, ite_true, ite_false, reduceCtorEq, Bool.false_eq_true, Bool.true_eq_false, eq_self_iff_true, forall_const, iff_self, q, w_colourOf hC hB d ht]
      refine ⟨fun hb => ?_, fun hb => ⟨fun g => ?_, fun g => ?_⟩⟩
      · simp only [hb, Bool.false_and, Bool.false_eq_true, if_false, Nat.add_zero] at ih; exact ih
      · simp only [hb, g, decide_false, Bool.and_false, Bool.false_eq_true, if_false, Nat.add_zero] at ih; exact ih
      · simp only [hb, g, decide_true, Bool.and_self, if_true] at ih; exact ih
    · subst d
      simp (disch := first | assumption | omega) only [↓zm1, z0, z1, z2, z3, z4, z5, z8, z10, z12, z13, z24, z25, z31, z99, z100, z104, z115, z116, z1000, z8192, z10240, nI_leI, nI_ltI, nI_eq, nI_clamp, z_in, z_inl, nI_add, pk_mul, pk_sub, z_pred, z_predm, pk_div, z_em, z_me, z_mlt, z_nmlt, z_mle, z_nmle, z_shl, z_bit1, z_bit0, z_cap, Nat.not_lt_zero, Nat.zero_le, Nat.lt_irrefl, Nat.le_refl, true_implies, false_implies, implies_true, and_true, true_and, not_true_eq_false, not_false_eq_true, and_self, false_and, and_false, if_true, if_false, ite_true, ite_false, reduceCtorEq, Bool.false_eq_true, Bool.true_eq_false, eq_self_iff_true, forall_const, iff_self]
      exact hP) fu 0 (Nat.zero_le _) (by omega)
  exact key
/-- for all of the first m -/
def alB (g : Nat → Bool) : Nat → Bool
  | 0 => true
  | m + 1 => alB g m && g m
theorem alB_iff (g : Nat → Bool) : ∀ m, alB g m = true ↔ ∀ k, k < m → g k = true
  | 0 => ⟨fun _ k hk => absurd hk (Nat.not_lt_zero k), fun _ => rfl⟩
  | m + 1 => by
    unfold alB
    rw [Bool.and_eq_true, alB_iff g m]
    constructor
    · rintro ⟨h1, h2⟩ k hk
      rcases Nat.lt_or_eq_of_le (Nat.lt_succ_iff.mp hk) with e | e
      · exact h1 k e
      · rw [e]; exact h2
    · intro h
      exact ⟨fun k hk => h k (by omega), h m (by omega)⟩
theorem alB_f {g : Nat → Bool} {m k : Nat} (hk : k < m) (h : g k = false) : alB g m = false := by
  cases e : alB g m
  · rfl
  · have := (alB_iff g m).mp e k hk
    rw [h] at this; cases this
theorem alB_t {g : Nat → Bool} {m : Nat} (h : ∀ k, k < m → g k = true) : alB g m = true := (alB_iff g m).mpr h
def fit1 (L : Ln) (c : Nat → Nat) (t k : Nat) : Bool := decide (col (c (lF L k)) t ≠ col (c (lO L k)) t ∧ col (c (lO L k)) t ≠ col (c (lT L k)) t ∧ col (c (lF L k)) t ≠ col (c (lT L k)) t)
theorem code_div {a b : Nat} (ha : a < 100) (hb : b < 100) : nI (a * 100 + b) / 100 = nI a := by
  have := pk_div (a := a * 100 + b) (d := 100) (by omega) (by decide) (by decide)
  rw [show (a * 100 + b) / 100 = a by omega] at this
  exact this
theorem code_rem {a b : Nat} (ha : a < 100) (hb : b < 100) : nI (a * 100 + b) - nI (a * 100 + b) / 100 * 100 = nI b := by
  have := pk_rem (a := a * 100 + b) (d := 100) (by omega) (by decide) (by decide)
  rw [show (a * 100 + b) % 100 = b by omega] at this
  exact this
theorem w_isFitColouring {σ : SX} {n kd fu : Nat} {c : Nat → Nat} (hC : Cok n c) (hk : kd < 3) (hB : Bb σ n c kd) (hl : Lin σ (lns c n kd)) (hfu : 20000 ≤ fu) {t : Nat} (ht : t < 2) {P : Int32 → Prop} (hP : P (zb (alB (fit1 (lns c n kd) c t) (lns c n kd).length))) : wp_X0_isFitColouring fu σ (nI t) P := by
  have hn := hC.1
  have hL := lns_ok hC hk
  have hm := hL.2.1
  have key := lp (m := (lns c n kd).length) (Q := fun f i => (∀ j, j < i → fit1 (lns c n kd) c t j = true) → wp_X0_isFitColouring_L2 σ (nI t) P (P 0) f (nI i)) (by
    intro f i hi ih hall
    rw [wp_X0_isFitColouring_L2]
    unfold wp_X0_isFitColouring_B2 wp_X1_size
    rw [hl.1]
    rcases Nat.lt_or_eq_of_le hi with d | d
    · have ih := ih d
      have q : ¬ (lns c n kd).length ≤ i := by omega
      obtain ⟨r2, r3, -⟩ := hl.2.2.2.2 i d
      obtain ⟨a1, a2, a3, -⟩ := hL.2.2.1 i d
      have k1 := col_lt (c (lF (lns c n kd) i)) t
      have k2 := col_lt (c (lO (lns c n kd) i)) t
      have k3 := col_lt (c (lT (lns c n kd) i)) t
      have bad : fit1 (lns c n kd) c t i = false → P 0 := fun e => by
        rw [alB_f d e] at hP; exact hP
      have good : fit1 (lns c n kd) c t i = true → wp_X0_isFitColouring_L2 σ (nI t) P (P 0) f (nI i + 1) := fun e => by
        rw [← nI_succ]
        refine ih fun j hj => ?_
        rcases Nat.lt_or_eq_of_le (Nat.lt_succ_iff.mp hj) with g | g
        · exact hall j g
        · rw [g]; exact e
      refine ⟨fun g => absurd ((nI_leI (by omega) (by omega)).mp g) q, fun _ => ?_⟩
      rw [w_at d hm (by decide), r2, code_div (by omega) (by omega), w_colourOf hC hB a1 ht, hl.2.1, w_at d hm (by decide), r3, w_colourOf hC hB a2 ht, w_at d hm (by decide), r2, code_rem (by omega) (by omega), w_colourOf hC hB a3 ht]
      rw [nI_eq (by omega) (by omega), nI_eq (by omega) (by omega), nI_eq (by omega) (by omega)]
      unfold fit1 at bad good
      refine ⟨fun g => bad (decide_eq_false fun h => h.1 g), fun g => ⟨fun g2 => bad (decide_eq_false fun h => h.2.1 g2), fun g2 => ⟨fun g3 => good (decide_eq_true ⟨g, g2, g3⟩), fun g3 => bad (decide_eq_false fun h => h.2.2 g3)⟩⟩⟩
    · subst d
      refine ⟨fun _ => ?_, fun g => absurd (Int32.le_refl _) g⟩
      rw [alB_t hall] at hP
      exact hP) fu 0 (Nat.zero_le _) (by omega)
  exact key (fun j hj => by omega)
/-! ===== turns ===== -/
def tcI (x t : Int32) : Int32 :=
  let r := if t &&& 1 = 0 then x / 5 else 4 - x / 5
  let q := if t &&& 2 = 0 then x - x / 5 * 5 else 4 - (x - x / 5 * 5)
  if t &&& 4 = 0 then r * 5 + q else q * 5 + r
def tc (x t : Nat) : Nat := (tcI (nI x) (nI t)).toNatClampNeg
theorem tc_ok : ∀ t, t < 8 → ∀ x, x < 25 → tcI (nI x) (nI t) = nI (tc x t) ∧ tc x t < 25 := by decide +kernel
theorem w_turned {x t : Nat} (hx : x < 25) (ht : t < 8) {P : Int32 → Prop} : wp_X0_turned (nI x) (nI t) P ↔ P (nI (tc x t)) := by
  rw [← (tc_ok t ht x hx).1]
  unfold wp_X0_turned wp_X0_turned_J17 wp_X0_turned_J35 tcI
  by_cases h1 : nI t &&& 1 = 0 <;> by_cases h2 : nI t &&& 2 = 0 <;> by_cases h4 : nI t &&& 4 = 0 <;> simp only [h1, h2, h4, if_true, if_false, not_true_eq_false, not_false_eq_true, true_implies, false_implies, and_true, true_and]
/-- a map of the cells is a symmetry of the board -/
def syC (c : Nat → Nat) (n kd : Nat) (q : Nat → Nat) : Bool := alB (fun h => (mk c n).testBit (q (c h))) n && alB (fun k => two kd (q (c (lF (lns c n kd) k))) (q (c (lT (lns c n kd) k))) && ((mk c n).testBit (q (c (lF (lns c n kd) k))) && ((mk c n).testBit ((q (c (lF (lns c n kd) k)) + q (c (lT (lns c n kd) k))) / 2) && (mk c n).testBit (q (c (lT (lns c n kd) k)))))) (lns c n kd).length
theorem w_isSymmetry {σ : SX} {n kd fu : Nat} {c : Nat → Nat} (hC : Cok n c) (hk : kd < 3) (hB : Bb σ n c kd) (hl : Lin σ (lns c n kd)) (hfu : 20000 ≤ fu) {t : Nat} (ht : t < 8) {P : Int32 → Prop} (hP : P (zb (syC c n kd (fun x => tc x t)))) : wp_X0_isSymmetry fu σ (nI t) P := by
  have hn := hC.1
  have hL := lns_ok hC hk
  have hm := hL.2.1
  have hmk := mk_lt (c := c) (n := n) hC.2.1
  obtain ⟨b0, b1, b2, b3⟩ := hB
  have key2 := fun (K : Prop) (hK : alB (fun k => two kd (tc (c (lF (lns c n kd) k)) t) (tc (c (lT (lns c n kd) k)) t) && ((mk c n).testBit (tc (c (lF (lns c n kd) k)) t) && ((mk c n).testBit ((tc (c (lF (lns c n kd) k)) t + tc (c (lT (lns c n kd) k)) t) / 2) && (mk c n).testBit (tc (c (lT (lns c n kd) k)) t)))) (lns c n kd).length = true → K) (hN : alB (fun k => two kd (tc (c (lF (lns c n kd) k)) t) (tc (c (lT (lns c n kd) k)) t) && ((mk c n).testBit (tc (c (lF (lns c n kd) k)) t) && ((mk c n).testBit ((tc (c (lF (lns c n kd) k)) t + tc (c (lT (lns c n kd) k)) t) / 2) && (mk c n).testBit (tc (c (lT (lns c n kd) k)) t)))) (lns c n kd).length = false → P 0) => lp (m := (lns c n kd).length) (Q := fun f i => (∀ j, j < i → (two kd (tc (c (lF (lns c n kd) j)) t) (tc (c (lT (lns c n kd) j)) t) && ((mk c n).testBit (tc (c (lF (lns c n kd) j)) t) && ((mk c n).testBit ((tc (c (lF (lns c n kd) j)) t + tc (c (lT (lns c n kd) j)) t) / 2) && (mk c n).testBit (tc (c (lT (lns c n kd) j)) t)))) = true) → wp_X0_isSymmetry_L42 σ (nI t) P K f (nI i)) (by
    intro f i hi ih hall
    rw [wp_X0_isSymmetry_L42]
    unfold wp_X0_isSymmetry_B42 wp_X1_size
    rw [hl.1]
    rcases Nat.lt_or_eq_of_le hi with d | d
    · have ih := ih d
      have q : ¬ (lns c n kd).length ≤ i := by omega
      obtain ⟨r2, r3, -⟩ := hl.2.2.2.2 i d
      obtain ⟨a1, a2, a3, -⟩ := hL.2.2.1 i d
      have u1 := tc_ok t ht _ (hC.2.1 _ a1)
      have u3 := tc_ok t ht _ (hC.2.1 _ a3)
      refine ⟨fun g => absurd ((nI_leI (by omega) (by omega)).mp g) q, fun _ => ?_⟩
      rw [w_at d hm (by decide), r2, code_div (by omega) (by omega), b2, w_at a1 (by omega) (by decide), b3 _ a1, w_at d hm (by decide), r2, code_rem (by omega) (by omega), w_at a3 (by omega) (by decide), b3 _ a3, w_turned (hC.2.1 _ a1) ht, w_turned (hC.2.1 _ a3) ht, w_isLine b0 b1 (by omega) u1.2 u3.2]
      refine ⟨fun g => ?_, fun g => hN (alB_f d ((zb_0 _).mp g))⟩
      rw [← nI_succ]
      refine ih fun j hj => ?_
      rcases Nat.lt_or_eq_of_le (Nat.lt_succ_iff.mp hj) with e | e
      · exact hall j e
      · rw [e]
        exact Bool.not_eq_false _ |>.mp fun e2 => g ((zb_0 _).mpr e2)
    · subst d
      exact ⟨fun _ => hK (alB_t hall), fun g => absurd (Int32.le_refl _) g⟩)
  have key := lp (m := n) (Q := fun f i => (∀ j, j < i → (mk c n).testBit (tc (c j) t) = true) → wp_X0_isSymmetry_L2 σ (nI t) P (wp_X0_isSymmetry_L42 σ (nI t) P (P 1) fu 0) f (nI i)) (by
    intro f i hi ih hall
    rw [wp_X0_isSymmetry_L2]
    unfold wp_X0_isSymmetry_B2 wp_X1_size
    rw [b2]
    rcases Nat.lt_or_eq_of_le hi with d | d
    · have ih := ih d
      have q : ¬ n ≤ i := by omega
      have u1 := tc_ok t ht _ (hC.2.1 _ d)
      refine ⟨fun g => absurd ((nI_leI (by omega) (by omega)).mp g) q, fun _ => ?_⟩
      rw [w_at d (by omega) (by decide), b3 _ d, w_turned (hC.2.1 _ d) ht, w_isHole b1 (by omega) u1.2]
      refine ⟨fun g => ?_, fun g => ?_⟩
      · rw [← nI_succ]
        refine ih fun j hj => ?_
        rcases Nat.lt_or_eq_of_le (Nat.lt_succ_iff.mp hj) with e | e
        · exact hall j e
        · rw [e]
          exact Bool.not_eq_false _ |>.mp fun e2 => g ((zb_0 _).mpr e2)
      · unfold syC at hP
        rw [alB_f d ((zb_0 _).mp g), Bool.false_and] at hP
        exact hP
    · subst d
      refine ⟨fun _ => ?_, fun g => absurd (Int32.le_refl _) g⟩
      unfold syC at hP
      rw [alB_t hall, Bool.true_and] at hP
      exact key2 (P 1) (fun e => by rw [e] at hP; exact hP) (fun e => by rw [e] at hP; exact hP) fu 0 (Nat.zero_le _) (by omega) (fun j hj => by omega)) fu 0 (Nat.zero_le _) (by omega)
  exact key (fun j hj => by omega)
/-- the pegs behind a map of the cells -/
def tp (c : Nat → Nat) (n p : Nat) (q : Nat → Nat) : Nat → Nat
  | 0 => 0
  | h + 1 => if p.testBit h = true then tp c n p q h ||| 2 ^ ix c n (q (c h)) else tp c n p q h
theorem tp_lt {c : Nat → Nat} {n p : Nat} {q : Nat → Nat} (hC : Cok n c) (hq : ∀ h, h < n → (mk c n).testBit (q (c h)) = true) : ∀ {h : Nat}, h ≤ n → tp c n p q h < 2 ^ n
  | 0, _ => Nat.two_pow_pos n
  | h + 1, hh => by
    have ih := tp_lt hC hq (p := p) (h := h) (by omega)
    unfold tp
    split
    · exact Nat.or_lt_two_pow ih (Nat.pow_lt_pow_right (by decide) (ix_bit hC (hq h (by omega))).1)
    · exact ih
theorem w_turnedPegs {σ : SX} {n kd fu : Nat} {c : Nat → Nat} (hC : Cok n c) (hB : Bb σ n c kd) (hfu : 20000 ≤ fu) {p t : Nat} (hp : p < 2 ^ 31) (ht : t < 8) (hq : ∀ h, h < n → (mk c n).testBit (tc (c h) t) = true) {P : Int32 → Prop} (hP : P (nI (tp c n p (fun x => tc x t) n))) : wp_X0_turnedPegs fu σ (nI p) (nI t) P := by
  have hn := hC.1
  have key := lp (m := n) (Q := fun f i => wp_X0_turnedPegs_L5 σ (nI p) (nI t) P f (nI i) (nI (tp c n p (fun x => tc x t) i))) (by
    intro f i hi ih
    rw [wp_X0_turnedPegs_L5]
    unfold wp_X0_turnedPegs_B5 wp_X0_turnedPegs_J49 wp_X1_size
    rw [hB.2.2.1]
    rcases Nat.lt_or_eq_of_le hi with d | d
    · have ih := ih d
      have q : ¬ n ≤ i := by omega
      have u1 := tc_ok t ht _ (hC.2.1 _ d)
      have u2 := (ix_bit hC (hq i d)).1
      unfold tp at ih
      refine ⟨fun g => absurd ((nI_leI (by omega) (by omega)).mp g) q, fun _ => ?_⟩
      rw [w_at d (by omega) (by decide), hB.2.2.2 i d, w_turned (hC.2.1 _ d) ht, w_numberOf hC hB.2.1 u1.2 (hq i d)]
      simp (disch := first | assumption | omega) only [↓zm1, z0, z1, z2, z3, z4, z5, z8, z10, z12, z13, z24, z25, z31, z99, z100, z104, z115, z116, z1000, z8192, z10240, nI_leI, nI_ltI, nI_eq, nI_clamp, z_in, z_inl, nI_add, pk_mul, pk_sub, z_pred, z_predm, pk_div, z_em, z_me, z_mlt, z_nmlt, z_mle, z_nmle, z_shl, z_bit1, z_bit0, z_cap, Nat.not_lt_zero, Nat.zero_le, Nat.lt_irrefl, Nat.le_refl, true_implies, false_implies, implies_true, and_true, true_and, not_true_eq_false, not_false_eq_true, and_self, false_and, and_false, if_true, if_false, ite_true, ite_false, reduceCtorEq, Bool.false_eq_true, Bool.true_eq_false, eq_self_iff_true, forall_const, iff_self]
      rw [fa_or]
      refine ⟨fun hb => ?_, fun hb => ?_⟩
      · rw [if_neg hb] at ih; exact ih
      · rw [if_pos hb] at ih; exact ih
    · subst d
      simp (disch := first | assumption | omega) only [↓zm1, z0, z1, z2, z3, z4, z5, z8, z10, z12, z13, z24, z25, z31, z99, z100, z104, z115, z116, z1000, z8192, z10240, nI_leI, nI_ltI, nI_eq, nI_clamp, z_in, z_inl, nI_add, pk_mul, pk_sub, z_pred, z_predm, pk_div, z_em, z_me, z_mlt, z_nmlt, z_mle, z_nmle, z_shl, z_bit1, z_bit0, z_cap, Nat.not_lt_zero, Nat.zero_le, Nat.lt_irrefl, Nat.le_refl, true_implies, false_implies, implies_true, and_true, true_and, not_true_eq_false, not_false_eq_true, and_self, false_and, and_false, if_true, if_false, ite_true, ite_false, reduceCtorEq, Bool.false_eq_true, Bool.true_eq_false, eq_self_iff_true, forall_const, iff_self]
      exact hP) fu 0 (Nat.zero_le _) (by omega)
  exact key
