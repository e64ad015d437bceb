/-! ===== the board: holes laid anew, kinds, weights, colours, turns ===== -/
theorem w_layHoles {σ : SX} {n kd fu : Nat} {c : Nat → Nat} (hC : Cok n c) (hk : kd < 3) (h0 : σ.1 0 = nI (kch kd)) (h1 : σ.1 1 = nI (mk c n)) (hfu : 20000 ≤ fu) {P : SX → Prop} (hP : ∀ s, Bb s n c kd → Lin s (lns c n kd) → s.2.1 0 = σ.2.1 0 → P s) : wp_X0_layHoles fu σ P := by
  have hn := hC.1
  have hm := mk_lt (c := c) (n := n) hC.2.1
  have key := fun (K : SX → Prop) (hK : ∀ s, s.1 0 = σ.1 0 → s.1 1 = σ.1 1 → s.2.1 0 = σ.2.1 0 → s.1 2 = nI n → (∀ h, h < n → s.2.1 1 h = nI (c h)) → K s) => lp (m := 25) (Q := fun f x => ∀ s, s.1 0 = σ.1 0 → s.1 1 = σ.1 1 → s.2.1 0 = σ.2.1 0 → s.1 2 = nI (ix c n x) → (∀ h, h < ix c n x → s.2.1 1 h = nI (c h)) → wp_X0_layHoles_L9 K f (nI x) s) (by
    intro f x hx ih s e0 e1 e2 e3 e4
    rw [wp_X0_layHoles_L9]
    unfold wp_X0_layHoles_B9 wp_X0_layHoles_J31
    rcases Nat.lt_or_eq_of_le hx with d | d
    · have ih := ih d
      have q : ¬ 25 ≤ x := by omega
      simp (disch := first | assumption | omega) only [↓zm1, z0, z1, z2, z3, z4, z5, z8, z10, z12, z13, z24, z25, z31, z99, z100, z104, z115, z116, z1000, z8192, z10240, nI_leI, nI_ltI, nI_eq, nI_clamp, z_in, z_inl, nI_add, pk_mul, pk_sub, z_pred, z_predm, pk_div, z_em, z_me, z_mlt, z_nmlt, z_mle, z_nmle, z_shl, z_bit1, z_bit0, z_cap, Nat.not_lt_zero, Nat.zero_le, Nat.lt_irrefl, Nat.le_refl, true_implies, false_implies, implies_true, and_true, true_and, not_true_eq_false, not_false_eq_true, and_self, false_and, and_false, if_true, if_false, ite_true, ite_false, reduceCtorEq, Bool.false_eq_true, Bool.true_eq_false, eq_self_iff_true, forall_const, iff_self, q]
      rw [w_isHole (e1.trans h1) (by omega) d, zb_0]
      refine ⟨fun hb => ?_, fun hb => ?_⟩
      · rw [ix_no hb] at ih
        exact ih s e0 e1 e2 e3 e4
      · have hb : (mk c n).testBit x = true := by
          cases h : (mk c n).testBit x
          · exact absurd h hb
          · rfl
        obtain ⟨i1, i2⟩ := ix_bit hC hb
        have i3 : ix c n (x + 1) = ix c n x + 1 := by
          have := ix_succ hC i1
          rw [i2] at this
          exact this
        rw [i3] at ih
        rw [e3, w_add (by omega) (by decide)]
        refine ih _ e0 e1 e2 rfl fun h hh => ?_
        show upd (s.2.1 1) (ix c n x) (nI x) h = _
        by_cases e : h = ix c n x
        · subst e; rw [upd_eq, i2]
        · rw [upd_ne e]; exact e4 h (by omega)
    · subst d
      simp (disch := first | assumption | omega) only [↓zm1, z0, z1, z2, z3, z4, z5, z8, z10, z12, z13, z24, z25, z31, z99, z100, z104, z115, z116, z1000, z8192, z10240, nI_leI, nI_ltI, nI_eq, nI_clamp, z_in, z_inl, nI_add, pk_mul, pk_sub, z_pred, z_predm, pk_div, z_em, z_me, z_mlt, z_nmlt, z_mle, z_nmle, z_shl, z_bit1, z_bit0, z_cap, Nat.not_lt_zero, Nat.zero_le, Nat.lt_irrefl, Nat.le_refl, true_implies, false_implies, implies_true, and_true, true_and, not_true_eq_false, not_false_eq_true, and_self, false_and, and_false, if_true, if_false, ite_true, ite_false, reduceCtorEq, Bool.false_eq_true, Bool.true_eq_false, eq_self_iff_true, forall_const, iff_self]
      have hall := ix_all hC (Nat.le_refl 25)
      rw [hall] at e3 e4
      exact hK s e0 e1 e2 e3 e4)
  unfold wp_X0_layHoles wp_X1_empty
  have z : ix c n 0 = 0 := fb_ct_zero.mpr fun k _ => decide_eq_false (Nat.not_lt_zero _)
  refine key _ (fun s e0 e1 e2 e3 e4 => ?_) fu 0 (Nat.zero_le _) (by omega) _ rfl rfl rfl (by rw [z]; rfl) (fun h hh => by omega)
  have hBs : Bb s n c kd := ⟨e0.trans h0, e1.trans h1, e3, e4⟩
  refine w_layLines hC hk hBs hfu fun s' g1 g2 => hP s' (hBs.fr g1) g2 ?_
  rw [g1.2 0 (by decide)]; exact e2
/-! insertion, removal -/
def insC {α : Type} (f : Nat → α) (i : Nat) (x : α) : Nat → α := fun h => if h < i then f h else if h = i then x else f (h - 1)
def remC {α : Type} (f : Nat → α) (i : Nat) : Nat → α := fun h => if h < i then f h else f (h + 1)
theorem ins_lt {α : Type} {f : Nat → α} {i h : Nat} {x : α} (q : h < i) : insC f i x h = f h := if_pos q
theorem ins_eq {α : Type} {f : Nat → α} {i : Nat} {x : α} : insC f i x i = x := by unfold insC; rw [if_neg (Nat.lt_irrefl _), if_pos rfl]
theorem ins_gt {α : Type} {f : Nat → α} {i h : Nat} {x : α} (q : i < h) : insC f i x h = f (h - 1) := by unfold insC; rw [if_neg (by omega), if_neg (by omega)]
theorem rem_lt {α : Type} {f : Nat → α} {i h : Nat} (q : h < i) : remC f i h = f h := if_pos q
theorem rem_ge {α : Type} {f : Nat → α} {i h : Nat} (q : i ≤ h) : remC f i h = f (h + 1) := if_neg (by omega)
theorem ix_cut {n : Nat} {c : Nat → Nat} (hC : Cok n c) {x : Nat} {h : Nat} (hh : h < n) : h < ix c n x ↔ c h < x := by
  unfold ix
  constructor
  · intro q
    refine Classical.byContradiction fun g => ?_
    have : fb_ct (fun h => decide (c h < x)) n ≤ fb_ct (fun k => decide (k < h)) n := fb_ct_sub fun k hk hx => by
      have hx := of_decide_eq_true hx
      apply decide_eq_true
      rcases Nat.lt_trichotomy k h with d | d | d
      · exact d
      · subst d; omega
      · have := hC.2.2 h k d hk; omega
    rw [ct_lt] at this
    omega
  · intro q
    have : fb_ct (fun k => decide (k < h + 1)) n ≤ fb_ct (fun h => decide (c h < x)) n := fb_ct_sub fun k hk hx => by
      have hx := of_decide_eq_true hx
      apply decide_eq_true
      rcases Nat.lt_or_eq_of_le (Nat.lt_succ_iff.mp hx) with d | d
      · have := hC.2.2 k h d hh; omega
      · rw [d]; exact q
    rw [ct_lt] at this
    omega
theorem Cok.ins {n : Nat} {c : Nat → Nat} (hC : Cok n c) {x : Nat} (hx : x < 25) (hn : n < 13) (hb : (mk c n).testBit x = false) : Cok (n + 1) (insC c (ix c n x) x) := by
  have hb := mk_bit_f.mp hb
  have hi := ix_le c n x
  refine ⟨hn, fun h hh => ?_, fun i j hij hj => ?_⟩
  · rcases Nat.lt_trichotomy h (ix c n x) with d | d | d
    · rw [ins_lt d]; exact hC.2.1 h (by omega)
    · rw [d, ins_eq]; exact hx
    · rw [ins_gt d]; exact hC.2.1 _ (by omega)
  · rcases Nat.lt_trichotomy i (ix c n x) with d | d | d
    · rw [ins_lt d]
      have h1 := (ix_cut hC (x := x) (show i < n by omega)).mp d
      rcases Nat.lt_trichotomy j (ix c n x) with e | e | e
      · rw [ins_lt e]; exact hC.2.2 i j hij (by omega)
      · rw [e, ins_eq]; exact h1
      · rw [ins_gt e]
        rcases Nat.lt_or_eq_of_le (show i ≤ j - 1 by omega) with g | g
        · exact hC.2.2 i (j - 1) g (by omega)
        · omega
    · rw [d, ins_eq, ins_gt (by omega)]
      have h1 := (ix_cut hC (x := x) (show j - 1 < n by omega))
      have h2 := hb (j - 1) (by omega)
      omega
    · rw [ins_gt d, ins_gt (by omega)]
      exact hC.2.2 (i - 1) (j - 1) (by omega) (by omega)
theorem mk_ins {n : Nat} {c : Nat → Nat} {x i : Nat} (hi : i ≤ n) : mk (insC c i x) (n + 1) = mk c n ||| 2 ^ x := by
  apply Nat.eq_of_testBit_eq
  intro y
  rw [Nat.testBit_or, Nat.testBit_two_pow]
  have key : (mk (insC c i x) (n + 1)).testBit y = true ↔ ((mk c n).testBit y || decide (x = y)) = true := by
    rw [mk_bit, Bool.or_eq_true, mk_bit, decide_eq_true_iff]
    constructor
    · rintro ⟨h, hh, e⟩
      rcases Nat.lt_trichotomy h i with d | d | d
      · rw [ins_lt d] at e; exact Or.inl ⟨h, by omega, e⟩
      · rw [d, ins_eq] at e; exact Or.inr e
      · rw [ins_gt d] at e; exact Or.inl ⟨h - 1, by omega, e⟩
    · rintro (⟨h, hh, e⟩ | e)
      · rcases Nat.lt_or_ge h i with d | d
        · exact ⟨h, by omega, by rw [ins_lt d]; exact e⟩
        · exact ⟨h + 1, by omega, by rw [ins_gt (by omega)]; exact e⟩
      · exact ⟨i, by omega, by rw [ins_eq]; exact e⟩
  cases h1 : (mk (insC c i x) (n + 1)).testBit y <;> cases h2 : ((mk c n).testBit y || decide (x = y))
  · rfl
  · rw [h1, h2] at key; exact absurd (key.mpr rfl) (by decide)
  · rw [h1, h2] at key; exact absurd (key.mp rfl) (by decide)
  · rfl
theorem Cok.rem {n : Nat} {c : Nat → Nat} (hC : Cok (n + 1) c) {i : Nat} (hi : i < n + 1) : Cok n (remC c i) := by
  refine ⟨by have := hC.1; omega, fun h hh => ?_, fun a b hab hb => ?_⟩
  · rcases Nat.lt_or_ge h i with d | d
    · rw [rem_lt d]; exact hC.2.1 h (by omega)
    · rw [rem_ge d]; exact hC.2.1 _ (by omega)
  · rcases Nat.lt_or_ge a i with d | d
    · rw [rem_lt d]
      rcases Nat.lt_or_ge b i with e | e
      · rw [rem_lt e]; exact hC.2.2 a b hab (by omega)
      · rw [rem_ge e]; exact hC.2.2 a (b + 1) (by omega) (by omega)
    · rw [rem_ge d, rem_ge (by omega)]
      exact hC.2.2 (a + 1) (b + 1) (by omega) (by omega)
theorem mk_rem {n : Nat} {c : Nat → Nat} (hC : Cok (n + 1) c) {i : Nat} (hi : i < n + 1) : ∀ y, (mk (remC c i) n).testBit y = ((mk c (n + 1)).testBit y && !decide (c i = y)) := by
  intro y
  have key : (mk (remC c i) n).testBit y = true ↔ ((mk c (n + 1)).testBit y && !decide (c i = y)) = true := by
    rw [mk_bit, Bool.and_eq_true, mk_bit, Bool.not_eq_true', decide_eq_false_iff_not]
    constructor
    · rintro ⟨h, hh, e⟩
      rcases Nat.lt_or_ge h i with d | d
      · rw [rem_lt d] at e
        exact ⟨⟨h, by omega, e⟩, fun g => by have := hC.2.2 h i d hi; omega⟩
      · rw [rem_ge d] at e
        exact ⟨⟨h + 1, by omega, e⟩, fun g => by have := hC.2.2 i (h + 1) (by omega) (by omega); omega⟩
    · rintro ⟨⟨h, hh, e⟩, g⟩
      rcases Nat.lt_trichotomy h i with d | d | d
      · exact ⟨h, by omega, by rw [rem_lt d]; exact e⟩
      · rw [d] at e; exact absurd e g
      · refine ⟨h - 1, by omega, ?_⟩
        rw [rem_ge (by omega), show h - 1 + 1 = h by omega]; exact e
  cases h1 : (mk (remC c i) n).testBit y <;> cases h2 : ((mk c (n + 1)).testBit y && !decide (c i = y))
  · rfl
  · rw [h1, h2] at key; exact absurd (key.mpr rfl) (by decide)
  · rw [h1, h2] at key; exact absurd (key.mp rfl) (by decide)
  · rfl
/-- the whole board -/
def Brd (σ : SX) (n : Nat) (c : Nat → Nat) (kd : Nat) (w : Nat → Int32) : Prop := Bb σ n c kd ∧ Lin σ (lns c n kd) ∧ ∀ h, h < n → σ.2.1 0 (c h) = w h
theorem w_open {σ : SX} {n kd fu : Nat} {c : Nat → Nat} {w : Nat → Int32} (hC : Cok n c) (hk : kd < 3) (hB : Brd σ n c kd w) (hfu : 20000 ≤ fu) {x : Nat} (hx : x < 25) (hn : n < 13) (hb : (mk c n).testBit x = false) {P : SX → Prop} (hP : ∀ s, Brd s (n + 1) (insC c (ix c n x) x) kd (insC w (ix c n x) 0) → P s) : wp_X0_open fu σ (nI x) P := by
  have hC' := hC.ins hx hn hb
  have hi := ix_le c n x
  have hm := mk_ins (c := c) (n := n) (x := x) hi
  have q : ¬ 25 ≤ x := by omega
  have hxb := mk_bit_f.mp hb
  obtain ⟨⟨b0, b1, b2, b3⟩, hl, hw⟩ := hB
  unfold wp_X0_open
  rw [b1]
  simp (disch := first | assumption | omega) only [↓zm1, z0, z1, z2, z3, z4, z5, z8, z10, z12, z13, z24, z25, z31, z99, z100, z104, z115, z116, z1000, z8192, z10240, nI_leI, nI_ltI, nI_eq, nI_clamp, z_in, z_inl, nI_add, pk_mul, pk_sub, z_pred, z_predm, pk_div, z_em, z_me, z_mlt, z_nmlt, z_mle, z_nmle, z_shl, z_bit1, z_bit0, z_cap, Nat.not_lt_zero, Nat.zero_le, Nat.lt_irrefl, Nat.le_refl, true_implies, false_implies, implies_true, and_true, true_and, not_true_eq_false, not_false_eq_true, and_self, false_and, and_false, if_true, if_false, ite_true, ite_false, reduceCtorEq, Bool.false_eq_true, Bool.true_eq_false, eq_self_iff_true, forall_const, iff_self, q, hx]
  rw [fa_or, ← hm]
  refine w_layHoles hC' hk (by exact b0) (by rfl) hfu fun s g1 g2 g3 => hP s ⟨g1, g2, fun h hh => ?_⟩
  rw [g3]
  show upd (σ.2.1 0) x (nI 0) _ = _
  rcases Nat.lt_trichotomy h (ix c n x) with d | d | d
  · rw [ins_lt d, ins_lt d, upd_ne (hxb h (by omega))]; exact hw h (by omega)
  · rw [d, ins_eq, ins_eq, upd_eq]; rfl
  · rw [ins_gt d, ins_gt d, upd_ne (hxb (h - 1) (by omega))]; exact hw _ (by omega)
theorem not_bit {x : Nat} (hx : x < 31) {m : Nat} (hm : m < 2 ^ 31) : nI m &&& (nI (2 ^ x) ^^^ mI) = nI (m &&& (2 ^ 32 - (2 ^ x + 1))) := by
  have m1 : mI = nI (2 ^ 32 - 1) := by decide
  have px : 2 ^ x ≤ 2 ^ 30 := Nat.pow_le_pow_right (by decide) (by omega)
  rw [m1, fb_xorI, xor_all (by omega), fa_and]
theorem w_close {σ : SX} {n kd fu : Nat} {c : Nat → Nat} {w : Nat → Int32} (hC : Cok (n + 1) c) (hk : kd < 3) (hB : Brd σ (n + 1) c kd w) (hfu : 20000 ≤ fu) {i : Nat} (hi : i < n + 1) {P : SX → Prop} (hP : ∀ s, Brd s n (remC c i) kd (remC w i) → P s) : wp_X0_close fu σ (nI (c i)) P := by
  have hC' := hC.rem hi
  have hm := mk_lt (c := c) (n := n + 1) hC.2.1
  have hx := hC.2.1 i hi
  have q : ¬ 25 ≤ c i := by omega
  obtain ⟨⟨b0, b1, b2, b3⟩, hl, hw⟩ := hB
  have px : 2 ^ c i ≤ 2 ^ 24 := Nat.pow_le_pow_right (by decide) (by omega)
  have e : mk c (n + 1) &&& (2 ^ 32 - (2 ^ c i + 1)) = mk (remC c i) n := by
    apply Nat.eq_of_testBit_eq
    intro y
    rw [mk_rem hC hi y, Nat.testBit_and, Nat.testBit_two_pow_sub_succ (by omega), Nat.testBit_two_pow]
    by_cases hy : y < 32
    · rw [decide_eq_true hy, Bool.true_and]
    · rw [tb_lt hm (by omega), Bool.false_and, Bool.false_and]
  unfold wp_X0_close
  rw [b1]
  simp (disch := first | assumption | omega) only [↓zm1, z0, z1, z2, z3, z4, z5, z8, z10, z12, z13, z24, z25, z31, z99, z100, z104, z115, z116, z1000, z8192, z10240, nI_leI, nI_ltI, nI_eq, nI_clamp, z_in, z_inl, nI_add, pk_mul, pk_sub, z_pred, z_predm, pk_div, z_em, z_me, z_mlt, z_nmlt, z_mle, z_nmle, z_shl, z_bit1, z_bit0, z_cap, Nat.not_lt_zero, Nat.zero_le, Nat.lt_irrefl, Nat.le_refl, true_implies, false_implies, implies_true, and_true, true_and, not_true_eq_false, not_false_eq_true, and_self, false_and, and_false, if_true, if_false, ite_true, ite_false, reduceCtorEq, Bool.false_eq_true, Bool.true_eq_false, eq_self_iff_true, forall_const, iff_self, q]
  rw [not_bit (by omega) (by omega), e]
  refine w_layHoles hC' hk (by exact b0) (by rfl) hfu fun s g1 g2 g3 => hP s ⟨g1, g2, fun h hh => ?_⟩
  rw [g3]
  rcases Nat.lt_or_ge h i with d | d
  · rw [rem_lt d, rem_lt d]; exact hw h (by omega)
  · rw [rem_ge d, rem_ge d]; exact hw _ (by omega)
theorem kch_char (kd : Nat) : narrow .char (.int (nI (kch kd))) = .int (nI (kch kd)) ∧ fits .char (.int (nI (kch kd))) = true := by
  unfold kch
  split
  · exact pk_charN (by decide)
  · split
    · exact pk_charN (by decide)
    · exact pk_charN (by decide)
theorem w_changeKind {σ : SX} {n kd k2 fu : Nat} {c : Nat → Nat} {w : Nat → Int32} (hC : Cok n c) (hk2 : k2 < 3) (hB : Brd σ n c kd w) (hfu : 20000 ≤ fu) {P : SX → Prop} (hP : ∀ s, Brd s n c k2 w → P s) : wp_X0_changeKind fu σ (nI (kch k2)) P := by
  obtain ⟨⟨b0, b1, b2, b3⟩, hl, hw⟩ := hB
  unfold wp_X0_changeKind
  refine ⟨kch_char k2, ?_⟩
  have hB' : Bb (sI σ 0 (nI (kch k2))) n c k2 := ⟨rfl, b1, b2, b3⟩
  refine w_layLines hC hk2 hB' hfu fun s g1 g2 => hP s ⟨hB'.fr g1, g2, fun h hh => ?_⟩
  rw [g1.2 0 (by decide)]
  exact hw h hh
/-! weights -/
theorem w_weightOf {σ : SX} {n kd : Nat} {c : Nat → Nat} {w : Nat → Int32} (hC : Cok n c) (hB : Brd σ n c kd w) {h : Nat} (hh : h < n) {P : Int32 → Prop} : wp_X0_weightOf σ (nI h) P ↔ P (w h) := by
  have hn := hC.1
  have hc := hC.2.1 h hh
  have q : ¬ 25 ≤ c h := by omega
  obtain ⟨⟨b0, b1, b2, b3⟩, hl, hw⟩ := hB
  unfold wp_X0_weightOf
  rw [b2, w_at hh (by omega) (by omega), b3 h hh]
  simp (disch := first | assumption | omega) only [↓zm1, z0, z1, z2, z3, z4, z5, z8, z10, z12, z13, z24, z25, z31, z99, z100, z104, z115, z116, z1000, z8192, z10240, nI_leI, nI_ltI, nI_eq, nI_clamp, z_in, z_inl, nI_add, pk_mul, pk_sub, z_pred, z_predm, pk_div, z_em, z_me, z_mlt, z_nmlt, z_mle, z_nmle, z_shl, z_bit1, z_bit0, z_cap, Nat.not_lt_zero, Nat.zero_le, Nat.lt_irrefl, Nat.le_refl, true_implies, false_implies, implies_true, and_true, true_and, not_true_eq_false, not_false_eq_true, and_self, false_and, and_false, if_true, if_false, ite_true, ite_false, reduceCtorEq, Bool.false_eq_true, Bool.true_eq_false, eq_self_iff_true, forall_const, iff_self, q, hc, hw h hh]
def wsum (w : Nat → Int32) (p : Nat) : Nat → Int32
  | 0 => nI 0
  | h + 1 => if p.testBit h = true then wsum w p h + w h else wsum w p h
theorem w_weightOfPegs {σ : SX} {n kd fu : Nat} {c : Nat → Nat} {w : Nat → Int32} (hC : Cok n c) (hB : Brd σ n c kd w) (hfu : 20000 ≤ fu) {p : Nat} (hp : p < 2 ^ 31) {P : Int32 → Prop} (hP : P (wsum w p n)) : wp_X0_weightOfPegs fu σ (nI p) P := by
  have hn := hC.1
  have key := lp (m := n) (Q := fun f i => wp_X0_weightOfPegs_L4 σ (nI p) P f (nI i) (wsum w p i)) (by
    intro f i hi ih
    rw [wp_X0_weightOfPegs_L4]
    unfold wp_X0_weightOfPegs_B4 wp_X0_weightOfPegs_J32 wp_X1_size
    rw [hB.1.2.2.1]
    rcases Nat.lt_or_eq_of_le hi with d | d
    · have ih := ih d
      have q : ¬ n ≤ i := by omega
      unfold wsum at ih
      simp (disch := first | assumption | omega) only [↓zm1, z0, z1, z2, z3, z4, z5, z8, z10, z12, z13, z24, z25, z31, z99, z100, z104, z115, z116, z1000, z8192, z10240, nI_leI, nI_ltI, nI_eq, nI_clamp, z_in, z_inl, nI_add, pk_mul, pk_sub, z_pred, z_predm, pk_div, z_em, z_me, z_mlt, z_nmlt, z_mle, z_nmle, z_shl, z_bit1, z_bit0, z_cap, Nat.not_lt_zero, Nat.zero_le, Nat.lt_irrefl, Nat.le_refl, true_implies, false_implies, implies_true, and_true, true_and, not_true_eq_false, not_false_eq_true, and_self, false_and, and_false, if_true, if_false, ite_true, ite_false, reduceCtorEq, Bool.false_eq_true, Bool.true_eq_false, eq_self_iff_true, forall_const, iff_self, q]
      refine ⟨fun hb => ?_, fun hb => ?_⟩
      · rw [if_neg hb] at ih; exact ih
      · rw [if_pos hb] at ih
        rw [w_weightOf hC hB d]
        exact ih
    · subst d
      simp (disch := first | assumption | omega) only [↓zm1, z0, z1, z2, z3, z4, z5, z8, z10, z12, z13, z24, z25, z31, z99, z100, z104, z115, z116, z1000, z8192, z10240, nI_leI, nI_ltI, nI_eq, nI_clamp, z_in, z_inl, nI_add, pk_mul, pk_sub, z_pred, z_predm, pk_div, z_em, z_me, z_mlt, z_nmlt, z_mle, z_nmle, z_shl, z_bit1, z_bit0, z_cap, Nat.not_lt_zero, Nat.zero_le, Nat.lt_irrefl, Nat.le_refl, true_implies, false_implies, implies_true, and_true, true_and, not_true_eq_false, not_false_eq_true, and_self, false_and, and_false, if_true, if_false, ite_true, ite_false, reduceCtorEq, Bool.false_eq_true, Bool.true_eq_false, eq_self_iff_true, forall_const, iff_self]
      exact hP) fu 0 (Nat.zero_le _) (by omega)
  exact key
/-- the first of the lines that gain most -/
def enc : Option Nat → Int32
  | none => mI
  | some k => nI k
def gn (L : Ln) (w : Nat → Int32) (k : Nat) : Int32 := (w (lT L k) - w (lF L k)) - w (lO L k)
def gv0 (g : Nat → Int32) : Option Nat → Int32
  | none => 0
  | some k => g k
def wst (g : Nat → Int32) : Nat → Option Nat
  | 0 => none
  | k + 1 => if g k ≤ gv0 g (wst g k) then wst g k else some k
theorem wst_lt (g : Nat → Int32) : ∀ m k, wst g m = some k → k < m
  | 0, k, h => by cases h
  | m + 1, k, h => by
    unfold wst at h
    split at h
    · have := wst_lt g m k h; omega
    · cases h; omega
theorem w_faultLine {σ : SX} {n kd fu : Nat} {c : Nat → Nat} {w : Nat → Int32} (hC : Cok n c) (hk : kd < 3) (hB : Brd σ n c kd w) (hfu : 20000 ≤ fu) {P : Int32 → Prop} (hP : P (enc (wst (gn (lns c n kd) w) (lns c n kd).length))) : wp_X0_faultLine fu σ P := by
  have hn := hC.1
  have hL := lns_ok hC hk
  have hm := hL.2.1
  have hl := hB.2.1
  have key := lp (m := (lns c n kd).length) (Q := fun f i => wp_X0_faultLine_L6 σ P f (nI i) (enc (wst (gn (lns c n kd) w) i)) (gv0 (gn (lns c n kd) w) (wst (gn (lns c n kd) w) i))) (by
    intro f i hi ih
    rw [wp_X0_faultLine_L6]
    unfold wp_X0_faultLine_B6 wp_X0_faultLine_J72 wp_X1_size
    rw [hl.1]
    rcases Nat.lt_or_eq_of_le hi with d | d
    · have ih := ih d
      have q : ¬ (lns c n kd).length ≤ i := by omega
      obtain ⟨r2, r3, r4, r5⟩ := hl.2.2.2.2 i d
      obtain ⟨a1, a2, a3, -⟩ := hL.2.2.1 i d
      have e1 : nI (lF (lns c n kd) i * 100 + lT (lns c n kd) i) / 100 = nI (lF (lns c n kd) i) := by
        have := pk_div (a := lF (lns c n kd) i * 100 + lT (lns c n kd) i) (d := 100) (by omega) (by decide) (by decide)
        rw [show (lF (lns c n kd) i * 100 + lT (lns c n kd) i) / 100 = lF (lns c n kd) i by omega] at this
        exact this
      have e2 : nI (lF (lns c n kd) i * 100 + lT (lns c n kd) i) - nI (lF (lns c n kd) i * 100 + lT (lns c n kd) i) / 100 * 100 = nI (lT (lns c n kd) i) := by
        have := pk_rem (a := lF (lns c n kd) i * 100 + lT (lns c n kd) i) (d := 100) (by omega) (by decide) (by decide)
        rw [show (lF (lns c n kd) i * 100 + lT (lns c n kd) i) % 100 = lT (lns c n kd) i by omega] at this
        exact this
      refine ⟨fun g => absurd ((nI_leI (by omega) (by omega)).mp g) q, fun _ => ?_⟩
      rw [w_at d hm (by decide), r2, e2, w_weightOf hC hB a3, e1, w_weightOf hC hB a1, hl.2.1, w_at d hm (by decide), r3, w_weightOf hC hB a2]
      unfold wst at ih
      rw [nI_succ] at ih
      refine ⟨fun g => ?_, fun g => ?_⟩
      · have g : gn (lns c n kd) w i ≤ gv0 (gn (lns c n kd) w) (wst (gn (lns c n kd) w) i) := g
        rw [if_pos g] at ih; exact ih
      · have g : ¬ gn (lns c n kd) w i ≤ gv0 (gn (lns c n kd) w) (wst (gn (lns c n kd) w) i) := g
        rw [if_neg g] at ih; exact ih
    · subst d
      simp (disch := first | assumption | omega) only [↓zm1, z0, z1, z2, z3, z4, z5, z8, z10, z12, z13, z24, z25, z31, z99, z100, z104, z115, z116, z1000, z8192, z10240, nI_leI, nI_ltI, nI_eq, nI_clamp, z_in, z_inl, nI_add, pk_mul, pk_sub, z_pred, z_predm, pk_div, z_em, z_me, z_mlt, z_nmlt, z_mle, z_nmle, z_shl, z_bit1, z_bit0, z_cap, Nat.not_lt_zero, Nat.zero_le, Nat.lt_irrefl, Nat.le_refl, true_implies, false_implies, implies_true, and_true, true_and, not_true_eq_false, not_false_eq_true, and_self, false_and, and_false, if_true, if_false, ite_true, ite_false, reduceCtorEq, Bool.false_eq_true, Bool.true_eq_false, eq_self_iff_true, forall_const, iff_self]
      exact hP) fu 0 (Nat.zero_le _) (by omega)
  exact key
/-! one line by its holes -/
def lnO (L : Ln) (a b : Nat) : Nat := fa_first (fun k => decide (lF L k = a ∧ lT L k = b)) L.length
theorem w_lineOf {σ : SX} {L : Ln} {n fu : Nat} (hl : Lin σ L) (hL : Lok n L) (hfu : 20000 ≤ fu) {a b : Nat} (ha : a < 100) (hb : b < 100) {P : Int32 → Prop} (hP : P (if lnO L a b < L.length then nI (lnO L a b) else mI)) : wp_X0_lineOf fu σ (nI (a * 100 + b)) P := by
  have hm := hL.2.1
  have hn := hL.1
  have key := lp (m := L.length) (Q := fun f i => (∀ j, j < i → decide (lF L j = a ∧ lT L j = b) = false) → wp_X0_lineOf_L2 σ (nI (a * 100 + b)) P (P (-1)) f (nI i)) (by
    intro f i hi ih hno
    rw [wp_X0_lineOf_L2]
    unfold wp_X0_lineOf_B2 wp_X1_size
    rw [hl.1]
    rcases Nat.lt_or_eq_of_le hi with d | d
    · have ih := ih d
      have q : ¬ L.length ≤ i := by omega
      obtain ⟨r2, -⟩ := hl.2.2.2.2 i d
      obtain ⟨a1, a2, a3, -⟩ := hL.2.2.1 i d
      refine ⟨fun g => absurd ((nI_leI (by omega) (by omega)).mp g) q, fun _ => ?_⟩
      rw [w_at d hm (by decide), r2, nI_eq (by omega) (by omega)]
      rw [nI_succ] at ih
      refine ⟨fun g => ih fun j hj => ?_, fun g => ?_⟩
      · rcases Nat.lt_or_eq_of_le (Nat.lt_succ_iff.mp hj) with e | e
        · exact hno j e
        · subst e; exact decide_eq_false (by omega)
      · have e : lnO L a b = i := first_eq hno (Or.inr ⟨d, decide_eq_true (by omega)⟩)
        rw [e, if_pos d] at hP
        exact hP
    · subst d
      refine ⟨fun _ => ?_, fun g => absurd (Int32.le_refl _) g⟩
      have e : lnO L a b = L.length := first_eq hno (Or.inl rfl)
      rw [e, if_neg (Nat.lt_irrefl _)] at hP
      exact hP) fu 0 (Nat.zero_le _) (by omega)
  exact key (fun j hj => by omega)
theorem lnO_self {L : Ln} {n k : Nat} (hL : Lok n L) (hk : k < L.length) : lnO L (lF L k) (lT L k) = k := by
  refine first_eq (fun u hu => ?_) (Or.inr ⟨hk, decide_eq_true ⟨rfl, rfl⟩⟩)
  apply decide_eq_false
  rintro ⟨e1, e2⟩
  have := hL.2.2.2 u k (by omega) hk e1 e2
  omega
theorem lnO_is {L : Ln} {a b : Nat} (h : lnO L a b < L.length) : lF L (lnO L a b) = a ∧ lT L (lnO L a b) = b := of_decide_eq_true (fa_first_yes (fun k => decide (lF L k = a ∧ lT L k = b)) L.length h)
/-- the position behind the jump between two holes -/
def bj (L : Ln) (p a b : Nat) : Int32 := if lnO L a b < L.length ∧ can L p (lnO L a b) = true then nI (nx L p (lnO L a b)) else mI
theorem w_behindJump {σ : SX} {L : Ln} {n fu : Nat} (hl : Lin σ L) (hL : Lok n L) (hfu : 20000 ≤ fu) {p a b : Nat} (hp : p < 2 ^ 31) (ha : a < 100) (hb : b < 100) {P : Int32 → Prop} (hP : P (bj L p a b)) : wp_X3_behindJump fu σ (nI p) (nI a) (nI b) P := by
  unfold wp_X3_behindJump
  have e : nI a * 100 + nI b = nI (a * 100 + b) := by
    show nI a * nI 100 + nI b = _
    rw [pk_mul, nI_add]
  rw [e]
  refine w_lineOf hl hL hfu ha hb ?_
  unfold bj at hP
  by_cases h : lnO L a b < L.length
  · rw [if_pos h, w_behind hl hL hp h]
    by_cases hc : can L p (lnO L a b) = true
    · rw [if_pos ⟨h, hc⟩] at hP
      rw [if_pos hc]; exact hP
    · rw [if_neg (fun g => hc g.2)] at hP
      rw [if_neg hc]; exact hP
  · rw [if_neg h, w_behind_mI]
    rw [if_neg (fun g => h g.1)] at hP
    exact hP
