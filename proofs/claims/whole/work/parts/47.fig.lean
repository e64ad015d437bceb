/-! ===== the class's figures: leads and values ===== -/
def dn : Nat → Int32
  | 0 => mI
  | i + 1 => nI i
theorem dn_step : ∀ i, nI i + mI = dn i
  | 0 => by decide
  | i + 1 => pk_m1 i
theorem first_eq {p : Nat → Bool} {n v : Nat} (h1 : ∀ u, u < v → p u = false) (h2 : v = n ∨ (v < n ∧ p v = true)) : fa_first p n = v := by
  have a := fa_first_le p n
  have b := fa_first_no p n
  have c := fa_first_yes p n
  rcases Nat.lt_trichotomy (fa_first p n) v with q | q | q
  · have d := c (by omega)
    rw [h1 _ q] at d
    cases d
  · exact q
  · have d := b v q
    rcases h2 with e | e
    · omega
    · rw [e.2] at d
      cases d
theorem mex_le {q : Nat → Bool} {v : Nat} (h : q v = false) : mex q ≤ v := by
  rcases Nat.lt_or_ge v (mex q) with c | c
  · have := fa_first_no (fun v => !q v) 13 v c
    simp [h] at this
  · exact c
theorem mex_cong {p q : Nat → Bool} (h : ∀ v, v < 13 → p v = q v) : mex p = mex q := by
  unfold mex
  have a := fa_first_le (fun v => !q v) 13
  refine first_eq (fun u hu => ?_) ?_
  · have := fa_first_no (fun v => !q v) 13 u hu
    rw [h u (by omega)]
    exact this
  · rcases Nat.lt_or_eq_of_le a with c | c
    · right
      refine ⟨c, ?_⟩
      have := fa_first_yes (fun v => !q v) 13 c
      rw [h _ c]
      exact this
    · exact Or.inl c
theorem gv_succ (L : Ln) (d p : Nat) : gv L (d + 1) p = mex (fun v => decide (0 < fb_ct (fun k => can L p k && decide (gv L d (nx L p k) = v)) L.length)) := rfl
theorem gv_stable {n : Nat} {L : Ln} (hL : Lok n L) (d : Nat) : ∀ p, pc p ≤ d → gv L (d + 1) p = gv L d p := by
  induction d with
  | zero =>
    intro p h
    rw [gv_succ L 0 p]
    refine Nat.le_zero.mp (mex_le (v := 0) ?_)
    have z : fb_ct (fun k => can L p k && decide (gv L 0 (nx L p k) = 0)) L.length = 0 := by
      refine fb_ct_zero.mpr fun k hk => ?_
      have hc : can L p k = false := by
        cases hc : can L p k
        · rfl
        · have := can_pc hL hk hc; omega
      simp only [hc, Bool.false_and]
    simp only [z, Nat.lt_irrefl, decide_false]
  | succ d ih =>
    intro p h
    rw [gv_succ L (d + 1) p, gv_succ L d p]
    apply mex_cong
    intro v _
    have := fb_ct_cong (p := fun k => can L p k && decide (gv L (d + 1) (nx L p k) = v)) (q := fun k => can L p k && decide (gv L d (nx L p k) = v)) (n := L.length) (fun k hk => by
      by_cases hc : can L p k = true
      · have := can_pc hL hk hc
        simp only [ih (nx L p k) (by omega)]
      · simp only [Bool.not_eq_true] at hc
        simp only [hc, Bool.false_and])
    simp only [this]
theorem gv_le {n : Nat} {L : Ln} (hL : Lok n L) (d : Nat) : ∀ p, gv L d p ≤ pc p := by
  induction d with
  | zero => intro p; exact Nat.zero_le _
  | succ d ih =>
    intro p
    rw [gv_succ L d p]
    refine mex_le ?_
    have z : fb_ct (fun k => can L p k && decide (gv L d (nx L p k) = pc p)) L.length = 0 := by
      refine fb_ct_zero.mpr fun k hk => ?_
      by_cases hc : can L p k = true
      · have h1 := can_pc hL hk hc
        have h2 := ih (nx L p k)
        have h3 : ¬ gv L d (nx L p k) = pc p := by omega
        simp only [h3, decide_false, Bool.and_false]
      · simp only [Bool.not_eq_true] at hc
        simp only [hc, Bool.false_and]
    simp only [z, Nat.lt_irrefl, decide_false]
/-- the values of the positions behind the first k lines, as bits -/
def tk (L : Ln) (p : Nat) : Nat → Nat
  | 0 => 0
  | k + 1 => if can L p k = true then tk L p k ||| 2 ^ Gv L (nx L p k) else tk L p k
theorem tk_bit (L : Ln) (p v : Nat) : ∀ m, (tk L p m).testBit v = decide (0 < fb_ct (fun k => can L p k && decide (Gv L (nx L p k) = v)) m)
  | 0 => by simp [tk, fb_ct]
  | m + 1 => by
    unfold tk
    rw [fb_ct_succ]
    have ih := tk_bit L p v m
    by_cases hc : can L p m = true
    · rw [if_pos hc, Nat.testBit_or, ih, Nat.testBit_two_pow, hc]
      by_cases e : Gv L (nx L p m) = v
      · simp [e]
      · simp [e]
    · rw [if_neg hc, ih]
      simp [hc]
theorem Gv_eq {n : Nat} {L : Ln} (hL : Lok n L) {p : Nat} (hp : p < 2 ^ n) : Gv L p = mex (fun v => (tk L p L.length).testBit v) := by
  have h := pc_le hp (by have := hL.1; omega)
  have hn := hL.1
  have := gv_stable hL 13 p (by omega)
  have e : Gv L p = gv L (13 + 1) p := this.symm
  rw [e, gv_succ L 13 p]
  apply mex_cong
  intro v _
  rw [tk_bit]
  rfl
theorem Gv_le {n : Nat} {L : Ln} (hL : Lok n L) (p : Nat) : Gv L p ≤ pc p := gv_le hL 13 p
theorem tk_lt {n : Nat} {L : Ln} (hL : Lok n L) {p : Nat} (hp : p < 2 ^ n) : ∀ m, m ≤ L.length → tk L p m < 2 ^ 13
  | 0, _ => (by decide : 0 < 2 ^ 13)
  | m + 1, hm => by
    unfold tk
    have ih := tk_lt hL hp m (by omega)
    by_cases hc : can L p m = true
    · rw [if_pos hc]
      refine Nat.or_lt_two_pow ih (Nat.pow_lt_pow_right (by decide) ?_)
      have := Gv_le hL (nx L p m)
      have := can_pc hL (by omega) hc
      have := pc_le hp (by have := hL.1; omega)
      have := hL.1
      omega
    · rw [if_neg hc]; exact ih
theorem w_figureAt {s : SX} {q : Nat} (hq : q < 10240) {P : Int32 → Prop} : wp_X2_figureAt s (nI q) P ↔ P (s.2.1 7 q) := by
  unfold wp_X2_figureAt
  have q1 : ¬ 10240 ≤ q := by omega
  simp (disch := first | assumption | omega) only [↓zm1, z0, z1, z2, z3, z4, z5, z8, z10, z12, z13, z24, z25, z31, z99, z100, z104, z115, z116, z1000, z8192, z10240, nI_leI, nI_ltI, nI_eq, nI_clamp, z_in, z_inl, nI_add, pk_mul, pk_sub, z_pred, z_predm, pk_div, z_em, z_me, z_mlt, z_nmlt, z_mle, z_nmle, z_shl, z_bit1, z_bit0, z_cap, Nat.not_lt_zero, Nat.zero_le, Nat.lt_irrefl, Nat.le_refl, true_implies, false_implies, implies_true, and_true, true_and, not_true_eq_false, not_false_eq_true, and_self, false_and, and_false, if_true, if_false, ite_true, ite_false, reduceCtorEq, Bool.false_eq_true, Bool.true_eq_false, eq_self_iff_true, forall_const, iff_self, q1, hq]
theorem w_changeFigure {s : SX} {q : Nat} {x : Int32} (hq : q < 10240) {P : SX → Prop} : wp_X2_changeFigure s (nI q) x P ↔ P (sA s 7 (upd (s.2.1 7) q x)) := by
  unfold wp_X2_changeFigure
  have q1 : ¬ 10240 ≤ q := by omega
  simp (disch := first | assumption | omega) only [↓zm1, z0, z1, z2, z3, z4, z5, z8, z10, z12, z13, z24, z25, z31, z99, z100, z104, z115, z116, z1000, z8192, z10240, nI_leI, nI_ltI, nI_eq, nI_clamp, z_in, z_inl, nI_add, pk_mul, pk_sub, z_pred, z_predm, pk_div, z_em, z_me, z_mlt, z_nmlt, z_mle, z_nmle, z_shl, z_bit1, z_bit0, z_cap, Nat.not_lt_zero, Nat.zero_le, Nat.lt_irrefl, Nat.le_refl, true_implies, false_implies, implies_true, and_true, true_and, not_true_eq_false, not_false_eq_true, and_self, false_and, and_false, if_true, if_false, ite_true, ite_false, reduceCtorEq, Bool.false_eq_true, Bool.true_eq_false, eq_self_iff_true, forall_const, iff_self, q1, hq]
theorem w_leads {s : SX} {L : Ln} {n fu p e : Nat} (hl : Lin s L) (hL : Lok n L) (hfu : 20000 ≤ fu) (hp : p < 2 ^ n) (he : e < 2 ^ n) (hq : ∀ k, k < L.length → can L p k = true → s.2.1 7 (nx L p k) = zb (rb L (nx L p k) e)) {P : Int32 → Prop} (hP : P (zb (rb L p e))) : wp_X2_leads fu s (nI p) (nI e) P := by
  have h8 := pow_13 hL.1
  have hm := hL.2.1
  have key := lp (m := L.length) (Q := fun g k => (∀ j, j < k → can L p j = true → rb L (nx L p j) e = false) → ¬ p = e → wp_X2_leads_L9 s (nI p) P (P 0) g (nI k)) (by
    intro g k hk ih hno hne
    rw [wp_X2_leads_L9]
    unfold wp_X2_leads_B9 wp_X2_leads_J49
    rcases Nat.lt_or_eq_of_le hk with c | c
    · have ih := ih c
      have q : ¬ L.length ≤ k := by omega
      by_cases hc : can L p k = true
      · have hx := nx_lt hL c hp
        have hx2 : nx L p k < 2 ^ 31 := by omega
        have hx3 : nx L p k < 10240 := by omega
        simp (disch := first | assumption | omega) only [w_lineCount hl, ↓zm1, z0, z1, z2, z3, z4, z5, z8, z10, z12, z13, z24, z25, z31, z99, z100, z104, z115, z116, z1000, z8192, z10240, nI_leI, nI_ltI, nI_eq, nI_clamp, z_in, z_inl, nI_add, pk_mul, pk_sub, z_pred, z_predm, pk_div, z_em, z_me, z_mlt, z_nmlt, z_mle, z_nmle, z_shl, z_bit1, z_bit0, z_cap, Nat.not_lt_zero, Nat.zero_le, Nat.lt_irrefl, Nat.le_refl, true_implies, false_implies, implies_true, and_true, true_and, not_true_eq_false, not_false_eq_true, and_self, false_and, and_false, if_true, if_false, ite_true, ite_false, reduceCtorEq, Bool.false_eq_true, Bool.true_eq_false, eq_self_iff_true, forall_const, iff_self, q, w_behind hl hL, c, hc, w_figureAt, hq k c hc, zb_1]
        refine ⟨fun r => ih (fun j hj hcj => ?_) hne, fun r => ?_⟩
        · rcases Nat.lt_or_eq_of_le (Nat.lt_succ_iff.mp hj) with d | d
          · exact hno j d hcj
          · subst d
            cases hb : rb L (nx L p j) e
            · rfl
            · exact absurd hb r
        · have : rb L p e = true := (rb_iff L p e).mpr ((Rc_iff hL hp).mpr (Or.inr ⟨k, c, hc, (rb_iff _ _ _).mp r⟩))
          rw [this] at hP
          exact hP
      · simp (disch := first | assumption | omega) only [w_lineCount hl, ↓zm1, z0, z1, z2, z3, z4, z5, z8, z10, z12, z13, z24, z25, z31, z99, z100, z104, z115, z116, z1000, z8192, z10240, nI_leI, nI_ltI, nI_eq, nI_clamp, z_in, z_inl, nI_add, pk_mul, pk_sub, z_pred, z_predm, pk_div, z_em, z_me, z_mlt, z_nmlt, z_mle, z_nmle, z_shl, z_bit1, z_bit0, z_cap, Nat.not_lt_zero, Nat.zero_le, Nat.lt_irrefl, Nat.le_refl, true_implies, false_implies, implies_true, and_true, true_and, not_true_eq_false, not_false_eq_true, and_self, false_and, and_false, if_true, if_false, ite_true, ite_false, reduceCtorEq, Bool.false_eq_true, Bool.true_eq_false, eq_self_iff_true, forall_const, iff_self, q, w_behind hl hL, c, hc]
        refine ih (fun j hj hcj => ?_) hne
        rcases Nat.lt_or_eq_of_le (Nat.lt_succ_iff.mp hj) with d | d
        · exact hno j d hcj
        · subst d; exact absurd hcj hc
    · subst c
      simp (disch := first | assumption | omega) only [w_lineCount hl, ↓zm1, z0, z1, z2, z3, z4, z5, z8, z10, z12, z13, z24, z25, z31, z99, z100, z104, z115, z116, z1000, z8192, z10240, nI_leI, nI_ltI, nI_eq, nI_clamp, z_in, z_inl, nI_add, pk_mul, pk_sub, z_pred, z_predm, pk_div, z_em, z_me, z_mlt, z_nmlt, z_mle, z_nmle, z_shl, z_bit1, z_bit0, z_cap, Nat.not_lt_zero, Nat.zero_le, Nat.lt_irrefl, Nat.le_refl, true_implies, false_implies, implies_true, and_true, true_and, not_true_eq_false, not_false_eq_true, and_self, false_and, and_false, if_true, if_false, ite_true, ite_false, reduceCtorEq, Bool.false_eq_true, Bool.true_eq_false, eq_self_iff_true, forall_const, iff_self]
      have : rb L p e = false := by
        cases hb : rb L p e
        · rfl
        · rcases (Rc_iff hL hp).mp ((rb_iff _ _ _).mp hb) with c | ⟨k, a1, a2, a3⟩
          · exact absurd c hne
          · have := hno k a1 a2
            rw [(rb_iff _ _ _).mpr a3] at this
            cases this
      rw [this] at hP
      exact hP) fu 0 (by omega) (by omega)
  unfold wp_X2_leads
  simp (disch := first | assumption | omega) only [nI_eq]
  refine ⟨fun c => key (fun j hj => by omega) c, fun c => ?_⟩
  subst c
  have : rb L p p = true := (rb_iff _ _ _).mpr (Rc_refl hL hp)
  rw [this] at hP
  exact hP
/-- leads to e are figured in a walk from st -/
def Wl (σ : SX) (n : Nat) (L : Ln) (st e : Nat) : Prop := ∃ sz f, Wsz σ sz f ∧ Wdn σ n L st sz f ∧ σ.1 13 = nI 1 ∧ σ.1 14 = nI e ∧ ∀ j, j < sz → σ.2.1 7 (f j) = zb (rb L (f j) e)
def Wv (σ : SX) (n : Nat) (L : Ln) (st : Nat) : Prop := ∃ sz f, Wsz σ sz f ∧ Wdn σ n L st sz f ∧ σ.1 13 = nI 2 ∧ ∀ j, j < sz → σ.2.1 7 (f j) = nI (Gv L (f j))
theorem Wl.ws {σ : SX} {n : Nat} {L : Ln} {st e : Nat} (he : e < 2 ^ n) (h : Wl σ n L st e) : Ws σ n L st := by
  obtain ⟨sz, f, h1, h2, h3, h4, h5⟩ := h
  exact ⟨sz, f, h1, h2, Or.inr (Or.inl ⟨h3, e, he, h4, h5⟩)⟩
theorem Wv.ws {σ : SX} {n : Nat} {L : Ln} {st : Nat} (h : Wv σ n L st) : Ws σ n L st := by
  obtain ⟨sz, f, h1, h2, h3, h4⟩ := h
  exact ⟨sz, f, h1, h2, Or.inr (Or.inr ⟨h3, h4⟩)⟩
/-- a jump from a place of the row leads to a later one -/
theorem Wdn.next {σ : SX} {n : Nat} {L : Ln} (hL : Lok n L) {st sz : Nat} {f : Nat → Nat} (h : Wdn σ n L st sz f) {i k : Nat} (hi : i < sz) (hk : k < L.length) (hc : can L (f i) k = true) : ∃ j, i < j ∧ j < sz ∧ f j = nx L (f i) k := by
  obtain ⟨d1, d2, d3, d4, d5, d6, -⟩ := h
  have h1 := d3 i hi
  have h2 : Rc L st (f i) := (d6 _ h1).mpr ⟨i, hi, rfl⟩
  have h3 := Rc_snoc hL (pc st) (Nat.le_refl _) d1 h2 hk hc
  obtain ⟨j, hj, e⟩ := (d6 _ (nx_lt hL hk h1)).mp h3
  refine ⟨j, ?_, hj, e⟩
  have hp := can_pc hL hk hc
  rcases Nat.lt_trichotomy i j with c | c | c
  · exact c
  · subst c; rw [← e] at hp; omega
  · have := (d4 j i c hi).2
    rw [e] at this
    omega
theorem Wsz.fig {s σ : SX} {sz : Nat} {f : Nat → Nat} (h : Wsz σ sz f) (e7 : s.1 7 = σ.1 7) (e6 : s.2.1 6 = σ.2.1 6) (ew : s.2.2 = σ.2.2) : Wsz s sz f := by
  unfold Wsz
  rw [e7, e6, ew]
  exact h
theorem Wdn.fig {s σ : SX} {n : Nat} {L : Ln} {st sz : Nat} {f : Nat → Nat} (h : Wdn σ n L st sz f) (e : ∀ j, j < 13 → s.1 j = σ.1 j) (ew : s.2.2 = σ.2.2) : Wdn s n L st sz f := by
  unfold Wdn
  rw [e 8 (by decide), e 9 (by decide), e 10 (by decide), e 11 (by decide), e 12 (by decide), ew]
  exact h
theorem w_figureLeads {σ : SX} {L : Ln} {n fu st e : Nat} (hl : Lin σ L) (hL : Lok n L) (hfu : 20000 ≤ fu) (he : e < 2 ^ n) (hW : Ws σ n L st) {P : SX → Prop} (hP : ∀ s, Fw s σ → Wl s n L st e → P s) : wp_X2_figureLeads fu σ (nI e) P := by
  have h8 := pow_13 hL.1
  obtain ⟨sz, f, hz, hd, hg⟩ := hW
  have hsz := hz.2.1
  have main : wp_X2_figureLeads_J17 fu σ (nI e) P := by
    have key := lpd (Q := fun g i => i ≤ sz → ∀ s, Fw s σ → (∀ j, j < 13 → s.1 j = σ.1 j) → s.1 13 = nI 1 → s.1 14 = nI e → s.2.1 6 = σ.2.1 6 → s.2.2 = σ.2.2 → (∀ j, i ≤ j → j < sz → s.2.1 7 (f j) = zb (rb L (f j) e)) → wp_X2_figureLeads_L42 fu (nI e) (fun (s_81 : SX) => (P s_81)) g (dn i) s) (by
      intro g hi s hs e1 e13 e14 e6 ew hf
      rw [wp_X2_figureLeads_L42]
      unfold wp_X2_figureLeads_B42 dn
      simp (disch := first | assumption | omega) only [↓zm1, z0, z1, z2, z3, z4, z5, z8, z10, z12, z13, z24, z25, z31, z99, z100, z104, z115, z116, z1000, z8192, z10240, nI_leI, nI_ltI, nI_eq, nI_clamp, z_in, z_inl, nI_add, pk_mul, pk_sub, z_pred, z_predm, pk_div, z_em, z_me, z_mlt, z_nmlt, z_mle, z_nmle, z_shl, z_bit1, z_bit0, z_cap, Nat.not_lt_zero, Nat.zero_le, Nat.lt_irrefl, Nat.le_refl, true_implies, false_implies, implies_true, and_true, true_and, not_true_eq_false, not_false_eq_true, and_self, false_and, and_false, if_true, if_false, ite_true, ite_false, reduceCtorEq, Bool.false_eq_true, Bool.true_eq_false, eq_self_iff_true, forall_const, iff_self]
      exact hP s hs ⟨sz, f, hz.fig (e1 7 (by decide)) e6 ew, hd.fig e1 ew, e13, e14, fun j hj => hf j (Nat.zero_le _) hj⟩) (by
      intro g i ih hi s hs e1 e13 e14 e6 ew hf
      rw [wp_X2_figureLeads_L42]
      unfold wp_X2_figureLeads_B42 wp_X2_figureLeads_J72 dn
      have hfi := hz.2.2.1 i (by omega)
      have hfn := hd.2.2.1 i (by omega)
      have hin : i < 8192 := by omega
      have r6 : s.2.1 6 i = nI (f i) := by rw [e6]; exact hfi.2
      simp (disch := first | assumption | omega) only [↓zm1, z0, z1, z2, z3, z4, z5, z8, z10, z12, z13, z24, z25, z31, z99, z100, z104, z115, z116, z1000, z8192, z10240, nI_leI, nI_ltI, nI_eq, nI_clamp, z_in, z_inl, nI_add, pk_mul, pk_sub, z_pred, z_predm, pk_div, z_em, z_me, z_mlt, z_nmlt, z_mle, z_nmle, z_shl, z_bit1, z_bit0, z_cap, Nat.not_lt_zero, Nat.zero_le, Nat.lt_irrefl, Nat.le_refl, true_implies, false_implies, implies_true, and_true, true_and, not_true_eq_false, not_false_eq_true, and_self, false_and, and_false, if_true, if_false, ite_true, ite_false, reduceCtorEq, Bool.false_eq_true, Bool.true_eq_false, eq_self_iff_true, forall_const, iff_self, r6, hin]
      refine w_leads (hl.fw hs) hL hfu hfn he (fun k hk hc => ?_) ?_
      · obtain ⟨j, j1, j2, j3⟩ := hd.next hL (by omega) hk hc
        rw [← j3]
        exact hf j j1 j2
      · have go : wp_X2_changeFigure s (nI (f i)) (zb (rb L (f i) e)) (fun s72 => wp_X2_figureLeads_L42 fu (nI e) (fun (s_81 : SX) => (P s_81)) g (nI i + mI) s72) := by
          rw [w_changeFigure (by omega), dn_step]
          refine ih (by omega) _ (hs.a (by decide)) e1 e13 e14 ((sA_ne (by decide)).trans e6) ew fun j hj hjs => ?_
          rw [sA_eq]
          rcases Nat.lt_or_eq_of_le hj with c | c
          · rw [upd_ne (Ne.symm (hd.2.2.2.1 i j c hjs).1)]
            exact hf j c hjs
          · subst c; rw [upd_eq]
        refine ⟨fun c => ?_, fun c => ?_⟩
        · have c := (zb_0 _).mp c
          rw [c] at go
          exact go
        · have c : rb L (f i) e = true := by
            cases hb : rb L (f i) e
            · exact absurd ((zb_0 _).mpr hb) c
            · rfl
          rw [c] at go
          exact go) fu sz (by omega)
    unfold wp_X2_figureLeads_J17
    have h7 := hz.1
    have hst : 0 < sz := by
      obtain ⟨j, hj, -⟩ := (hd.2.2.2.2.2.1 st hd.1).mp (Rc_refl hL hd.1)
      omega
    obtain ⟨m, rfl⟩ : ∃ m, sz = m + 1 := ⟨sz - 1, by omega⟩
    rw [h7, z8192, z_min (by omega) (by decide), Nat.min_eq_left hsz, z1, z_pred (by omega), Nat.add_sub_cancel]
    exact key (Nat.le_refl _) _ (((Fw.refl σ).i (by decide)).i (by decide)) (fun j hj => by rw [sI_ne (by omega), sI_ne (by omega)]) rfl rfl rfl rfl (fun j h1 h2 => by omega)
  unfold wp_X2_figureLeads
  refine ⟨fun _ => main, fun c => ⟨fun _ => main, fun c2 => ?_⟩⟩
  rcases hg with g | ⟨g1, e2, g2, g3, g4⟩ | ⟨g, -⟩
  · rw [g] at c; exact absurd c (by decide)
  · rw [g3, nI_eq (by omega) (by omega)] at c2
    subst c2
    exact hP σ (Fw.refl σ) ⟨sz, f, hz, hd, g1, g3, g4⟩
  · rw [g] at c; exact absurd c (by decide)
theorem w_leastOther {s : SX} {L : Ln} {n fu p : Nat} (hl : Lin s L) (hL : Lok n L) (hfu : 20000 ≤ fu) (hp : p < 2 ^ n) (hq : ∀ k, k < L.length → can L p k = true → s.2.1 7 (nx L p k) = nI (Gv L (nx L p k))) {P : Int32 → Prop} (hP : P (nI (Gv L p))) : wp_X2_leastOther fu s (nI p) P := by
  have h8 := pow_13 hL.1
  have hm := hL.2.1
  have hpp := pc_le hp (by have := hL.1; omega)
  have hT := tk_lt hL hp L.length (Nat.le_refl _)
  have key2 := lp (m := 13) (Q := fun g v => (∀ u, u < v → (tk L p L.length).testBit u = true) → wp_X2_leastOther_L51 (nI (tk L p L.length)) (fun (v3_72 : Int32) => (P v3_72)) g (nI v)) (by
    intro g v hv ih hall
    rw [wp_X2_leastOther_L51]
    unfold wp_X2_leastOther_B51
    have done : (v = 13 ∨ (v < 13 ∧ (!(tk L p L.length).testBit v) = true)) → P (nI v) := by
      intro h
      have : mex (fun v => (tk L p L.length).testBit v) = v := first_eq (fun u hu => by simp [hall u hu]) h
      rw [Gv_eq hL hp, this] at hP
      exact hP
    rcases Nat.lt_or_eq_of_le hv with c | c
    · have q : ¬ 13 ≤ v := by omega
      simp (disch := first | assumption | omega) only [↓zm1, z0, z1, z2, z3, z4, z5, z8, z10, z12, z13, z24, z25, z31, z99, z100, z104, z115, z116, z1000, z8192, z10240, nI_leI, nI_ltI, nI_eq, nI_clamp, z_in, z_inl, nI_add, pk_mul, pk_sub, z_pred, z_predm, pk_div, z_em, z_me, z_mlt, z_nmlt, z_mle, z_nmle, z_shl, z_bit1, z_bit0, z_cap, Nat.not_lt_zero, Nat.zero_le, Nat.lt_irrefl, Nat.le_refl, true_implies, false_implies, implies_true, and_true, true_and, not_true_eq_false, not_false_eq_true, and_self, false_and, and_false, if_true, if_false, ite_true, ite_false, reduceCtorEq, Bool.false_eq_true, Bool.true_eq_false, eq_self_iff_true, forall_const, iff_self, q]
      refine ⟨fun r => done (Or.inr ⟨c, ?_⟩), fun r => ih c fun u hu => ?_⟩
      · simp only [Bool.not_eq_true'] at r ⊢
        cases hb : (tk L p L.length).testBit v
        · rfl
        · exact absurd hb r
      · rcases Nat.lt_or_eq_of_le (Nat.lt_succ_iff.mp hu) with d | d
        · exact hall u d
        · subst d; exact r
    · subst c
      simp (disch := first | assumption | omega) only [↓zm1, z0, z1, z2, z3, z4, z5, z8, z10, z12, z13, z24, z25, z31, z99, z100, z104, z115, z116, z1000, z8192, z10240, nI_leI, nI_ltI, nI_eq, nI_clamp, z_in, z_inl, nI_add, pk_mul, pk_sub, z_pred, z_predm, pk_div, z_em, z_me, z_mlt, z_nmlt, z_mle, z_nmle, z_shl, z_bit1, z_bit0, z_cap, Nat.not_lt_zero, Nat.zero_le, Nat.lt_irrefl, Nat.le_refl, true_implies, false_implies, implies_true, and_true, true_and, not_true_eq_false, not_false_eq_true, and_self, false_and, and_false, if_true, if_false, ite_true, ite_false, reduceCtorEq, Bool.false_eq_true, Bool.true_eq_false, eq_self_iff_true, forall_const, iff_self]
      exact done (Or.inl rfl)) fu 0 (by omega) (by omega)
  have key := lp (m := L.length) (Q := fun g k => wp_X2_leastOther_L4 s (nI p) (fun (v2_49 : Int32) => (wp_X2_leastOther_L51 v2_49 (fun (v3_72 : Int32) => (P v3_72)) fu 0)) g (nI k) (nI (tk L p k))) (by
    intro g k hk ih
    rw [wp_X2_leastOther_L4]
    unfold wp_X2_leastOther_B4 wp_X2_leastOther_J43
    rcases Nat.lt_or_eq_of_le hk with c | c
    · have ih := ih c
      have q : ¬ L.length ≤ k := by omega
      unfold tk at ih
      by_cases hc : can L p k = true
      · have hx := nx_lt hL c hp
        have hx2 : nx L p k < 2 ^ 31 := by omega
        have hx3 : nx L p k < 10240 := by omega
        have g1 := Gv_le hL (nx L p k)
        have g2 := can_pc hL c hc
        have hn := hL.1
        have g3 : Gv L (nx L p k) < 31 := by omega
        simp (disch := first | assumption | omega) only [w_lineCount hl, ↓zm1, z0, z1, z2, z3, z4, z5, z8, z10, z12, z13, z24, z25, z31, z99, z100, z104, z115, z116, z1000, z8192, z10240, nI_leI, nI_ltI, nI_eq, nI_clamp, z_in, z_inl, nI_add, pk_mul, pk_sub, z_pred, z_predm, pk_div, z_em, z_me, z_mlt, z_nmlt, z_mle, z_nmle, z_shl, z_bit1, z_bit0, z_cap, Nat.not_lt_zero, Nat.zero_le, Nat.lt_irrefl, Nat.le_refl, true_implies, false_implies, implies_true, and_true, true_and, not_true_eq_false, not_false_eq_true, and_self, false_and, and_false, if_true, if_false, ite_true, ite_false, reduceCtorEq, Bool.false_eq_true, Bool.true_eq_false, eq_self_iff_true, forall_const, iff_self, q, w_behind hl hL, c, hc, w_figureAt, hq k c hc, fa_or]
        simp only [hc, if_true] at ih
        exact ih
      · simp (disch := first | assumption | omega) only [w_lineCount hl, ↓zm1, z0, z1, z2, z3, z4, z5, z8, z10, z12, z13, z24, z25, z31, z99, z100, z104, z115, z116, z1000, z8192, z10240, nI_leI, nI_ltI, nI_eq, nI_clamp, z_in, z_inl, nI_add, pk_mul, pk_sub, z_pred, z_predm, pk_div, z_em, z_me, z_mlt, z_nmlt, z_mle, z_nmle, z_shl, z_bit1, z_bit0, z_cap, Nat.not_lt_zero, Nat.zero_le, Nat.lt_irrefl, Nat.le_refl, true_implies, false_implies, implies_true, and_true, true_and, not_true_eq_false, not_false_eq_true, and_self, false_and, and_false, if_true, if_false, ite_true, ite_false, reduceCtorEq, Bool.false_eq_true, Bool.true_eq_false, eq_self_iff_true, forall_const, iff_self, q, w_behind hl hL, c, hc]
        simp only [hc] at ih
        exact ih
    · subst c
      simp (disch := first | assumption | omega) only [w_lineCount hl, ↓zm1, z0, z1, z2, z3, z4, z5, z8, z10, z12, z13, z24, z25, z31, z99, z100, z104, z115, z116, z1000, z8192, z10240, nI_leI, nI_ltI, nI_eq, nI_clamp, z_in, z_inl, nI_add, pk_mul, pk_sub, z_pred, z_predm, pk_div, z_em, z_me, z_mlt, z_nmlt, z_mle, z_nmle, z_shl, z_bit1, z_bit0, z_cap, Nat.not_lt_zero, Nat.zero_le, Nat.lt_irrefl, Nat.le_refl, true_implies, false_implies, implies_true, and_true, true_and, not_true_eq_false, not_false_eq_true, and_self, false_and, and_false, if_true, if_false, ite_true, ite_false, reduceCtorEq, Bool.false_eq_true, Bool.true_eq_false, eq_self_iff_true, forall_const, iff_self]
      exact key2 (fun u hu => by omega)) fu 0 (by omega) (by omega)
  exact key
theorem w_figureValues {σ : SX} {L : Ln} {n fu st : Nat} (hl : Lin σ L) (hL : Lok n L) (hfu : 20000 ≤ fu) (hW : Ws σ n L st) {P : SX → Prop} (hP : ∀ s, Fw s σ → Wv s n L st → P s) : wp_X2_figureValues fu σ P := by
  have h8 := pow_13 hL.1
  obtain ⟨sz, f, hz, hd, hg⟩ := hW
  have hsz := hz.2.1
  unfold wp_X2_figureValues
  refine ⟨fun _ => ?_, fun c => ?_⟩
  · have key := lpd (Q := fun g i => i ≤ sz → ∀ s, Fw s σ → (∀ j, j < 13 → s.1 j = σ.1 j) → s.1 13 = nI 2 → s.2.1 6 = σ.2.1 6 → s.2.2 = σ.2.2 → (∀ j, i ≤ j → j < sz → s.2.1 7 (f j) = nI (Gv L (f j))) → wp_X2_figureValues_L29 fu (fun (s_59 : SX) => (P s_59)) g (dn i) s) (by
      intro g hi s hs e1 e13 e6 ew hf
      rw [wp_X2_figureValues_L29]
      unfold wp_X2_figureValues_B29 dn
      simp (disch := first | assumption | omega) only [↓zm1, z0, z1, z2, z3, z4, z5, z8, z10, z12, z13, z24, z25, z31, z99, z100, z104, z115, z116, z1000, z8192, z10240, nI_leI, nI_ltI, nI_eq, nI_clamp, z_in, z_inl, nI_add, pk_mul, pk_sub, z_pred, z_predm, pk_div, z_em, z_me, z_mlt, z_nmlt, z_mle, z_nmle, z_shl, z_bit1, z_bit0, z_cap, Nat.not_lt_zero, Nat.zero_le, Nat.lt_irrefl, Nat.le_refl, true_implies, false_implies, implies_true, and_true, true_and, not_true_eq_false, not_false_eq_true, and_self, false_and, and_false, if_true, if_false, ite_true, ite_false, reduceCtorEq, Bool.false_eq_true, Bool.true_eq_false, eq_self_iff_true, forall_const, iff_self]
      exact hP s hs ⟨sz, f, hz.fig (e1 7 (by decide)) e6 ew, hd.fig e1 ew, e13, fun j hj => hf j (Nat.zero_le _) hj⟩) (by
      intro g i ih hi s hs e1 e13 e6 ew hf
      rw [wp_X2_figureValues_L29]
      unfold wp_X2_figureValues_B29 dn
      have hfi := hz.2.2.1 i (by omega)
      have hfn := hd.2.2.1 i (by omega)
      have hin : i < 8192 := by omega
      have r6 : s.2.1 6 i = nI (f i) := by rw [e6]; exact hfi.2
      simp (disch := first | assumption | omega) only [↓zm1, z0, z1, z2, z3, z4, z5, z8, z10, z12, z13, z24, z25, z31, z99, z100, z104, z115, z116, z1000, z8192, z10240, nI_leI, nI_ltI, nI_eq, nI_clamp, z_in, z_inl, nI_add, pk_mul, pk_sub, z_pred, z_predm, pk_div, z_em, z_me, z_mlt, z_nmlt, z_mle, z_nmle, z_shl, z_bit1, z_bit0, z_cap, Nat.not_lt_zero, Nat.zero_le, Nat.lt_irrefl, Nat.le_refl, true_implies, false_implies, implies_true, and_true, true_and, not_true_eq_false, not_false_eq_true, and_self, false_and, and_false, if_true, if_false, ite_true, ite_false, reduceCtorEq, Bool.false_eq_true, Bool.true_eq_false, eq_self_iff_true, forall_const, iff_self, r6, hin]
      refine w_leastOther (hl.fw hs) hL hfu hfn (fun k hk hc => ?_) ?_
      · obtain ⟨j, j1, j2, j3⟩ := hd.next hL (by omega) hk hc
        rw [← j3]
        exact hf j j1 j2
      · rw [w_changeFigure (by omega), dn_step]
        refine ih (by omega) _ (hs.a (by decide)) e1 e13 ((sA_ne (by decide)).trans e6) ew fun j hj hjs => ?_
        rw [sA_eq]
        rcases Nat.lt_or_eq_of_le hj with c | c
        · rw [upd_ne (Ne.symm (hd.2.2.2.1 i j c hjs).1)]
          exact hf j c hjs
        · subst c; rw [upd_eq]) fu sz (by omega)
    have h7 := hz.1
    have hst : 0 < sz := by
      obtain ⟨j, hj, -⟩ := (hd.2.2.2.2.2.1 st hd.1).mp (Rc_refl hL hd.1)
      omega
    obtain ⟨m, rfl⟩ : ∃ m, sz = m + 1 := ⟨sz - 1, by omega⟩
    rw [h7, z8192, z_min (by omega) (by decide), Nat.min_eq_left hsz, z1, z_pred (by omega), Nat.add_sub_cancel]
    exact key (Nat.le_refl _) _ ((Fw.refl σ).i (by decide)) (fun j hj => by rw [sI_ne (by omega)]) rfl rfl rfl (fun j h1 h2 => by omega)
  · rcases hg with g | ⟨g, -⟩ | ⟨g, g2⟩
    · rw [g] at c; exact absurd c (by decide)
    · rw [g] at c; exact absurd c (by decide)
    · exact hP σ (Fw.refl σ) ⟨sz, f, hz, hd, g, g2⟩
