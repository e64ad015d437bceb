def rb (L : Ln) (p e : Nat) : Bool := decide (0 < Wy L e p)
theorem rb_iff (L : Ln) (p e : Nat) : rb L p e = true ↔ Rc L p e := by unfold rb Rc; exact decide_eq_true_iff
def Wsz (σ : SX) (sz : Nat) (f : Nat → Nat) : Prop := σ.1 7 = nI sz ∧ sz ≤ 8192 ∧ (∀ j, j < sz → f j < 8192 ∧ σ.2.1 6 j = nI (f j)) ∧ ∀ q, q < 8192 → (∀ j, j < sz → f j ≠ q) → σ.2.2 q = 0
def Wdn (σ : SX) (n : Nat) (L : Ln) (st sz : Nat) (f : Nat → Nat) : Prop := st < 2 ^ n ∧ σ.1 8 = nI st ∧ (∀ j, j < sz → f j < 2 ^ n) ∧ (∀ j k, j < k → k < sz → f j ≠ f k ∧ pc (f k) ≤ pc (f j)) ∧ (∀ q, q < 2 ^ n → σ.2.2 q = lN (Wy L q st)) ∧ (∀ q, q < 2 ^ n → (Rc L st q ↔ ∃ j, j < sz ∧ f j = q)) ∧
  σ.1 9 = nI (fb_ct (fun j => decide (J L (f j) = 0)) sz) ∧ σ.1 10 = nI (mnS st f sz) ∧ σ.1 11 = nI (orS f sz) ∧ σ.1 12 = nI (fb_sm (fun j => J L (f j)) sz)
/-- the values of positions -/
def mex (q : Nat → Bool) : Nat := fa_first (fun v => !q v) 13
def gv (L : Ln) : Nat → Nat → Nat
  | 0, _ => 0
  | d + 1, p => mex (fun v => decide (0 < fb_ct (fun k => can L p k && decide (gv L d (nx L p k) = v)) L.length))
def Gv (L : Ln) (p : Nat) : Nat := gv L 13 p
def Wfg (σ : SX) (n : Nat) (L : Ln) (sz : Nat) (f : Nat → Nat) : Prop := σ.1 13 = nI 0 ∨ (σ.1 13 = nI 1 ∧ ∃ e, e < 2 ^ n ∧ σ.1 14 = nI e ∧ ∀ j, j < sz → σ.2.1 7 (f j) = zb (rb L (f j) e)) ∨ (σ.1 13 = nI 2 ∧ ∀ j, j < sz → σ.2.1 7 (f j) = nI (Gv L (f j)))
def Wk (σ : SX) (n : Nat) (L : Ln) : Prop := ∃ sz f, Wsz σ sz f ∧ (σ.1 8 = mI ∨ ∃ st, Wdn σ n L st sz f ∧ Wfg σ n L sz f)
/-- a walk from st stands -/
def Ws (σ : SX) (n : Nat) (L : Ln) (st : Nat) : Prop := ∃ sz f, Wsz σ sz f ∧ Wdn σ n L st sz f ∧ Wfg σ n L sz f
theorem Ws.wk {σ : SX} {n : Nat} {L : Ln} {st : Nat} (h : Ws σ n L st) : Wk σ n L := by
  obtain ⟨sz, f, h1, h2, h3⟩ := h
  exact ⟨sz, f, h1, Or.inr ⟨st, h2, h3⟩⟩
theorem w_wipe {σ : SX} {fu sz : Nat} {f : Nat → Nat} (hfu : 20000 ≤ fu) (h : Wsz σ sz f) {P : SX → Prop} (hP : ∀ s, Fw s σ → s.1 7 = nI 0 → s.1 9 = nI 0 → s.1 11 = nI 0 → s.1 12 = nI 0 → s.1 13 = nI 0 → (∀ q, q < 8192 → s.2.2 q = 0) → P s) : wp_X2_wipe fu σ P := by
  obtain ⟨h7, hsz, hf, hw⟩ := h
  have key := lp (m := sz) (Q := fun g i => ∀ s, Fw s σ → s.1 = σ.1 → s.2.1 = σ.2.1 → (∀ q, q < 8192 → (∀ j, i ≤ j → j < sz → f j ≠ q) → s.2.2 q = 0) → wp_X2_wipe_L2 (fun (s_52 : SX) => (P (sI (sI (sI (sI (sI s_52 7 0) 9 0) 11 0) 12 0) 13 0))) g (nI i) s) (by
    intro g i hi ih s hs e1 e2 hz
    rw [wp_X2_wipe_L2]
    unfold wp_X2_wipe_B2 wp_X2_wipe_J46
    rcases Nat.lt_or_eq_of_le hi with c | c
    · have ih := ih c
      have hfi := hf i c
      have q1 : ¬ sz ≤ i := by omega
      have q2 : ¬ 8192 ≤ i := by omega
      have q3 : i < 8192 := by omega
      have q4 := hfi.1
      have q5 : ¬ 8192 ≤ f i := by omega
      rw [e1, e2]
      simp (disch := first | assumption | omega) only [↓zm1, z0, z1, z2, z3, z4, z5, z8, z10, z12, z13, z24, z25, z31, z99, z100, z104, z115, z116, z1000, z8192, z10240, nI_leI, nI_ltI, nI_eq, nI_clamp, z_in, z_inl, nI_add, pk_mul, pk_sub, z_pred, z_predm, pk_div, z_em, z_me, z_mlt, z_nmlt, z_mle, z_nmle, z_shl, z_bit1, z_bit0, z_cap, Nat.not_lt_zero, Nat.zero_le, Nat.lt_irrefl, Nat.le_refl, true_implies, false_implies, implies_true, and_true, true_and, not_true_eq_false, not_false_eq_true, and_self, false_and, and_false, if_true, if_false, ite_true, ite_false, reduceCtorEq, Bool.false_eq_true, Bool.true_eq_false, eq_self_iff_true, forall_const, iff_self, h7, hfi.2, q1, q2, q3, q4, q5]
      refine ih _ hs.j e1 e2 fun q hq hn => ?_
      show vp_updL s.2.2 (f i) 0 q = 0
      by_cases e : q = f i
      · subst e; rw [updL_eq]
      · rw [updL_ne e]
        refine hz q hq fun j hj hjs => ?_
        rcases Nat.lt_or_eq_of_le hj with d | d
        · exact hn j (by omega) hjs
        · subst d; exact fun e3 => e e3.symm
    · subst c
      rw [e1]
      simp (disch := first | assumption | omega) only [↓zm1, z0, z1, z2, z3, z4, z5, z8, z10, z12, z13, z24, z25, z31, z99, z100, z104, z115, z116, z1000, z8192, z10240, nI_leI, nI_ltI, nI_eq, nI_clamp, z_in, z_inl, nI_add, pk_mul, pk_sub, z_pred, z_predm, pk_div, z_em, z_me, z_mlt, z_nmlt, z_mle, z_nmle, z_shl, z_bit1, z_bit0, z_cap, Nat.not_lt_zero, Nat.zero_le, Nat.lt_irrefl, Nat.le_refl, true_implies, false_implies, implies_true, and_true, true_and, not_true_eq_false, not_false_eq_true, and_self, false_and, and_false, if_true, if_false, ite_true, ite_false, reduceCtorEq, Bool.false_eq_true, Bool.true_eq_false, eq_self_iff_true, forall_const, iff_self, h7]
      refine hP _ (((((hs.i (by decide)).i (by decide)).i (by decide)).i (by decide)).i (by decide)) rfl rfl rfl rfl rfl fun q hq => ?_
      exact hz q hq fun j hj hj2 => absurd hj (by omega)) fu 0 (by omega) (by omega)
  unfold wp_X2_wipe
  exact key σ (Fw.refl σ) rfl rfl (fun q hq hn => hw q hq fun j hj => hn j (by omega) hj)
theorem w_begin {σ : SX} {L : Ln} {n fu p : Nat} (hl : Lin σ L) (hL : Lok n L) (hfu : 20000 ≤ fu) (hp : p < 2 ^ n) (hk : Wk σ n L) {P : SX → Prop} (hP : ∀ s, Fw s σ → Ws s n L p → P s) : wp_X2_begin fu σ (nI p) P := by
  have hn := hL.1
  have h8 := pow_13 hn
  obtain ⟨sz, f, hz, hk⟩ := hk
  have main : wp_X2_wipe fu σ (fun s10 => (wp_J6_bitCount_0f7a4 (nI p) (fun r20 => (wp_X2_find (sI (sI s10 8 (nI p)) 10 r20) (nI p) 1 (fun s29 => (wp_X2_begin_L34 fu (fun (s_67 : SX) => (P s_67)) fu 0 s29)))))) := by
    refine w_wipe hfu hz fun s hs z7 z9 z11 z12 z13 zw => ?_
    rw [bc_pc (by omega)]
    have hM0 : Mid (sI (sI s 8 (nI p)) 10 (nI (pc p))) p 0 (fun _ => p) (fun _ => 0) := by
      refine ⟨z7, rfl, fun j hj => by omega, fun q hq => zw q hq⟩
    rw [l_1]
    refine w_find hM0 (by omega) (by decide) (by omega) (by omega) fun s' g1 g2 g3 => ?_
    have e1 : upN (fun _ => p) 0 p = fun _ => p := by funext x; unfold upN; split <;> rfl
    simp only [if_true, e1, Nat.zero_add] at g3
    have hA0 : Ag s' L p 0 (fun _ => p) := by
      refine ⟨(g2 9 (by decide)).trans z9, (g2 10 (by decide)).trans rfl, (g2 11 (by decide)).trans z11, (g2 12 (by decide)).trans z12, (g2 13 (by decide)).trans z13⟩
    have key := lp (m := 8192) (Q := fun g i => ∀ s sz f wn, Fw s σ → Mid s p sz f wn → Ag s L p i f → MidP n L p i sz f wn → wp_X2_begin_L34 fu (fun (s_67 : SX) => (P s_67)) g (nI i) s) (by
      intro g i hi ih s sz f wn hs hM hA hV
      have hsz : sz ≤ 8192 := Nat.le_trans (Fnd_sz hV.2.1) h8
      rw [wp_X2_begin_L34]
      unfold wp_X2_begin_B34
      rcases Nat.lt_or_eq_of_le hV.1 with c | c
      · have ih := ih (by omega)
        have q1 : ¬ sz ≤ i := by omega
        have q2 : ¬ 8192 ≤ i := by omega
        have q3 : i < 8192 := by omega
        have q4 := hM.2.2.1 i c
        simp (disch := first | assumption | omega) only [↓zm1, z0, z1, z2, z3, z4, z5, z8, z10, z12, z13, z24, z25, z31, z99, z100, z104, z115, z116, z1000, z8192, z10240, nI_leI, nI_ltI, nI_eq, nI_clamp, z_in, z_inl, nI_add, pk_mul, pk_sub, z_pred, z_predm, pk_div, z_em, z_me, z_mlt, z_nmlt, z_mle, z_nmle, z_shl, z_bit1, z_bit0, z_cap, Nat.not_lt_zero, Nat.zero_le, Nat.lt_irrefl, Nat.le_refl, true_implies, false_implies, implies_true, and_true, true_and, not_true_eq_false, not_false_eq_true, and_self, false_and, and_false, if_true, if_false, ite_true, ite_false, reduceCtorEq, Bool.false_eq_true, Bool.true_eq_false, eq_self_iff_true, forall_const, iff_self, hM.1, q1, q2, q3, q4]
        refine w_visit hl hL hfu hp hs hM hA hV c fun s' sz' f' wn' b1 b2 b3 b4 => ?_
        exact ih s' sz' f' wn' b1 b2 b3 b4
      · subst c
        have m7 := hM.1
        simp (disch := first | assumption | omega) only [↓zm1, z0, z1, z2, z3, z4, z5, z8, z10, z12, z13, z24, z25, z31, z99, z100, z104, z115, z116, z1000, z8192, z10240, nI_leI, nI_ltI, nI_eq, nI_clamp, z_in, z_inl, nI_add, pk_mul, pk_sub, z_pred, z_predm, pk_div, z_em, z_me, z_mlt, z_nmlt, z_mle, z_nmle, z_shl, z_bit1, z_bit0, z_cap, Nat.not_lt_zero, Nat.zero_le, Nat.lt_irrefl, Nat.le_refl, true_implies, false_implies, implies_true, and_true, true_and, not_true_eq_false, not_false_eq_true, and_self, false_and, and_false, if_true, if_false, ite_true, ite_false, reduceCtorEq, Bool.false_eq_true, Bool.true_eq_false, eq_self_iff_true, forall_const, iff_self, m7]
        have hend := MidP_end hV
        have hF := hV.2.1
        refine hP s hs ⟨i, f, ⟨m7, hsz, fun j hj => ⟨Nat.lt_of_lt_of_le (hF.1 j hj) h8, hM.2.2.1 j hj⟩, fun q hq hno => ?_⟩, ⟨hp, hM.2.1, hF.1, hF.2.1, fun q hq => ?_, fun q hq => ?_, hA.1, hA.2.1, hA.2.2.1, hA.2.2.2.1⟩, Or.inl hA.2.2.2.2⟩
        · rw [hM.2.2.2 q hq, (hF.2.2 q).mpr hno]; rfl
        · rw [hM.2.2.2 q (by omega), hend q hq]
        · unfold Rc
          rw [← hend q hq]
          constructor
          · intro h
            refine Classical.byContradiction fun c => ?_
            have := (hF.2.2 q).mpr fun j hj e => c ⟨j, hj, e⟩
            omega
          · rintro ⟨j, hj, e⟩
            exact Nat.pos_of_ne_zero fun z => (hF.2.2 q).mp z j hj e) fu 0 (by omega) (by omega)
    exact key s' 1 (fun _ => p) _ (g1.trans ((hs.i (by decide)).i (by decide))) g3 hA0 (MidP_start hp)
  unfold wp_X2_begin
  refine ⟨fun _ => main, fun c => ?_⟩
  rcases hk with hk | ⟨st, hd, hg⟩
  · rw [hk, z_em (by omega)] at c
    exact c.elim
  · have hd0 := hd
    obtain ⟨d1, d2, -⟩ := hd
    rw [d2, nI_eq (by omega) (by omega)] at c
    subst c
    exact hP σ (Fw.refl σ) ⟨sz, f, hz, hd0, hg⟩
