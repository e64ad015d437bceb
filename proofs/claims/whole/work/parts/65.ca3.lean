/-! ===== the calls that walk ===== -/
section CALLS3
variable {σ : SX} {u : FX} {fu : Nat} {a1 a2 : Int32} {f : Nat → Int64} {K : SX → (Nat → Int64) → FX → Prop}
theorem w_ways0 {s : SX} {q : Nat} (hq : q < 8192) {P : Int64 → Prop} : wp_X2_waysTo s (nI q) P ↔ P (s.2.2 q) := by
  unfold wp_X2_waysTo
  have q1 : ¬ 8192 ≤ q := by omega
  simp (disch := first | assumption | omega) only [↓zm1, z0, z1, z2, z3, z4, z5, z8, z10, z12, z13, z24, z25, z31, z99, z100, z104, z115, z116, z1000, z8192, z10240, nI_leI, nI_ltI, nI_eq, nI_clamp, z_in, z_inl, nI_add, pk_mul, pk_sub, z_pred, z_predm, pk_div, z_em, z_me, z_mlt, z_nmlt, z_mle, z_nmle, z_shl, z_bit1, z_bit0, z_cap, Nat.not_lt_zero, Nat.zero_le, Nat.lt_irrefl, Nat.le_refl, true_implies, false_implies, implies_true, and_true, true_and, not_true_eq_false, not_false_eq_true, and_self, false_and, and_false, if_true, if_false, ite_true, ite_false, reduceCtorEq, Bool.false_eq_true, Bool.true_eq_false, eq_self_iff_true, forall_const, iff_self, q1, hq]
theorem Rs.cw {n kd p e mdn tdn : Nat} {c md td : Nat → Nat} {w : Nat → Int32} (h : Rs u n kd p e mdn tdn c md td w) (v : Int32) (g : Nat → Int64) : Rs (sJ (sI u.1 5 v) g, u.2) n kd p e mdn tdn c md td w := h.core (fun j hj => sI_ne (by omega)) (fun _ _ => rfl)
theorem Rs.cv {n kd p e mdn tdn : Nat} {c md td : Nat → Nat} {w : Nat → Int32} (h : Rs u n kd p e mdn tdn c md td w) (v : Int32) (g : Nat → Int32) : Rs (sA (sI u.1 5 v) 7 g, u.2) n kd p e mdn tdn c md td w := h.core (fun j hj => sI_ne (by omega)) (fun j hj => sA_ne (by omega))
theorem c_19 (hfu : 20000 ≤ fu) (hI : Inv σ u) (hK : ∀ σ' f' u', Inv σ' u' → K σ' f' u') : wp_case19 fu σ f u K := by
  obtain ⟨n, kd, p, e, mdn, tdn, c, md, td, w, hA, hH, hR⟩ := hI
  have hL := lns_ok hA.1 hA.2.1
  have h8 := pow_13 hA.1.1
  have hp := hA.2.2.1
  have he := hA.2.2.2.1
  unfold wp_case19 wp_X3_ways wp_X4_ways wp_X4_waysNow
  rw [hH.2.2.1]
  refine w_begin hH.1.2.1 hL hfu hp hH.2.1 fun s g1 g2 => ?_
  rw [hH.2.2.2.1]
  refine (w_ways0 (by omega)).mpr ?_
  have hw := (g2.mg (σ := σ)).out hL
  have hH' := hH.walk g1 g2.wk
  refine r_counts (u := sI u.1 5 0) hR.2.1 hL hfu he hR.1.1 hR.2.2.2.1 fun ww hww => ?_
  show vp_in (u.1.1 2) 8192 ∧ _
  have e2 : (sJ (sI u.1 5 0) ww).1 2 = nI p := hR.2.2.1
  rw [hR.2.2.1]
  refine ⟨(z_in (by omega)).mpr (by omega), ?_⟩
  refine finL ?_ (hK _ _ _ ⟨n, kd, p, e, mdn, tdn, c, md, td, w, hA, hH', hR.cw _ _⟩)
  rw [hw.2.2.2.2.2 e he, e2, nI_clamp (by omega)]
  exact (hww p hp).symm
theorem c_18 (hfu : 20000 ≤ fu) (hI : Inv σ u) (hK : ∀ σ' f' u', Inv σ' u' → K σ' f' u') : wp_case18 fu σ f u K := by
  obtain ⟨n, kd, p, e, mdn, tdn, c, md, td, w, hA, hH, hR⟩ := hI
  have hL := lns_ok hA.1 hA.2.1
  have h8 := pow_13 hA.1.1
  have hp := hA.2.2.1
  have he := hA.2.2.2.1
  unfold wp_case18 wp_X3_canEnd wp_X4_canEnd wp_X4_waysNow
  rw [hH.2.2.1]
  refine w_begin hH.1.2.1 hL hfu hp hH.2.1 fun s g1 g2 => ?_
  rw [hH.2.2.2.1]
  refine (w_ways0 (by omega)).mpr ?_
  have hw := (g2.mg (σ := σ)).out hL
  have hH' := hH.walk g1 g2.wk
  have hlt := Wy_lt hL e hp
  rw [hw.2.2.2.2.2 e he]
  have rr : ∀ Q : Int32 → SX → Prop, (∀ ww : Nat → Int64, ((lg_cmp (lN (Wy (lns c n kd) e p)) 0) ≤ 0 → Q 0 (sJ (sI u.1 5 0) ww)) ∧ (¬ (lg_cmp (lN (Wy (lns c n kd) e p)) 0) ≤ 0 → Q 1 (sJ (sI u.1 5 0) ww))) → wp_X4_counts fu (sI u.1 5 0) (fun s1 => (vp_in (s1.1 2) 8192 ∧ (((lg_cmp (s1.2.2 (s1.1 2).toNatClampNeg) 0) ≤ 0 → Q 0 s1) ∧ (¬ (lg_cmp (s1.2.2 (s1.1 2).toNatClampNeg) 0) ≤ 0 → Q 1 s1)))) := by
    intro Q hQ
    refine r_counts (u := sI u.1 5 0) hR.2.1 hL hfu he hR.1.1 hR.2.2.2.1 fun ww hww => ?_
    have e2 : (sJ (sI u.1 5 0) ww).1 2 = nI p := hR.2.2.1
    rw [e2]
    refine ⟨(z_in (by omega)).mpr (by omega), ?_⟩
    have e3 : (sJ (sI u.1 5 0) ww).2.2 (nI p).toNatClampNeg = lN (Wy (lns c n kd) e p) := by
      rw [nI_clamp (by omega)]; exact hww p hp
    rw [e3]
    exact hQ ww
  refine ⟨fun g => ?_, fun g => ?_⟩
  · exact rr (fun r t => ((0 : Int32) = r → K (mgX2 σ s) f (t, u.2)) ∧ (¬ (0 : Int32) = r → False)) fun ww => ⟨fun _ => finE rfl (hK _ _ _ ⟨n, kd, p, e, mdn, tdn, c, md, td, w, hA, hH', hR.cw _ _⟩), fun q => absurd g q⟩
  · exact rr (fun r t => ((1 : Int32) = r → K (mgX2 σ s) f (t, u.2)) ∧ (¬ (1 : Int32) = r → False)) fun ww => ⟨fun q => absurd q g, fun _ => finE rfl (hK _ _ _ ⟨n, kd, p, e, mdn, tdn, c, md, td, w, hA, hH', hR.cw _ _⟩)⟩
theorem c_22 (hfu : 20000 ≤ fu) (hI : Inv σ u) (hK : ∀ σ' f' u', Inv σ' u' → K σ' f' u') : wp_case22 fu σ f u K := by
  obtain ⟨n, kd, p, e, mdn, tdn, c, md, td, w, hA, hH, hR⟩ := hI
  have hL := lns_ok hA.1 hA.2.1
  have hp := hA.2.2.1
  unfold wp_case22 wp_X3_reached wp_X4_reached
  rw [hH.2.2.1]
  refine w_begin hH.1.2.1 hL hfu hp hH.2.1 fun s g1 g2 => ?_
  have hw := g2.out hL
  have hH' := hH.walk g1 g2.wk
  refine r_reaches (u := sI u.1 5 0) hR.2.1 hL hfu hp hR.1.1 hR.2.2.1 fun g hg => ?_
  exact finE hw.1 (hK _ _ _ ⟨n, kd, p, e, mdn, tdn, c, md, td, w, hA, hH', hR.row6 _ _⟩)
theorem c_23 (hfu : 20000 ≤ fu) (hI : Inv σ u) (hK : ∀ σ' f' u', Inv σ' u' → K σ' f' u') : wp_case23 fu σ f u K := by
  obtain ⟨n, kd, p, e, mdn, tdn, c, md, td, w, hA, hH, hR⟩ := hI
  have hL := lns_ok hA.1 hA.2.1
  have hp := hA.2.2.1
  unfold wp_case23 wp_X3_dead
  rw [hH.2.2.1]
  refine w_begin hH.1.2.1 hL hfu hp hH.2.1 fun s g1 g2 => ?_
  have hw := g2.out hL
  have hH' := hH.walk g1 g2.wk
  refine r_dead hR.2.1 hL hfu hp hR.1.1 hR.2.2.1 fun g => ?_
  exact finE hw.2.1 (hK _ _ _ ⟨n, kd, p, e, mdn, tdn, c, md, td, w, hA, hH', hR.row6 _ _⟩)
theorem c_24 (hfu : 20000 ≤ fu) (hI : Inv σ u) (hK : ∀ σ' f' u', Inv σ' u' → K σ' f' u') : wp_case24 fu σ f u K := by
  obtain ⟨n, kd, p, e, mdn, tdn, c, md, td, w, hA, hH, hR⟩ := hI
  have hL := lns_ok hA.1 hA.2.1
  have hp := hA.2.2.1
  unfold wp_case24 wp_X3_fewest
  rw [hH.2.2.1]
  refine w_begin hH.1.2.1 hL hfu hp hH.2.1 fun s g1 g2 => ?_
  have hw := g2.out hL
  have hH' := hH.walk g1 g2.wk
  refine r_fewest hR.2.1 hL hfu hp hR.1.1 hR.2.2.1 fun g => ?_
  exact finE hw.2.2.1 (hK _ _ _ ⟨n, kd, p, e, mdn, tdn, c, md, td, w, hA, hH', hR.row6 _ _⟩)
theorem c_42 (hfu : 20000 ≤ fu) (hI : Inv σ u) (hK : ∀ σ' f' u', Inv σ' u' → K σ' f' u') : wp_case42 fu σ f u K := by
  obtain ⟨n, kd, p, e, mdn, tdn, c, md, td, w, hA, hH, hR⟩ := hI
  have hL := lns_ok hA.1 hA.2.1
  have h8 := pow_13 hA.1.1
  have hp := hA.2.2.1
  have hm := hL.2.1
  unfold wp_case42 wp_X3_meanJumps
  rw [hH.2.2.1]
  refine w_begin hH.1.2.1 hL hfu hp hH.2.1 fun s g1 g2 => ?_
  have hw := g2.out hL
  have hH' := hH.walk g1 g2.wk
  have c1 : fb_ct (rb (lns c n kd) p) (2 ^ n) ≤ 2 ^ n := fb_ct_le _ _
  have c0 : 0 < fb_ct (rb (lns c n kd) p) (2 ^ n) := fb_ct_pos.mpr ⟨p, hp, (rb_iff _ _ _).mpr (Rc_refl hL hp)⟩
  have c2 : fb_sm (fun q => if rb (lns c n kd) p q = true then J (lns c n kd) q else 0) (2 ^ n) ≤ 2 ^ n * 104 := fb_sm_bound fun k _ => by
    split
    · have := fb_ct_le (can (lns c n kd) k) (lns c n kd).length
      unfold J; omega
    · omega
  have ds := dd_self (a := fb_sm (fun q => if rb (lns c n kd) p q = true then J (lns c n kd) q else 0) (2 ^ n)) (b := fb_ct (rb (lns c n kd) p) (2 ^ n)) (by omega) (by omega) c0
  have dn := dd_n64 (dd_nan (a := fb_sm (fun q => if rb (lns c n kd) p q = true then J (lns c n kd) q else 0) (2 ^ n)) (b := fb_ct (rb (lns c n kd) p) (2 ^ n)) (by omega) (by omega) c0)
  rw [hw.1, hw.2.2.2.2.1]
  refine ⟨fun _ => ⟨dn, ?_⟩, fun g => absurd g (nI_ne0 c0 (by omega))⟩
  refine r_meanJumps hR.2.1 hL hfu hp hR.1.1 hR.2.2.1 fun g => ⟨dn, ?_⟩
  rw [ds]
  exact ⟨fun _ => hK _ _ _ ⟨n, kd, p, e, mdn, tdn, c, md, td, w, hA, hH', hR.row6 _ _⟩, fun q => absurd rfl q⟩
theorem c_34 (hfu : 20000 ≤ fu) (hI : Inv σ u) (hK : ∀ σ' f' u', Inv σ' u' → K σ' f' u') : wp_case34 fu σ f u K := by
  obtain ⟨n, kd, p, e, mdn, tdn, c, md, td, w, hA, hH, hR⟩ := hI
  have hL := lns_ok hA.1 hA.2.1
  have h8 := pow_13 hA.1.1
  have hp := hA.2.2.1
  unfold wp_case34 wp_X3_value wp_X4_value_
  rw [hH.2.2.1]
  refine w_begin hH.1.2.1 hL hfu hp hH.2.1 fun s g1 g2 => ?_
  have hH' := hH.walk g1 g2.wk
  refine w_figureValues hH'.1.2.1 hL hfu g2.mg fun s2 g3 g4 => ?_
  have hH2 := hH'.walk g3 g4.ws.wk
  refine (w_figureAt (by omega)).mpr ?_
  refine r_valueAll (u := sI u.1 5 0) hR.2.1 hL hfu hR.1.1 fun ww hww => ?_
  have e2 : (sA (sI u.1 5 0) 7 ww).1 2 = nI p := hR.2.2.1
  rw [e2]
  refine ⟨(z_in (by omega)).mpr (by omega), ?_⟩
  refine finE ?_ (hK _ _ _ ⟨n, kd, p, e, mdn, tdn, c, md, td, w, hA, hH2, hR.cv _ _⟩)
  rw [sA_eq, nI_clamp (by omega), hww p hp]
  exact g4.fig hp (Rc_refl hL hp)
/-! the first line to a position with a figure -/
theorem w_lineTo {s : SX} {L : Ln} {n p : Nat} {x : Int32} (hl : Lin s L) (hL : Lok n L) (hfu : 20000 ≤ fu) (h15 : s.1 15 = nI p) (hp : p < 2 ^ n) (g : Nat → Bool) (hg : ∀ k, k < L.length → can L p k = true → (s.2.1 7 (nx L p k) = x ↔ g k = true)) {P : Int32 → Prop} (hP : ∀ k, k = fa_first (fun k => can L p k && g k) L.length → P (if k < L.length then nI k else mI)) : wp_X3_lineTo fu s x P := by
  have h8 := pow_13 hL.1
  have hm := hL.2.1
  have key := lp (m := L.length) (Q := fun f i => (∀ j, j < i → (can L p j && g j) = false) → wp_X3_lineTo_L2 s x P (P (-1)) f (nI i)) (by
    intro f i hi ih hno
    rw [wp_X3_lineTo_L2]
    unfold wp_X3_lineTo_B2 wp_X3_lineTo_J45
    rw [w_lineCount hl, h15, nI_leI (by omega) (by omega)]
    have skip : i < L.length → (can L p i && g i) = false → wp_X3_lineTo_L2 s x P (P (-1)) f (nI i + 1) := fun d e => by
      have ih := ih d
      rw [nI_succ] at ih
      refine ih fun j hj => ?_
      rcases Nat.lt_or_eq_of_le (Nat.lt_succ_iff.mp hj) with a | a
      · exact hno j a
      · rw [a]; exact e
    rcases Nat.lt_or_eq_of_le hi with d | d
    · refine ⟨fun q => by omega, fun _ => ?_⟩
      rw [w_behind hl hL (by omega) d]
      by_cases hc : can L p i = true
      · rw [if_pos hc]
        have hx := nx_lt hL d hp
        refine ⟨fun q => absurd q (fun q => (z_em (by omega)).mp q), fun _ => ?_⟩
        rw [w_figureAt (by omega), hg i d hc]
        refine ⟨fun q => skip d ?_, fun q => ?_⟩
        · rw [hc, Bool.true_and]; exact Bool.not_eq_true _ |>.mp q
        · have e : fa_first (fun k => can L p k && g k) L.length = i := first_eq hno (Or.inr ⟨d, by rw [hc, q]; rfl⟩)
          have := hP i e.symm
          rw [if_pos d] at this
          exact this
      · rw [if_neg hc]
        refine ⟨fun _ => skip d ?_, fun q => absurd rfl q⟩
        have hc : can L p i = false := Bool.not_eq_true _ |>.mp hc
        rw [hc]; rfl
    · refine ⟨fun _ => ?_, fun q => by omega⟩
      rw [d] at hno
      have e : fa_first (fun k => can L p k && g k) L.length = L.length := first_eq hno (Or.inl rfl)
      have := hP _ e.symm
      rw [if_neg (Nat.lt_irrefl _)] at this
      exact this) fu 0 (Nat.zero_le _) (by omega)
  exact key (fun j hj => by omega)
theorem r_hint {t : SX} {L : Ln} {n p e : Nat} (hR : Rin t L) (hL : Lok n L) (hfu : 20000 ≤ fu) (hp : p < 2 ^ n) (he : e < 2 ^ n) (h0 : t.1 0 = nI n) (h2 : t.1 2 = nI p) (h3 : t.1 3 = nI e) {P : Int32 → SX → Prop} (hX : ∀ ww, fa_first (fun k => can L p k && rb L (nx L p k) e) L.length = L.length → P 0 (sI (sJ t ww) 5 1)) (hP : ∀ ww k, k < L.length → fa_first (fun k => can L p k && rb L (nx L p k) e) L.length = k → P (nI (100 * lF L k + lT L k)) (sI (sJ t ww) 5 0)) : wp_X4_hint fu t P := by
  have h8 := pow_13 hL.1
  have hm := hL.2.1
  unfold wp_X4_hint
  refine r_counts hR hL hfu he h0 h3 fun ww hww => ?_
  have key := lp (m := L.length) (Q := fun f i => (∀ j, j < i → (can L p j && rb L (nx L p j) e) = false) → wp_X4_hint_L6 P (sJ t ww) (P 0 (sI (sJ t ww) 5 1)) f (nI i)) (by
    intro f i hi ih hno
    rw [wp_X4_hint_L6]
    unfold wp_X4_hint_B6 wp_X4_hint_J56
    have r1 : (sJ t ww).1 1 = nI L.length := hR.1
    have r2 : (sJ t ww).1 2 = nI p := h2
    have hRw : Rin (sJ t ww) L := hR
    have hRs : Rin (sI (sJ t ww) 5 0) L := hR
    rw [r1, r2, nI_leI (by omega) (by omega)]
    have skip : i < L.length → (can L p i && rb L (nx L p i) e) = false → wp_X4_hint_L6 P (sJ t ww) (P 0 (sI (sJ t ww) 5 1)) f (nI i + 1) := fun d e => by
      have ih := ih d
      rw [nI_succ] at ih
      refine ih fun j hj => ?_
      rcases Nat.lt_or_eq_of_le (Nat.lt_succ_iff.mp hj) with a | a
      · exact hno j a
      · rw [a]; exact e
    rcases Nat.lt_or_eq_of_le hi with d | d
    · refine ⟨fun q => by omega, fun _ => ?_⟩
      refine (r_can hRw hL (by omega) d).mpr ⟨fun hc => skip d ?_, fun hc => ?_⟩
      · have hc : can L p i = false := (zb_0 _).mp hc
        rw [hc]; rfl
      · have hc := zb_ne hc
        have hx := nx_lt hL d hp
        refine (r_behind hRw hL d).mpr ⟨(z_in (by omega)).mpr (by omega), ?_⟩
        have e3 : (sJ t ww).2.2 (nI (nx L p i)).toNatClampNeg = lN (Wy L e (nx L p i)) := by
          rw [nI_clamp (by omega)]; exact hww _ hx
        have hlt := Wy_lt hL e hx
        rw [e3]
        refine ⟨fun q => skip d ?_, fun q => ?_⟩
        · have q := (l_le (by omega)).mp q
          rw [hc, Bool.true_and]
          exact decide_eq_false (by omega)
        · have q : 0 < Wy L e (nx L p i) := Nat.pos_of_ne_zero fun z => q ((l_le (by omega)).mpr z)
          refine (r_codeOf hRs hL d).mpr (hP ww i d ?_)
          exact first_eq hno (Or.inr ⟨d, by rw [hc, (rb_iff _ _ _).mpr q]; rfl⟩)
    · refine ⟨fun _ => hX ww ?_, fun q => by omega⟩
      rw [d] at hno
      exact first_eq hno (Or.inl rfl)) fu 0 (Nat.zero_le _) (by omega)
  exact key (fun j hj => by omega)
theorem c_20 (hfu : 20000 ≤ fu) (hI : Inv σ u) (hK : ∀ σ' f' u', Inv σ' u' → K σ' f' u') : wp_case20 fu σ f u K := by
  obtain ⟨n, kd, p, e, mdn, tdn, c, md, td, w, hA, hH, hR⟩ := hI
  have hL := lns_ok hA.1 hA.2.1
  have h8 := pow_13 hA.1.1
  have hp := hA.2.2.1
  have he := hA.2.2.2.1
  have hm := hL.2.1
  unfold wp_case20 wp_L_hint wp_X3_hint
  rw [hH.2.2.1]
  refine w_begin hH.1.2.1 hL hfu hp hH.2.1 fun s g1 g2 => ?_
  have hH' := hH.walk g1 g2.wk
  rw [hH.2.2.2.1]
  refine w_figureLeads hH'.1.2.1 hL hfu he g2.mg fun s2 g3 g4 => ?_
  have hH2 := hH'.walk g3 (g4.ws he).wk
  have fin2 : ∀ v f' ww, K (mgX2 (mgX2 σ s) s2) f' (sI (sJ u.1 ww) 5 v, u.2) := fun v f' ww => hK _ _ _ ⟨n, kd, p, e, mdn, tdn, c, md, td, w, hA, hH2, hR.core (fun j hj => sI_ne (by omega)) (fun _ _ => rfl)⟩
  refine w_lineTo (n := n) (p := p) hH2.1.2.1 hL hfu hH2.2.2.1 hp (fun k => rb (lns c n kd) (nx (lns c n kd) p k) e) (fun k hk hc => ?_) (fun k hk => ?_)
  · have := g4.fig (nx_lt hL hk hp) (Rc_snoc hL (pc p) (Nat.le_refl _) hp (Rc_refl hL hp) hk hc)
    show s2.2.1 7 _ = 1 ↔ _
    rw [this]; exact zb_1 _
  · refine ⟨fun q => ?_, fun q => ?_⟩
    · by_cases hkl : k < (lns c n kd).length
      · rw [if_pos hkl]
        refine (w_codeOf hH2.1.2.1 hL hkl).mpr ?_
        refine r_hint hR.2.1 hL hfu hp he hR.1.1 hR.2.2.1 hR.2.2.2.1 (fun ww q2 => ?_) (fun ww k' hk' q2 => ?_)
        · rw [← hk] at q2; omega
        · rw [← hk] at q2
          subst q2
          refine finI rfl ?_ (fin2 _ _ _)
          rw [Nat.mul_comm]
      · rw [if_neg hkl] at q; exact absurd rfl q
    · by_cases hkl : k < (lns c n kd).length
      · rw [if_pos hkl] at q
        exact absurd q fun q => (z_em (a := k) (by omega)).mp q
      · refine ⟨rfl, ?_⟩
        refine r_hint hR.2.1 hL hfu hp he hR.1.1 hR.2.2.1 hR.2.2.2.1 (fun ww q2 => ?_) (fun ww k' hk' q2 => ?_)
        · exact finX rfl (by decide) (fin2 _ _ _)
        · rw [← hk] at q2; omega
theorem r_winning {t : SX} {L : Ln} {n p : Nat} (hR : Rin t L) (hL : Lok n L) (hfu : 20000 ≤ fu) (hp : p < 2 ^ n) (h0 : t.1 0 = nI n) (h2 : t.1 2 = nI p) {P : Int32 → SX → Prop} (hX : ∀ ww, fa_first (fun k => can L p k && decide (Gv L (nx L p k) = 0)) L.length = L.length → P 0 (sI (sA t 7 ww) 5 1)) (hP : ∀ ww k, k < L.length → fa_first (fun k => can L p k && decide (Gv L (nx L p k) = 0)) L.length = k → P (nI (100 * lF L k + lT L k)) (sI (sA t 7 ww) 5 0)) : wp_X4_winning fu t P := by
  have h8 := pow_13 hL.1
  have hm := hL.2.1
  unfold wp_X4_winning
  refine r_valueAll hR hL hfu h0 fun ww hww => ?_
  have key := lp (m := L.length) (Q := fun f i => (∀ j, j < i → (can L p j && decide (Gv L (nx L p j) = 0)) = false) → wp_X4_winning_L6 P (sA t 7 ww) (P 0 (sI (sA t 7 ww) 5 1)) f (nI i)) (by
    intro f i hi ih hno
    rw [wp_X4_winning_L6]
    unfold wp_X4_winning_B6 wp_X4_winning_J54
    have r1 : (sA t 7 ww).1 1 = nI L.length := hR.1
    have r2 : (sA t 7 ww).1 2 = nI p := h2
    have hRw : Rin (sA t 7 ww) L := hR
    have hRs : Rin (sI (sA t 7 ww) 5 0) L := hR
    rw [r1, r2, nI_leI (by omega) (by omega)]
    have skip : i < L.length → (can L p i && decide (Gv L (nx L p i) = 0)) = false → wp_X4_winning_L6 P (sA t 7 ww) (P 0 (sI (sA t 7 ww) 5 1)) f (nI i + 1) := fun d e => by
      have ih := ih d
      rw [nI_succ] at ih
      refine ih fun j hj => ?_
      rcases Nat.lt_or_eq_of_le (Nat.lt_succ_iff.mp hj) with a | a
      · exact hno j a
      · rw [a]; exact e
    rcases Nat.lt_or_eq_of_le hi with d | d
    · refine ⟨fun q => by omega, fun _ => ?_⟩
      refine (r_can hRw hL (by omega) d).mpr ⟨fun hc => skip d ?_, fun hc => ?_⟩
      · have hc : can L p i = false := (zb_0 _).mp hc
        rw [hc]; rfl
      · have hc := zb_ne hc
        have hx := nx_lt hL d hp
        refine (r_behind hRw hL d).mpr ⟨(z_in (by omega)).mpr (by omega), ?_⟩
        have e3 : (sA t 7 ww).2.1 7 (nI (nx L p i)).toNatClampNeg = nI (Gv L (nx L p i)) := by
          rw [nI_clamp (by omega), sA_eq]; exact hww _ hx
        have g1 := Gv_le hL (nx L p i)
        have g2 := pp_le (p := nx L p i) (by omega)
        have z : (nI (Gv L (nx L p i)) = 0) ↔ Gv L (nx L p i) = 0 := nI_eq (b := 0) (by omega) (by decide)
        rw [e3, z]
        refine ⟨fun q => skip d ?_, fun q => ?_⟩
        · rw [hc, Bool.true_and]
          exact decide_eq_false q
        · refine (r_codeOf hRs hL d).mpr (hP ww i d ?_)
          exact first_eq hno (Or.inr ⟨d, by rw [hc, decide_eq_true q]; rfl⟩)
    · refine ⟨fun _ => hX ww ?_, fun q => by omega⟩
      rw [d] at hno
      exact first_eq hno (Or.inl rfl)) fu 0 (Nat.zero_le _) (by omega)
  exact key (fun j hj => by omega)
theorem c_35 (hfu : 20000 ≤ fu) (hI : Inv σ u) (hK : ∀ σ' f' u', Inv σ' u' → K σ' f' u') : wp_case35 fu σ f u K := by
  obtain ⟨n, kd, p, e, mdn, tdn, c, md, td, w, hA, hH, hR⟩ := hI
  have hL := lns_ok hA.1 hA.2.1
  have h8 := pow_13 hA.1.1
  have hp := hA.2.2.1
  have hm := hL.2.1
  unfold wp_case35 wp_L_winning wp_X3_winning
  rw [hH.2.2.1]
  refine w_begin hH.1.2.1 hL hfu hp hH.2.1 fun s g1 g2 => ?_
  have hH' := hH.walk g1 g2.wk
  refine w_figureValues hH'.1.2.1 hL hfu g2.mg fun s2 g3 g4 => ?_
  have hH2 := hH'.walk g3 g4.ws.wk
  have fin2 : ∀ v f' ww, K (mgX2 (mgX2 σ s) s2) f' (sI (sA u.1 7 ww) 5 v, u.2) := fun v f' ww => hK _ _ _ ⟨n, kd, p, e, mdn, tdn, c, md, td, w, hA, hH2, hR.core (fun j hj => sI_ne (by omega)) (fun j hj => sA_ne (σ := u.1) (by omega))⟩
  refine w_lineTo (n := n) (p := p) hH2.1.2.1 hL hfu hH2.2.2.1 hp (fun k => decide (Gv (lns c n kd) (nx (lns c n kd) p k) = 0)) (fun k hk hc => ?_) (fun k hk => ?_)
  · have := g4.fig (nx_lt hL hk hp) (Rc_snoc hL (pc p) (Nat.le_refl _) hp (Rc_refl hL hp) hk hc)
    have hx := nx_lt hL hk hp
    have g1 := Gv_le hL (nx (lns c n kd) p k)
    have g2 := pp_le (p := nx (lns c n kd) p k) (by omega)
    show s2.2.1 7 _ = 0 ↔ _
    rw [this, decide_eq_true_iff]
    exact nI_eq (b := 0) (by omega) (by decide)
  · refine ⟨fun q => ?_, fun q => ?_⟩
    · by_cases hkl : k < (lns c n kd).length
      · rw [if_pos hkl]
        refine (w_codeOf hH2.1.2.1 hL hkl).mpr ?_
        refine r_winning hR.2.1 hL hfu hp hR.1.1 hR.2.2.1 (fun ww q2 => ?_) (fun ww k' hk' q2 => ?_)
        · rw [← hk] at q2; omega
        · rw [← hk] at q2
          subst q2
          refine finI rfl ?_ (fin2 _ _ _)
          rw [Nat.mul_comm]
      · rw [if_neg hkl] at q; exact absurd rfl q
    · by_cases hkl : k < (lns c n kd).length
      · rw [if_pos hkl] at q
        exact absurd q fun q => (z_em (a := k) (by omega)).mp q
      · refine ⟨rfl, ?_⟩
        refine r_winning hR.2.1 hL hfu hp hR.1.1 hR.2.2.1 (fun ww q2 => ?_) (fun ww k' hk' q2 => ?_)
        · exact finX rfl (by decide) (fin2 _ _ _)
        · rw [← hk] at q2; omega
end CALLS3
