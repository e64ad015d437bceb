/-! ===== positions, weights, colours, notations: the calls ===== -/
section CALLS2
variable {σ : SX} {u : FX} {fu : Nat} {a1 a2 : Int32} {f : Nat → Int64} {K : SX → (Nat → Int64) → FX → Prop}
theorem r_put {v : FX} {n : Nat} {x : Int32} (h0 : v.1.1 0 = nI n) (hn : n ≤ 13) (o1 : okL v.2.1) {P : Int32 → FX → Prop} (hX : okb (2 ^ n) x = false → P 0 (sI v.1 5 1, v.2)) (hP : okb (2 ^ n) x = true → ∀ w, okL w → w.2.2.2.2.2 = 0 → P (v.1.1 2) (sI (sI v.1 5 0) 2 x, w, v.2.2)) : wp_X4_put v x P := by
  unfold wp_X4_put wp_X4_put_J14
  refine (r_isPosition h0 hn).mpr ⟨fun g => ?_, fun g => ?_⟩
  · exact r_no1.mpr ⟨fun g => absurd g (by decide), fun _ => hX ((zb_0 _).mp g)⟩
  · refine r_ok.mpr ⟨fun _ => ⟨o1, fun w h1 h2 => ?_⟩, fun g => absurd rfl g⟩
    exact hP (zb_ne g) w h1 h2
theorem c_7 (hI : Inv σ u) (hK : ∀ σ' f' u', Inv σ' u' → K σ' f' u') : wp_case7 a1 σ f u K := by
  obtain ⟨n, kd, p, e, mdn, tdn, c, md, td, w, hA, hH, hR⟩ := hI
  have hn := hA.1.1
  have h8 := pow_13 hn
  have hb := hH.1.1
  obtain ⟨rb, rl, r2, r3, o1, m1, m2, o2, t1, t2, o3⟩ := hR
  unfold wp_case7 wp_L_put wp_X3_put
  refine w_requirePegs hb.2.2.1 hn (fun ho => ⟨rfl, ?_⟩) (fun ho => ?_)
  · refine r_put rb.1 hn o1 (fun _ => ?_) (fun g => by rw [ho] at g; cases g)
    exact finX rfl (by decide) (hK _ _ _ ⟨n, kd, p, e, mdn, tdn, c, md, td, w, hA, hH, Rs.code ⟨rb, rl, r2, r3, o1, m1, m2, o2, t1, t2, o3⟩ _⟩)
  · obtain ⟨j, hj, rfl⟩ := (okb_iff (by omega)).mp ho
    refine r_put rb.1 hn o1 (fun g => by rw [ho] at g; cases g) (fun _ w1 h1 h2 => ?_)
    obtain ⟨q1, q2, q3, q4, q5, q6, q7⟩ := hA
    obtain ⟨g1, g2, g3, g4, g5, g6, g7, g8⟩ := hH
    refine finI rfl (g3.trans r2.symm) (hK _ _ _ ⟨n, kd, j, e, 0, tdn, c, md, td, w, ⟨q1, q2, hj, q4, q5, q6, trivial⟩, ⟨g1, g2, rfl, g4, rfl, fun i hi => by omega, g7, g8⟩, ⟨rb, rl, rfl, r3, h1, h2, fun i hi => by omega, o2, t1, t2, o3⟩⟩)
theorem r_setEnd {t : SX} {n : Nat} {x : Int32} (h0 : t.1 0 = nI n) (hn : n ≤ 13) {P : Int32 → SX → Prop} (hX : okb (2 ^ n) x = false → P 0 (sI t 5 1)) (hP : okb (2 ^ n) x = true → P (t.1 3) (sI (sI t 5 0) 3 x)) : wp_X4_setEnd t x P := by
  unfold wp_X4_setEnd wp_X4_setEnd_J14
  refine (r_isPosition h0 hn).mpr ⟨fun g => ?_, fun g => ?_⟩
  · exact r_no1.mpr ⟨fun g => absurd g (by decide), fun _ => hX ((zb_0 _).mp g)⟩
  · exact r_ok.mpr ⟨fun _ => hP (zb_ne g), fun g => absurd rfl g⟩
theorem c_17 (hI : Inv σ u) (hK : ∀ σ' f' u', Inv σ' u' → K σ' f' u') : wp_case17 a1 σ f u K := by
  obtain ⟨n, kd, p, e, mdn, tdn, c, md, td, w, hA, hH, hR⟩ := hI
  have hn := hA.1.1
  have h8 := pow_13 hn
  have hb := hH.1.1
  obtain ⟨rb, rl, r2, r3, o1, m1, m2, o2, t1, t2, o3⟩ := hR
  unfold wp_case17 wp_L_setEnd wp_X3_setEnd
  refine w_requirePegs hb.2.2.1 hn (fun ho => ⟨rfl, ?_⟩) (fun ho => ?_)
  · refine r_setEnd rb.1 hn (fun _ => ?_) (fun g => by rw [ho] at g; cases g)
    exact finX rfl (by decide) (hK _ _ _ ⟨n, kd, p, e, mdn, tdn, c, md, td, w, hA, hH, Rs.code ⟨rb, rl, r2, r3, o1, m1, m2, o2, t1, t2, o3⟩ _⟩)
  · obtain ⟨j, hj, rfl⟩ := (okb_iff (by omega)).mp ho
    refine r_setEnd rb.1 hn (fun g => by rw [ho] at g; cases g) (fun _ => ?_)
    obtain ⟨q1, q2, q3, q4, q5, q6, q7⟩ := hA
    obtain ⟨g1, g2, g3, g4, g5, g6, g7, g8⟩ := hH
    refine finI rfl (g4.trans r3.symm) (hK _ _ _ ⟨n, kd, p, j, mdn, tdn, c, md, td, w, ⟨q1, q2, q3, hj, q5, q6, q7⟩, ⟨g1, g2, g3, rfl, g5, g6, g7, g8⟩, ⟨rb, rl, r2, rfl, o1, m1, m2, o2, t1, t2, o3⟩⟩)
theorem c_16 (hfu : 20000 ≤ fu) (hI : Inv σ u) (hK : ∀ σ' f' u', Inv σ' u' → K σ' f' u') : wp_case16 fu a1 σ f u K := by
  obtain ⟨n, kd, p, e, mdn, tdn, c, md, td, w, hA, hH, hR⟩ := hI
  have hn := hA.1.1
  have h8 := pow_13 hn
  have hb := hH.1.1
  have fin2 : ∀ v f', K σ f' (sI u.1 5 v, u.2) := fun v f' => hK _ _ _ ⟨n, kd, p, e, mdn, tdn, c, md, td, w, hA, hH, hR.code _⟩
  unfold wp_case16 wp_L_leastForm wp_X3_leastForm wp_X4_leastForm wp_X4_leastForm_J14
  refine w_requirePegs hb.2.2.1 hn (fun ho => ⟨rfl, ?_⟩) (fun ho => ?_)
  · refine (r_isPosition hR.1.1 hn).mpr ?_
    rw [ho]
    refine ⟨fun _ => r_no1.mpr ⟨fun g => absurd g (by decide), fun _ => finX rfl (by decide) (fin2 _ _)⟩, fun g => absurd rfl g⟩
  · obtain ⟨j, hj, rfl⟩ := (okb_iff (by omega)).mp ho
    refine w_leastForm hA.1 hA.2.1 hb hH.1.2.1 hfu hj ?_
    refine (r_isPosition hR.1.1 hn).mpr ?_
    rw [ho]
    refine ⟨fun g => absurd g (by decide), fun _ => r_ok.mpr ⟨fun _ => ?_, fun g => absurd rfl g⟩⟩
    refine r_leastForm hA.1 hA.2.1 (u := sI u.1 5 0) hR.1 hR.2.1 hfu hj ?_
    exact finI rfl rfl (fin2 _ _)
theorem c_28 (hfu : 20000 ≤ fu) (hI : Inv σ u) (hK : ∀ σ' f' u', Inv σ' u' → K σ' f' u') : wp_case28 fu a1 σ f u K := by
  obtain ⟨n, kd, p, e, mdn, tdn, c, md, td, w, hA, hH, hR⟩ := hI
  have hn := hA.1.1
  have h8 := pow_13 hn
  have hb := hH.1.1
  have fin2 : ∀ v f', K σ f' (sI u.1 5 v, u.2) := fun v f' => hK _ _ _ ⟨n, kd, p, e, mdn, tdn, c, md, td, w, hA, hH, hR.code _⟩
  unfold wp_case28 wp_L_weight wp_X3_weight wp_X4_weight wp_X4_weight_J14
  refine w_requirePegs hb.2.2.1 hn (fun ho => ⟨rfl, ?_⟩) (fun ho => ?_)
  · refine (r_isPosition hR.1.1 hn).mpr ?_
    rw [ho]
    refine ⟨fun _ => r_no1.mpr ⟨fun g => absurd g (by decide), fun _ => finX rfl (by decide) (fin2 _ _)⟩, fun g => absurd rfl g⟩
  · obtain ⟨j, hj, rfl⟩ := (okb_iff (by omega)).mp ho
    refine w_weightOfPegs hA.1 hH.1 hfu (by omega) ?_
    refine (r_isPosition hR.1.1 hn).mpr ?_
    rw [ho]
    refine ⟨fun g => absurd g (by decide), fun _ => r_ok.mpr ⟨fun _ => ?_, fun g => absurd rfl g⟩⟩
    refine r_weightOf (u := sI u.1 5 0) hA.1 hR.1 hfu (by omega) ?_
    exact finI rfl rfl (fin2 _ _)
theorem enc_mI {o : Option Nat} {m : Nat} (h : ∀ k, o = some k → k < m) (hm : m < 2 ^ 31) : enc o = mI ↔ o = none := by
  cases o with
  | none => exact ⟨fun _ => rfl, fun _ => rfl⟩
  | some k =>
    have := h k rfl
    exact ⟨fun g => ((z_em (a := k) (by omega)).mp g).elim, fun g => by cases g⟩
theorem c_29 (hfu : 20000 ≤ fu) (hI : Inv σ u) (hK : ∀ σ' f' u', Inv σ' u' → K σ' f' u') : wp_case29 fu σ f u K := by
  obtain ⟨n, kd, p, e, mdn, tdn, c, md, td, w, hA, hH, hR⟩ := hI
  have hL := lns_ok hA.1 hA.2.1
  have fin2 : ∀ v f', K σ f' (sI u.1 5 v, u.2) := fun v f' => hK _ _ _ ⟨n, kd, p, e, mdn, tdn, c, md, td, w, hA, hH, hR.code _⟩
  unfold wp_case29 wp_X3_isProof wp_X4_isProof
  refine w_faultLine hA.1 hA.2.1 hH.1 hfu ⟨fun g => ?_, fun g => ?_⟩
  · refine r_worst (u := sI u.1 5 0) hL hR.1 hR.2.1 hfu ⟨fun g2 => finE rfl (fin2 _ _), fun g2 => absurd g2 g⟩
  · refine r_worst (u := sI u.1 5 0) hL hR.1 hR.2.1 hfu ⟨fun g2 => absurd g g2, fun g2 => finE rfl (fin2 _ _)⟩
theorem c_30 (hfu : 20000 ≤ fu) (hI : Inv σ u) (hK : ∀ σ' f' u', Inv σ' u' → K σ' f' u') : wp_case30 fu σ f u K := by
  obtain ⟨n, kd, p, e, mdn, tdn, c, md, td, w, hA, hH, hR⟩ := hI
  have hL := lns_ok hA.1 hA.2.1
  have hm := hL.2.1
  have fin2 : ∀ v f', K σ f' (sI u.1 5 v, u.2) := fun v f' => hK _ _ _ ⟨n, kd, p, e, mdn, tdn, c, md, td, w, hA, hH, hR.code _⟩
  unfold wp_case30 wp_L_fault wp_X3_fault wp_X4_fault wp_X4_fault_J14
  refine w_faultLine hA.1 hA.2.1 hH.1 hfu ?_
  cases h : wst (gn (lns c n kd) w) (lns c n kd).length with
  | none =>
    refine ⟨fun g => absurd rfl g, fun _ => ⟨rfl, ?_⟩⟩
    refine r_worst hL hR.1 hR.2.1 hfu ?_
    rw [h]
    exact ⟨fun g => absurd rfl g, fun _ => r_no1.mpr ⟨fun g => absurd g (by decide), fun _ => finX rfl (by decide) (fin2 _ _)⟩⟩
  | some k =>
    have hk := wst_lt _ _ _ h
    have nz : ¬ enc (some k) = -1 := fun g => (z_em (a := k) (by omega)).mp g
    refine ⟨fun _ => ?_, fun g => absurd g nz⟩
    refine (w_codeOf hH.1.2.1 hL hk).mpr ?_
    refine r_worst hL hR.1 hR.2.1 hfu ?_
    rw [h]
    refine ⟨fun _ => r_ok.mpr ⟨fun _ => ?_, fun g => absurd rfl g⟩, fun g => absurd g nz⟩
    refine r_worst (u := sI u.1 5 0) hL hR.1 hR.2.1 hfu ?_
    rw [h]
    have hRs : Rin (sI u.1 5 0) (lns c n kd) := hR.2.1
    refine (r_codeOf hRs hL hk).mpr ?_
    refine finI rfl ?_ (fin2 _ _)
    rw [Nat.mul_comm]
theorem r_colour {t : SX} {n kd : Nat} {c : Nat → Nat} {w : Nat → Int32} (hC : Cok n c) (hB : Rb t n c kd w) {P : Int32 → SX → Prop} (hX : okb n a1 = false → P 0 (sI t 5 1)) (hY : okb n a1 = true → okb 2 a2 = false → P 0 (sI t 5 2)) (hP : ∀ h x, h < n → x < 2 → a1 = nI h → a2 = nI x → P (nI (col (c h) x)) (sI t 5 0)) : wp_X4_colour t a1 a2 P := by
  have hn := hC.1
  unfold wp_X4_colour wp_X4_colour_J27
  refine (r_isHole hB.1 hn).mpr ⟨fun g => ?_, fun g => ?_⟩
  · have g := zb_ne g
    refine (r_in (m := 2) (by decide) (by rfl)).mpr ⟨fun g2 => ?_, fun g2 => ?_⟩
    · exact r_no2.mpr ⟨fun g => absurd g (by decide), fun _ => hY g ((zb_0 _).mp g2)⟩
    · obtain ⟨h, hh, rfl⟩ := (okb_iff (by omega)).mp g
      obtain ⟨x, hx, rfl⟩ := (okb_iff (by omega)).mp (zb_ne g2)
      refine r_ok.mpr ⟨fun _ => ?_, fun g => absurd rfl g⟩
      exact (r_colourOf (u := sI t 5 0) hC hB hh hx).mpr (hP h x hh hx rfl rfl)
  · exact r_no1.mpr ⟨fun g => absurd g (by decide), fun _ => hX ((zb_0 _).mp g)⟩
theorem c_32 (hI : Inv σ u) (hK : ∀ σ' f' u', Inv σ' u' → K σ' f' u') : wp_case32 a1 a2 σ f u K := by
  obtain ⟨n, kd, p, e, mdn, tdn, c, md, td, w, hA, hH, hR⟩ := hI
  have hn := hA.1.1
  have hb := hH.1.1
  have fin2 : ∀ v f', K σ f' (sI u.1 5 v, u.2) := fun v f' => hK _ _ _ ⟨n, kd, p, e, mdn, tdn, c, md, td, w, hA, hH, hR.code _⟩
  unfold wp_case32 wp_L_colour wp_X3_colour
  refine w_requireHole hb.2.2.1 hn (fun ho => Or.inl ⟨rfl, ?_⟩) (fun ho => ?_)
  · refine r_colour hA.1 hR.1 (fun _ => finX rfl (by decide) (fin2 _ _)) (fun g => by rw [ho] at g; cases g) (fun h x hh hx g1 g2 => ?_)
    rw [g1, okb_nI (by omega) hh] at ho; cases ho
  · refine w_requireColouring (fun ho2 => Or.inr ⟨rfl, ?_⟩) (fun ho2 => ?_)
    · refine r_colour hA.1 hR.1 (fun g => by rw [ho] at g; cases g) (fun _ _ => finX rfl (by decide) (fin2 _ _)) (fun h x hh hx g1 g2 => ?_)
      rw [g2, okb_nI (by omega) hx] at ho2; cases ho2
    · obtain ⟨h, hh, rfl⟩ := (okb_iff (by omega)).mp ho
      obtain ⟨x, hx, rfl⟩ := (okb_iff (by omega)).mp ho2
      refine (w_colourOf hA.1 hb hh hx).mpr ?_
      refine r_colour hA.1 hR.1 (fun g => by rw [ho] at g; cases g) (fun _ g => by rw [ho2] at g; cases g) (fun h' x' hh' hx' g1 g2 => ?_)
      have g1 := (nI_eq (by omega) (by omega)).mp g1
      have g2 := (nI_eq (by omega) (by omega)).mp g2
      subst g1; subst g2
      exact finI rfl rfl (fin2 _ _)
theorem c_33 (hfu : 20000 ≤ fu) (hI : Inv σ u) (hK : ∀ σ' f' u', Inv σ' u' → K σ' f' u') : wp_case33 fu a1 σ f u K := by
  obtain ⟨n, kd, p, e, mdn, tdn, c, md, td, w, hA, hH, hR⟩ := hI
  have hn := hA.1.1
  have hb := hH.1.1
  have fin2 : ∀ v f', K σ f' (sI u.1 5 v, u.2) := fun v f' => hK _ _ _ ⟨n, kd, p, e, mdn, tdn, c, md, td, w, hA, hH, hR.code _⟩
  unfold wp_case33 wp_L_isFit wp_X3_isFit wp_X4_isFit wp_X4_isFit_J15
  refine w_requireColouring (fun ho => ⟨rfl, ?_⟩) (fun ho => ?_)
  · refine (r_in (m := 2) (by decide) (by rfl)).mpr ?_
    rw [ho]
    exact ⟨fun _ => r_no1.mpr ⟨fun _ => finX rfl (by decide) (fin2 _ _), fun g => absurd g (by decide)⟩, fun g => absurd rfl g⟩
  · obtain ⟨x, hx, rfl⟩ := (okb_iff (by omega)).mp ho
    refine w_isFitColouring hA.1 hA.2.1 hb hH.1.2.1 hfu hx ⟨zb_nar _, ?_⟩
    refine (r_in (m := 2) (by decide) (by rfl)).mpr ?_
    rw [ho]
    refine ⟨fun g => absurd g (by decide), fun _ => r_ok.mpr ⟨fun g => absurd rfl g, fun _ => ?_⟩⟩
    refine r_fits (u := sI u.1 5 0) hA.1 hA.2.1 hR.1 hR.2.1 hfu hx ?_
    cases alB (fit1 (lns c n kd) c x) (lns c n kd).length
    · exact ⟨fun _ => finB rfl rfl (fin2 _ _), fun g => absurd rfl g⟩
    · exact ⟨fun g => absurd g (by decide), fun _ => finB rfl rfl (fin2 _ _)⟩
/-- a weight in range -/
def okw (x : Int32) : Bool := decide (¬ x < -99) && decide (x ≤ 99)
theorem r_weigh {t : SX} {n kd : Nat} {c : Nat → Nat} {w : Nat → Int32} (hC : Cok n c) (hB : Rb t n c kd w) {P : Int32 → SX → Prop} (hX : okb n a1 = false → P 0 (sI t 5 1)) (hY : okb n a1 = true → okw a2 = false → P 0 (sI t 5 2)) (hP : ∀ h, h < n → a1 = nI h → okw a2 = true → P (w h) (sA (sI t 5 0) 2 (upd (t.2.1 2) h a2))) : wp_X4_weigh t a1 a2 P := by
  have hn := hC.1
  unfold wp_X4_weigh wp_X4_weigh_J29
  refine (r_isHole hB.1 hn).mpr ⟨fun g => ?_, fun g => ?_⟩
  · have g := zb_ne g
    have no : okw a2 = false → wp_X4_fails t 2 (fun r29 s29 => ((r29 = 0 → (vp_in a1 13 ∧ (vp_in a1 13 ∧ (P ((s29.2.1 2) a1.toNatClampNeg) (sA s29 2 (upd (s29.2.1 2) a1.toNatClampNeg a2)))))) ∧ (¬ r29 = 0 → (P 0 s29)))) := fun h => r_no2.mpr ⟨fun g => absurd g (by decide), fun _ => hY g h⟩
    unfold wp_X4_in
    unfold okw at no hP
    refine ⟨fun h => ⟨fun _ => no ?_, fun g => absurd rfl g⟩, fun h => ⟨fun h2 => ⟨fun _ => no ?_, fun g => absurd rfl g⟩, fun h2 => ⟨fun g => absurd g (by decide), fun _ => ?_⟩⟩⟩
    · simp only [h, not_true_eq_false, decide_false, Bool.false_and]
    · have : ¬ a2 ≤ 99 := Int32.not_le.mpr h2
      simp only [this, decide_false, Bool.and_false]
    · obtain ⟨h', hh, rfl⟩ := (okb_iff (by omega)).mp g
      have h3 : a2 ≤ 99 := Int32.not_lt.mp h2
      refine r_ok.mpr ⟨fun _ => ⟨(z_in (by omega)).mpr (by omega), (z_in (by omega)).mpr (by omega), ?_⟩, fun g => absurd rfl g⟩
      have := hP h' hh rfl (by simp only [h, h3, not_false_eq_true, decide_true, Bool.and_self])
      rw [nI_clamp (by omega)]
      show P (t.2.1 2 h') _
      rw [hB.2.2.2.2 h' hh]
      exact this
  · exact r_no1.mpr ⟨fun g => absurd g (by decide), fun _ => hX ((zb_0 _).mp g)⟩
theorem c_27 (hI : Inv σ u) (hK : ∀ σ' f' u', Inv σ' u' → K σ' f' u') : wp_case27 a1 a2 σ f u K := by
  obtain ⟨n, kd, p, e, mdn, tdn, c, md, td, w, hA, hH, hR⟩ := hI
  have hn := hA.1.1
  have hC := hA.1
  have hb := hH.1.1
  have fin2 : ∀ v f', K σ f' (sI u.1 5 v, u.2) := fun v f' => hK _ _ _ ⟨n, kd, p, e, mdn, tdn, c, md, td, w, hA, hH, hR.code _⟩
  unfold wp_case27 wp_L_weigh wp_X3_weigh
  refine w_requireHole hb.2.2.1 hn (fun ho => Or.inl ⟨rfl, ?_⟩) (fun ho => ?_)
  · refine r_weigh hA.1 hR.1 (fun _ => finX rfl (by decide) (fin2 _ _)) (fun g => by rw [ho] at g; cases g) (fun h hh g1 g2 => ?_)
    rw [g1, okb_nI (by omega) hh] at ho; cases ho
  · have no : okw a2 = false → _ := fun (ho2 : okw a2 = false) => r_weigh (P := fun r1304 s1304 => (wp_X4_thrown ((s1304, u.2).1) (fun r1310 => ((r1310 = 2 → ((¬ (2 : Int32) = 0 → (K σ f (s1304, u.2))) ∧ ((2 : Int32) = 0 → (((lg_cmp (f (0 : Int32).toNatClampNeg) r1304.toInt64) = 0 → (K σ f (s1304, u.2))) ∧ (¬ (lg_cmp (f (0 : Int32).toNatClampNeg) r1304.toInt64) = 0 → False))))) ∧ (¬ r1310 = 2 → False))))) (a1 := a1) (a2 := a2) hA.1 hR.1 (fun g => by rw [ho] at g; cases g) (fun _ _ => finX rfl (by decide) (fin2 _ _)) (fun h hh g1 g2 => by rw [ho2] at g2; cases g2)
    unfold okw at no
    refine ⟨fun h => Or.inr ⟨rfl, no ?_⟩, fun h => ⟨fun h2 => ?_, fun h2 => Or.inr ⟨rfl, no ?_⟩⟩⟩
    · simp only [h, not_true_eq_false, decide_false, Bool.false_and]
    · obtain ⟨i, hi, rfl⟩ := (okb_iff (by omega)).mp ho
      have hci := hC.2.1 i hi
      refine (w_weightOf hC hH.1 hi).mpr ?_
      unfold wp_X0_changeWeight
      rw [hb.2.2.1, w_at hi (by omega) (by decide), hb.2.2.2 i hi]
      refine ⟨fun g => absurd g (nI_pos (by omega)), fun _ => ⟨fun g => absurd ((nI_leI (a := 25) (by decide) (by omega)).mp g) (by omega), fun _ => ⟨(z_in (by omega)).mpr hci, ?_⟩⟩⟩
      rw [nI_clamp (by omega)]
      refine r_weigh hA.1 hR.1 (fun g => by rw [ho] at g; cases g) (fun _ g => ?_) (fun h' hh' g1 g2 => ?_)
      · unfold okw at g
        simp only [h, h2, not_false_eq_true, decide_true, Bool.and_self] at g
        cases g
      · have g1 := (nI_eq (by omega) (by omega)).mp g1
        subst g1
        obtain ⟨⟨hb0, hl0, hw0⟩, g2', g3, g4, g5, g6, g7, g8⟩ := hH
        obtain ⟨⟨rb0, rb1, rb2, rb3, rb4⟩, rl, rr⟩ := hR
        refine finI rfl rfl (hK _ _ _ ⟨n, kd, p, e, mdn, tdn, c, md, td, upd w i a2, hA, ⟨⟨hb0, hl0, fun j hj => ?_⟩, g2', g3, g4, g5, g6, g7, g8⟩, ⟨⟨rb0, rb1, rb2, rb3, fun j hj => ?_⟩, rl, rr⟩⟩)
        · show upd (σ.2.1 0) (c i) a2 (c j) = _
          by_cases ej : j = i
          · subst ej; rw [upd_eq, upd_eq]
          · rw [upd_ne (fun q => ej (hC.inj hj hi q)), upd_ne ej]
            exact hw0 j hj
        · show upd (u.1.2.1 2) i a2 j = _
          by_cases ej : j = i
          · subst ej; rw [upd_eq, upd_eq]
          · rw [upd_ne ej, upd_ne ej]
            exact rb4 j hj
    · simp only [h2, decide_false, Bool.and_false]
theorem c_39 (hI : Inv σ u) (hK : ∀ σ' f' u', Inv σ' u' → K σ' f' u') : wp_case39 σ f u K := by
  obtain ⟨n, kd, p, e, mdn, tdn, c, md, td, w, hA, hH, hR⟩ := hI
  obtain ⟨rb, rl, r2, r3, o1, m1, m2, o2, t1, t2, o3⟩ := hR
  obtain ⟨g1, g2, g3, g4, g5, g6, g7, g8⟩ := hH
  obtain ⟨q1, q2, q3, q4, q5, q6, q7⟩ := hA
  unfold wp_case39 wp_X3_clear wp_X4_clear wp_X1_size wp_X1_empty
  refine ⟨o2, o2, fun w1 h1 h2 => ?_⟩
  rw [t1, g7]
  exact finE rfl (hK _ _ _ ⟨n, kd, p, e, mdn, 0, c, md, td, w, ⟨q1, q2, q3, q4, by omega, fun i hi => by omega, q7⟩, ⟨g1, g2, g3, g4, g5, g6, rfl, fun i hi => by omega⟩, ⟨rb, rl, r2, r3, o1, m1, m2, h1, h2, fun i hi => by omega, o3⟩⟩)
theorem c_36 (hI : Inv σ u) (hK : ∀ σ' f' u', Inv σ' u' → K σ' f' u') : wp_case36 a1 σ f u K := by
  obtain ⟨n, kd, p, e, mdn, tdn, c, md, td, w, hA, hH, hR⟩ := hI
  have hn := hA.1.1
  have hb := hH.1.1
  have fin2 : ∀ v f', K σ f' (sI u.1 5 v, u.2) := fun v f' => hK _ _ _ ⟨n, kd, p, e, mdn, tdn, c, md, td, w, hA, hH, hR.code _⟩
  obtain ⟨rb, rl, r2, r3, o1, m1, m2, o2, t1, t2, o3⟩ := hR
  obtain ⟨g1, g2, g3, g4, g5, g6, g7, g8⟩ := hH
  obtain ⟨q1, q2, q3, q4, q5, q6, q7⟩ := hA
  unfold wp_case36 wp_L_tell wp_X3_tell wp_X4_tell wp_X4_tell_J32
  refine w_requireHole hb.2.2.1 hn (fun ho => Or.inl ⟨rfl, ?_⟩) (fun ho => ?_)
  · refine (r_isHole rb.1 hn).mpr ?_
    rw [ho]
    exact ⟨fun g => absurd rfl g, fun _ => r_no1.mpr ⟨fun g => absurd g (by decide), fun _ => finX rfl (by decide) (fin2 _ _)⟩⟩
  · obtain ⟨j, hj, rfl⟩ := (okb_iff (by omega)).mp ho
    unfold wp_X1_size
    rw [g7]
    refine ⟨fun h => ?_, fun h => Or.inr ⟨rfl, ?_⟩⟩
    · have h : tdn < 12 := (nI_ltI (b := 12) (by omega) (by decide)).mp h
      refine (w_add h (by decide)).mpr ?_
      refine (r_isHole rb.1 hn).mpr ?_
      rw [ho]
      refine ⟨fun _ => ⟨o2, fun _ => ?_, fun g => ?_⟩, fun g => absurd g (by decide)⟩
      · refine r_ok.mpr ⟨fun _ => ⟨(z_in (by omega)).mpr (by omega), o2, by rw [t1]; exact h, fun w1 h1 h2 h3 => ⟨h1, ?_⟩⟩, fun g => absurd rfl g⟩
        rw [t1] at h2 h3
        rw [nI_clamp (by omega)] at h3
        rw [h2]
        refine finI rfl rfl (hK _ _ _ ⟨n, kd, p, e, mdn, tdn + 1, c, md, upN td tdn j, w, ⟨q1, q2, q3, q4, by omega, fun i hi => ?_, q7⟩, ⟨g1, g2, g3, g4, g5, g6, rfl, fun i hi => ?_⟩, ⟨rb, rl, r2, r3, o1, m1, m2, h1, h2, fun i hi => ?_, o3⟩⟩)
        · unfold upN
          split
          · exact hj
          · exact q6 i (by omega)
        · show upd (σ.2.1 9) tdn (nI j) i = _
          unfold upN
          by_cases ei : i = tdn
          · rw [if_pos ei, ei, upd_eq]
          · rw [if_neg ei, upd_ne ei]; exact g8 i (by omega)
        · show w1.2.2.2.2.1 i = _
          rw [h3]
          unfold upN
          by_cases ei : i = tdn
          · rw [if_pos ei, if_pos ei]
          · rw [if_neg ei, if_neg ei]; exact t2 i (by omega)
      · rw [t1] at g
        have := (nI_eq (b := 12) (by omega) (by decide)).mp g
        omega
    · have h : ¬ tdn < 12 := fun g => h ((nI_ltI (b := 12) (by omega) (by decide)).mpr g)
      refine (r_isHole rb.1 hn).mpr ?_
      rw [ho]
      refine ⟨fun _ => ⟨o2, fun g => ?_, fun g => ?_⟩, fun g => absurd g (by decide)⟩
      · exfalso
        apply g
        rw [t1]
        have : tdn = 12 := by omega
        rw [this]; rfl
      · exact r_no2.mpr ⟨fun g => absurd g (by decide), fun _ => finX rfl (by decide) (fin2 _ _)⟩
end CALLS2
