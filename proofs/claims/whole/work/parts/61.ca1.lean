/-! ===== the calls that only look ===== -/
section CALLS1
variable {σ : SX} {u : FX} {fu : Nat} {a1 a2 : Int32} {f : Nat → Int64} {K : SX → (Nat → Int64) → FX → Prop}
theorem zb_ne {b : Bool} (h : ¬ zb b = 0) : b = true := by
  cases b
  · exact absurd rfl h
  · rfl
theorem c_5 (hI : Inv σ u) (hK : ∀ σ' f' u', Inv σ' u' → K σ' f' u') : wp_case5 σ f u K := by
  obtain ⟨n, kd, p, e, mdn, tdn, c, md, td, w, hA, hH, hR⟩ := hI
  unfold wp_case5 wp_X3_lines wp_X4_lines
  rw [w_lineCount hH.1.2.1, hR.2.1.1]
  exact finE rfl (hK _ _ _ ⟨n, kd, p, e, mdn, tdn, c, md, td, w, hA, hH, hR.code _⟩)
theorem c_8 (hI : Inv σ u) (hK : ∀ σ' f' u', Inv σ' u' → K σ' f' u') : wp_case8 σ f u K := by
  obtain ⟨n, kd, p, e, mdn, tdn, c, md, td, w, hA, hH, hR⟩ := hI
  unfold wp_case8 wp_X3_now wp_X4_now
  rw [hH.2.2.1, hR.2.2.1]
  exact finE rfl (hK _ _ _ ⟨n, kd, p, e, mdn, tdn, c, md, td, w, hA, hH, hR.code _⟩)
theorem c_14 (hI : Inv σ u) (hK : ∀ σ' f' u', Inv σ' u' → K σ' f' u') : wp_case14 σ f u K := by
  obtain ⟨n, kd, p, e, mdn, tdn, c, md, td, w, hA, hH, hR⟩ := hI
  unfold wp_case14 wp_X3_made wp_X4_made wp_X1_size
  rw [hH.2.2.2.2.1, hR.2.2.2.2.2.1]
  exact ⟨hR.2.2.2.2.1, finE rfl (hK _ _ _ ⟨n, kd, p, e, mdn, tdn, c, md, td, w, hA, hH, hR.code _⟩)⟩
theorem c_6 (hfu : 20000 ≤ fu) (hI : Inv σ u) (hK : ∀ σ' f' u', Inv σ' u' → K σ' f' u') : wp_case6 fu σ f u K := by
  obtain ⟨n, kd, p, e, mdn, tdn, c, md, td, w, hA, hH, hR⟩ := hI
  unfold wp_case6
  refine w_symmetries hA.1 hA.2.1 hH.1.1 hH.1.2.1 hfu ?_
  refine r_symmetries hA.1 hA.2.1 hR.1 hR.2.1 hfu ?_
  exact finE rfl (hK _ _ _ ⟨n, kd, p, e, mdn, tdn, c, md, td, w, hA, hH, hR.code _⟩)
theorem c_11 (hfu : 20000 ≤ fu) (hI : Inv σ u) (hK : ∀ σ' f' u', Inv σ' u' → K σ' f' u') : wp_case11 fu σ f u K := by
  obtain ⟨n, kd, p, e, mdn, tdn, c, md, td, w, hA, hH, hR⟩ := hI
  have hL := lns_ok hA.1 hA.2.1
  have h8 := pow_13 hA.1.1
  have hp := hA.2.2.1
  have hR' : Rin (sI u.1 5 0) (lns c n kd) := hR.2.1
  unfold wp_case11 wp_X3_jumps wp_X4_jumps
  rw [hH.2.2.1, hR.2.2.1]
  refine (w_countJumps hH.1.2.1 hL hfu (by omega)).mpr ?_
  refine (r_jumpsOf hR' hL hfu (by omega)).mpr ?_
  exact finE rfl (hK _ _ _ ⟨n, kd, p, e, mdn, tdn, c, md, td, w, hA, hH, hR.code _⟩)
theorem c_4 (hI : Inv σ u) (hK : ∀ σ' f' u', Inv σ' u' → K σ' f' u') : wp_case4 a1 σ f u K := by
  obtain ⟨n, kd, p, e, mdn, tdn, c, md, td, w, hA, hH, hR⟩ := hI
  have hn := hA.1.1
  have hb := hH.1.1
  have fin : ∀ v, K σ f (sI u.1 5 v, u.2) := fun v => hK _ _ _ ⟨n, kd, p, e, mdn, tdn, c, md, td, w, hA, hH, hR.code _⟩
  have fin2 : ∀ v f', K σ f' (sI u.1 5 v, u.2) := fun v f' => hK _ _ _ ⟨n, kd, p, e, mdn, tdn, c, md, td, w, hA, hH, hR.code _⟩
  unfold wp_case4 wp_L_cell wp_X3_cell wp_X4_cell wp_X4_cell_J14
  refine w_requireHole hb.2.2.1 hn (fun ho => ⟨rfl, ?_⟩) (fun ho => ?_)
  · refine (r_isHole hR.1.1 hn).mpr ?_
    rw [ho]
    refine ⟨fun _ => ?_, fun g => absurd rfl g⟩
    refine r_no1.mpr ?_
    exact ⟨fun g => absurd g (by decide), fun _ => finX rfl (by decide) (fin _)⟩
  · obtain ⟨j, hj, rfl⟩ := (okb_iff (by omega)).mp ho
    unfold wp_X0_cellOf
    rw [hb.2.2.1, w_at hj (by omega) (by decide), hb.2.2.2 j hj]
    refine (r_isHole hR.1.1 hn).mpr ?_
    rw [ho]
    refine ⟨fun g => absurd g (by decide), fun _ => ?_⟩
    refine r_ok.mpr ?_
    refine ⟨fun _ => ⟨(z_in (by omega)).mpr (by omega), ?_⟩, fun g => absurd rfl g⟩
    refine finI rfl ?_ (fin2 _ _)
    show _ = u.1.2.1 1 (nI j).toNatClampNeg
    rw [nI_clamp (by omega), hR.1.2.2.2.1 j hj]
theorem c_3 (hfu : 20000 ≤ fu) (hI : Inv σ u) (hK : ∀ σ' f' u', Inv σ' u' → K σ' f' u') : wp_case3 fu a1 σ f u K := by
  obtain ⟨n, kd, p, e, mdn, tdn, c, md, td, w, hA, hH, hR⟩ := hI
  have hC := hA.1
  have hn := hA.1.1
  have hb := hH.1.1
  have hm := mk_lt (c := c) (n := n) hC.2.1
  have fin2 : ∀ v f', K σ f' (sI u.1 5 v, u.2) := fun v f' => hK _ _ _ ⟨n, kd, p, e, mdn, tdn, c, md, td, w, hA, hH, hR.code _⟩
  unfold wp_case3 wp_L_hole wp_X3_hole wp_X4_hole wp_X4_hole_J28
  refine w_requireCell (fun ho => Or.inl ⟨rfl, ?_⟩) (fun ho => ?_)
  · refine (r_in (m := 25) (by decide) (by rfl)).mpr ?_
    rw [ho]
    refine ⟨fun g => absurd rfl g, fun _ => ?_⟩
    refine r_no1.mpr ?_
    exact ⟨fun g => absurd g (by decide), fun _ => finX rfl (by decide) (fin2 _ _)⟩
  · obtain ⟨j, hj, rfl⟩ := (okb_iff (by omega)).mp ho
    rw [w_isHole hb.2.1 (by omega) hj]
    refine ⟨fun hd => ?_, fun hd => Or.inr ⟨rfl, ?_⟩⟩
    · have hd := zb_ne hd
      refine (w_numberOf hC hb.2.1 hj hd).mpr ?_
      refine (r_in (m := 25) (by decide) (by rfl)).mpr ?_
      rw [ho]
      refine ⟨fun _ => ?_, fun g => absurd g (by decide)⟩
      refine (r_isDrilled hC hR.1 hfu hj).mpr ?_
      rw [hd]
      refine ⟨fun g => absurd g (by decide), fun _ => ?_⟩
      refine r_ok.mpr ?_
      refine ⟨fun _ => ⟨(z_in (by omega)).mpr (by omega), ?_⟩, fun g => absurd rfl g⟩
      refine finI rfl ?_ (fin2 _ _)
      show _ = u.1.2.1 0 (nI j).toNatClampNeg
      have h0 : 0 < n := by
        obtain ⟨i, hi, -⟩ := (mk_bit c j n).mp hd
        omega
      rw [nI_clamp (by omega), hR.1.2.2.1 h0 j hj, if_pos hd]
    · have hd : (mk c n).testBit j = false := (zb_0 _).mp hd
      refine (r_in (m := 25) (by decide) (by rfl)).mpr ?_
      rw [ho]
      refine ⟨fun _ => ?_, fun g => absurd g (by decide)⟩
      refine (r_isDrilled hC hR.1 hfu hj).mpr ?_
      rw [hd]
      refine ⟨fun _ => ?_, fun g => absurd rfl g⟩
      refine r_no2.mpr ?_
      exact ⟨fun g => absurd g (by decide), fun _ => finX rfl (by decide) (fin2 _ _)⟩
theorem c_12 (hfu : 20000 ≤ fu) (hI : Inv σ u) (hK : ∀ σ' f' u', Inv σ' u' → K σ' f' u') : wp_case12 fu a1 σ f u K := by
  obtain ⟨n, kd, p, e, mdn, tdn, c, md, td, w, hA, hH, hR⟩ := hI
  have hL := lns_ok hA.1 hA.2.1
  have h8 := pow_13 hA.1.1
  have hp := hA.2.2.1
  have hm := hL.2.1
  have hl := hH.1.2.1
  have hR' : Rin (sI u.1 5 0) (lns c n kd) := hR.2.1
  have fin2 : ∀ v f', K σ f' (sI u.1 5 v, u.2) := fun v f' => hK _ _ _ ⟨n, kd, p, e, mdn, tdn, c, md, td, w, hA, hH, hR.code _⟩
  -- what the reference answers, from what is known of the lines ahead of i
  have rr := fun (P : Int32 → SX → Prop) (i : Nat) (hno : ∀ k, k < i → can (lns c n kd) p k = true → ¬ nI (fb_ct (can (lns c n kd) p) k) = a1) (hi : i ≤ (lns c n kd).length) (hend : i = (lns c n kd).length → P 0 (sI u.1 5 1)) (hyes : i < (lns c n kd).length → can (lns c n kd) p i = true ∧ nI (fb_ct (can (lns c n kd) p) i) = a1 ∧ P (nI (100 * lF (lns c n kd) i + lT (lns c n kd) i)) (sI u.1 5 0)) =>
    lp (m := i) (Q := fun g k => wp_X4_jumpAt_L4 u.1 a1 P (P 0 (sI u.1 5 1)) g (nI k) (nI (fb_ct (can (lns c n kd) p) k))) (by
      intro g k hk ih
      rw [wp_X4_jumpAt_L4]
      unfold wp_X4_jumpAt_B4 wp_X4_jumpAt_J46
      rw [hR.2.1.1, hR.2.2.1, nI_leI (by omega) (by omega)]
      rcases Nat.lt_or_eq_of_le hk with d | d
      · have ih := ih d
        rw [fb_ct_succ, nI_succ] at ih
        refine ⟨fun q => by omega, fun _ => ?_⟩
        rw [r_can hR.2.1 hL (by omega) (by omega)]
        refine ⟨fun hc => ⟨fun _ => ?_, fun q => absurd q (hno k d (zb_ne hc))⟩, fun hc => ?_⟩
        · rw [if_pos (zb_ne hc), nI_succ] at ih; exact ih
        · have hc : can (lns c n kd) p k = false := (zb_0 _).mp hc
          simp only [hc, Bool.false_eq_true, if_false, Nat.add_zero] at ih; exact ih
      · rw [d]
        refine ⟨fun q => hend (by omega), fun q => ?_⟩
        obtain ⟨y1, y2, y3⟩ := hyes (by omega)
        rw [r_can hR.2.1 hL (by omega) (by omega), y1]
        refine ⟨fun _ => ⟨fun q => absurd y2 q, fun _ => ?_⟩, fun q => absurd q (by decide)⟩
        rw [r_codeOf hR' hL (by omega)]
        exact y3) fu 0 (Nat.zero_le _) (by omega)
  have key := lp (m := (lns c n kd).length) (Q := fun g i => (∀ k, k < i → can (lns c n kd) p k = true → ¬ nI (fb_ct (can (lns c n kd) p) k) = a1) → wp_X3_jumpAt_L4 σ a1 (fun r s => (fun r769 s769 f769 => (wp_X4_jumpAt fu u.1 a1 (fun r781 s781 => (wp_X4_thrown ((s781, u.2).1) (fun r787 => ((r787 = r769 → ((¬ r769 = 0 → (K s769 f769 (s781, u.2))) ∧ (r769 = 0 → (((lg_cmp (f769 (0 : Int32).toNatClampNeg) r781.toInt64) = 0 → (K s769 f769 (s781, u.2))) ∧ (¬ (lg_cmp (f769 (0 : Int32).toNatClampNeg) r781.toInt64) = 0 → False))))) ∧ (¬ r787 = r769 → False))))))) 0 s (vp_updL f 0 (Int32.toInt64 r))) ((fun E s => (E = "java/util/NoSuchElementException" ∧ (fun r769 s769 f769 => (wp_X4_jumpAt fu u.1 a1 (fun r781 s781 => (wp_X4_thrown ((s781, u.2).1) (fun r787 => ((r787 = r769 → ((¬ r769 = 0 → (K s769 f769 (s781, u.2))) ∧ (r769 = 0 → (((lg_cmp (f769 (0 : Int32).toNatClampNeg) r781.toInt64) = 0 → (K s769 f769 (s781, u.2))) ∧ (¬ (lg_cmp (f769 (0 : Int32).toNatClampNeg) r781.toInt64) = 0 → False))))) ∧ (¬ r787 = r769 → False))))))) 1 s f)) "java/util/NoSuchElementException" σ) g (nI i) (nI (fb_ct (can (lns c n kd) p) i))) (by
    intro g i hi ih hno
    rw [wp_X3_jumpAt_L4]
    unfold wp_X3_jumpAt_B4 wp_X3_jumpAt_J48
    rw [w_lineCount hl, hH.2.2.1, nI_leI (by omega) (by omega)]
    rcases Nat.lt_or_eq_of_le hi with d | d
    · have ih := ih d
      rw [fb_ct_succ, nI_succ] at ih
      refine ⟨fun q => by omega, fun _ => ?_⟩
      rw [w_behind hl hL (by omega) d]
      by_cases hc : can (lns c n kd) p i = true
      · rw [if_pos hc, nI_succ] at ih
        rw [if_pos hc]
        have hx := nx_lt hL d hp
        refine ⟨fun q => absurd q (fun q => (z_em (by omega)).mp q), fun _ => ⟨fun q => ih fun k hk hck => ?_, fun q => ?_⟩⟩
        · rcases Nat.lt_or_eq_of_le (Nat.lt_succ_iff.mp hk) with g2 | g2
          · exact hno k g2 hck
          · rw [g2]; exact q
        · rw [w_codeOf hl hL d]
          refine rr _ i hno hi (fun q => by omega) (fun _ => ⟨hc, q, ?_⟩)
          refine finI rfl ?_ (fin2 _ _)
          rw [Nat.mul_comm]
      · rw [if_neg hc]
        rw [if_neg hc, Nat.add_zero] at ih
        refine ⟨fun _ => ih fun k hk hck => ?_, fun q => absurd rfl q⟩
        rcases Nat.lt_or_eq_of_le (Nat.lt_succ_iff.mp hk) with g2 | g2
        · exact hno k g2 hck
        · rw [g2] at hck; exact absurd hck hc
    · refine ⟨fun _ => ⟨rfl, ?_⟩, fun q => by omega⟩
      rw [d] at hno
      refine rr _ _ hno (Nat.le_refl _) (fun _ => ?_) (fun q => absurd q (Nat.lt_irrefl _))
      exact finX rfl (by decide) (fin2 _ _)) fu 0 (Nat.zero_le _) (by omega)
  exact key (fun k hk => by omega)
theorem jm_iff {L : Ln} {n q a b : Nat} (hL : Lok n L) (hq : q < 2 ^ n) : bj L q a b = mI ↔ ¬ (lnO L a b < L.length ∧ can L q (lnO L a b) = true) := by
  have h8 := pow_13 hL.1
  unfold bj
  by_cases h : lnO L a b < L.length ∧ can L q (lnO L a b) = true
  · rw [if_pos h]
    have := nx_lt hL h.1 hq
    exact ⟨fun g => ((z_em (by omega)).mp g).elim, fun g => absurd h g⟩
  · rw [if_neg h]
    exact ⟨fun _ => h, fun _ => rfl⟩
theorem r_mayJump {t : SX} {L : Ln} {n q fu : Nat} {a1 a2 : Int32} (hR : Rin t L) (hL : Lok n L) (h0 : t.1 0 = nI n) (h2 : t.1 2 = nI q) (hq : q < 2 ^ n) (hfu : 20000 ≤ fu) {P : Int32 → SX → Prop} (hX : okb n a1 = false ∨ okb n a2 = false → P 0 (sI t 5 1)) (hP : ∀ a b, a < n → b < n → a1 = nI a → a2 = nI b → (bj L q a b = mI → P 0 (sI t 5 0)) ∧ (¬ bj L q a b = mI → P 1 (sI t 5 0))) : wp_X4_mayJump fu t a1 a2 P := by
  have h8 := pow_13 hL.1
  have hn := hL.1
  have hm := hL.2.1
  unfold wp_X4_mayJump wp_X4_mayJump_J21 wp_X4_mayJump_J22
  refine (r_isHole h0 hn).mpr ⟨fun g => ?_, fun g => ?_⟩
  · refine r_no1.mpr ⟨fun _ => hX (Or.inl ((zb_0 _).mp g)), fun g => absurd g (by decide)⟩
  · obtain ⟨a, ha, rfl⟩ := (okb_iff (by omega)).mp (zb_ne g)
    refine (r_isHole h0 hn).mpr ⟨fun g => ?_, fun g => ?_⟩
    · refine r_no1.mpr ⟨fun _ => hX (Or.inr ((zb_0 _).mp g)), fun g => absurd g (by decide)⟩
    · obtain ⟨b, hb, rfl⟩ := (okb_iff (by omega)).mp (zb_ne g)
      refine r_ok.mpr ⟨fun g => absurd rfl g, fun _ => ?_⟩
      have hRs : Rin (sI t 5 0) L := hR
      rw [sI_ne (by decide), h2]
      obtain ⟨p1, p2⟩ := hP a b ha hb rfl rfl
      refine r_jumpOf hRs hL hfu (by omega) (by omega) (by omega) ?_
      by_cases h : lnO L a b < L.length ∧ can L q (lnO L a b) = true
      · rw [if_pos h]
        exact ⟨fun g => absurd g (fun q => (z_em (by omega)).mp q), fun _ => p2 (fun g => (jm_iff hL hq).mp g h)⟩
      · rw [if_neg h]
        exact ⟨fun _ => p1 ((jm_iff hL hq).mpr h), fun g => absurd rfl g⟩
theorem c_9 (hfu : 20000 ≤ fu) (hI : Inv σ u) (hK : ∀ σ' f' u', Inv σ' u' → K σ' f' u') : wp_case9 fu a1 a2 σ f u K := by
  obtain ⟨n, kd, p, e, mdn, tdn, c, md, td, w, hA, hH, hR⟩ := hI
  have hL := lns_ok hA.1 hA.2.1
  have h8 := pow_13 hA.1.1
  have hp := hA.2.2.1
  have hn := hA.1.1
  have hb := hH.1.1
  have hl := hH.1.2.1
  have fin2 : ∀ v f', K σ f' (sI u.1 5 v, u.2) := fun v f' => hK _ _ _ ⟨n, kd, p, e, mdn, tdn, c, md, td, w, hA, hH, hR.code _⟩
  unfold wp_case9 wp_L_mayJump wp_X3_mayJump
  refine w_requireHole hb.2.2.1 hn (fun ho => ⟨rfl, ?_⟩) (fun ho => ?_)
  · refine r_mayJump hR.2.1 hL hR.1.1 hR.2.2.1 hp hfu (fun _ => finX rfl (by decide) (fin2 _ _)) (fun a b ha hb g1 g2 => ?_)
    rw [g1, okb_nI (by omega) ha] at ho; cases ho
  · refine w_requireHole hb.2.2.1 hn (fun ho2 => ⟨rfl, ?_⟩) (fun ho2 => ?_)
    · refine r_mayJump hR.2.1 hL hR.1.1 hR.2.2.1 hp hfu (fun _ => finX rfl (by decide) (fin2 _ _)) (fun a b ha hb g1 g2 => ?_)
      rw [g2, okb_nI (by omega) hb] at ho2; cases ho2
    · obtain ⟨a, ha, rfl⟩ := (okb_iff (by omega)).mp ho
      obtain ⟨b, hb2, rfl⟩ := (okb_iff (by omega)).mp ho2
      rw [hH.2.2.1]
      refine w_behindJump hl hL hfu (by omega) (by omega) (by omega) ⟨fun g => ?_, fun g => ?_⟩
      · refine r_mayJump hR.2.1 hL hR.1.1 hR.2.2.1 hp hfu (fun g => ?_) (fun a' b' ha' hb' g1 g2 => ?_)
        · rw [ho, ho2] at g; rcases g with g | g <;> cases g
        · have g1 := (nI_eq (by omega) (by omega)).mp g1
          have g2 := (nI_eq (by omega) (by omega)).mp g2
          subst g1; subst g2
          exact ⟨fun _ => finB rfl rfl (fin2 _ _), fun g3 => absurd g g3⟩
      · refine r_mayJump hR.2.1 hL hR.1.1 hR.2.2.1 hp hfu (fun g => ?_) (fun a' b' ha' hb' g1 g2 => ?_)
        · rw [ho, ho2] at g; rcases g with g | g <;> cases g
        · have g1 := (nI_eq (by omega) (by omega)).mp g1
          have g2 := (nI_eq (by omega) (by omega)).mp g2
          subst g1; subst g2
          exact ⟨fun g3 => absurd g3 g, fun _ => finB rfl rfl (fin2 _ _)⟩
end CALLS1
