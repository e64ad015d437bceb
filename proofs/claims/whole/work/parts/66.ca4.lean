/-! ===== jumps that are made and taken back ===== -/
section CALLS4
variable {σ : SX} {u : FX} {fu : Nat} {a1 a2 : Int32} {f : Nat → Int64} {K : SX → (Nat → Int64) → FX → Prop}
theorem w_requireJump {L : Ln} {n p : Nat} (h2 : σ.1 2 = nI n) (hl : Lin σ L) (hL : Lok n L) (hfu : 20000 ≤ fu) (h15 : σ.1 15 = nI p) (hp : p < 2 ^ n) {P : Int32 → SX → Prop} {X : String → SX → Prop} (hX : okb n a1 = false ∨ okb n a2 = false → X "java/lang/IndexOutOfBoundsException" σ) (hN : ∀ a b, a < n → b < n → a1 = nI a → a2 = nI b → bj L p a b = mI → X "java/lang/UnsupportedOperationException" σ) (hP : ∀ a b, a < n → b < n → a1 = nI a → a2 = nI b → ¬ bj L p a b = mI → P (bj L p a b) σ) : wp_X3_requireJump fu σ a1 a2 P X := by
  have hn := hL.1
  have h8 := pow_13 hn
  unfold wp_X3_requireJump
  refine w_requireHole h2 hn (fun ho => hX (Or.inl ho)) (fun ho => ?_)
  refine w_requireHole h2 hn (fun ho2 => hX (Or.inr ho2)) (fun ho2 => ?_)
  obtain ⟨a, ha, rfl⟩ := (okb_iff (by omega)).mp ho
  obtain ⟨b, hb, rfl⟩ := (okb_iff (by omega)).mp ho2
  rw [h15]
  refine w_behindJump hl hL hfu (by omega) (by omega) (by omega) ⟨fun g => hP a b ha hb rfl rfl g, fun g => hN a b ha hb rfl rfl g⟩
theorem r_whyNoJump {t : SX} {L : Ln} {n p : Nat} (hR : Rin t L) (hL : Lok n L) (hfu : 20000 ≤ fu) (h0 : t.1 0 = nI n) (h2 : t.1 2 = nI p) (hp : p < 2 ^ n) {P : Int32 → Prop} (hX : okb n a1 = false ∨ okb n a2 = false → P 1) (hN : ∀ a b, a < n → b < n → a1 = nI a → a2 = nI b → bj L p a b = mI → P 2) (hP : ∀ a b, a < n → b < n → a1 = nI a → a2 = nI b → ¬ bj L p a b = mI → P 0) : wp_X4_whyNoJump fu t a1 a2 P := by
  have hn := hL.1
  have h8 := pow_13 hn
  have hm := hL.2.1
  unfold wp_X4_whyNoJump
  refine (r_isHole h0 hn).mpr ⟨fun g => hX (Or.inl ((zb_0 _).mp g)), fun g => ?_⟩
  refine (r_isHole h0 hn).mpr ⟨fun g2 => ?_, fun g2 => hX (Or.inr ((zb_0 _).mp g2))⟩
  obtain ⟨a, ha, rfl⟩ := (okb_iff (by omega)).mp (zb_ne g)
  obtain ⟨b, hb, rfl⟩ := (okb_iff (by omega)).mp (zb_ne g2)
  rw [h2]
  refine r_jumpOf hR hL hfu (by omega) (by omega) (by omega) ?_
  by_cases h : lnO L a b < L.length ∧ can L p (lnO L a b) = true
  · rw [if_pos h]
    exact ⟨fun _ => hP a b ha hb rfl rfl fun g => (jm_iff hL hp).mp g h, fun g => absurd g (fun q => (z_em (by omega)).mp q)⟩
  · rw [if_neg h]
    exact ⟨fun g => absurd rfl g, fun _ => hN a b ha hb rfl rfl ((jm_iff hL hp).mpr h)⟩
theorem bj_yes {L : Ln} {n p a b : Nat} (hL : Lok n L) (hp : p < 2 ^ n) (h : ¬ bj L p a b = mI) : lnO L a b < L.length ∧ can L p (lnO L a b) = true ∧ bj L p a b = nI (nx L p (lnO L a b)) := by
  rcases bj_mI (L := L) (q := p) (a := a) (b := b) with g | g
  · exact absurd g h
  · exact g
theorem hst_cong {L : Ln} {n : Nat} {md md' : Nat → Nat} : ∀ {i p : Nat}, (∀ j, j < i → md j = md' j) → hst L n md i p → hst L n md' i p
  | 0, _, _, _ => trivial
  | i + 1, p, e, h => by
    obtain ⟨h1, q, h2, h3, h4, h5⟩ := h
    rw [e i (by omega)] at h1 h3 h4
    exact ⟨h1, q, h2, h3, h4, hst_cong (fun j hj => e j (by omega)) h5⟩
theorem hst_len {L : Ln} {n : Nat} {md : Nat → Nat} (hL : Lok n L) : ∀ {i p : Nat}, p < 2 ^ n → hst L n md i p → i + pc p ≤ n ∧ (0 < i → 0 < pc p)
  | 0, p, hp, _ => by
    have := pc_le hp (by have := hL.1; omega)
    exact ⟨by omega, fun h => by omega⟩
  | i + 1, p, hp, h => by
    obtain ⟨h1, q, h2, h3, h4, h5⟩ := h
    have h6 := hst_len hL h2 h5
    have h7 := can_pc hL h1 h3
    rw [h4] at h7
    exact ⟨by omega, fun _ => by omega⟩
theorem hst_md {L : Ln} {n : Nat} {md : Nat → Nat} : ∀ {i p : Nat}, hst L n md i p → ∀ j, j < i → md j < L.length
  | 0, _, _, j, hj => by omega
  | i + 1, p, h, j, hj => by
    obtain ⟨h1, q, h2, h3, h4, h5⟩ := h
    rcases Nat.lt_or_eq_of_le (Nat.lt_succ_iff.mp hj) with e | e
    · exact hst_md h5 j e
    · rw [e]; exact h1
theorem nx_nx (L : Ln) (p k : Nat) : nx L (nx L p k) k = p := by
  unfold nx
  rw [Nat.xor_assoc, Nat.xor_self, Nat.xor_zero]
/-- one jump more, on both sides -/
theorem makes_inv {n kd p e mdn tdn k : Nat} {c md td : Nat → Nat} {w : Nat → Int32} (hA : Ab n kd p e mdn tdn c md td) (hk : k < (lns c n kd).length) (hc : can (lns c n kd) p k = true) : mdn < 12 ∧ Ab n kd (nx (lns c n kd) p k) e (mdn + 1) tdn c (upN md mdn k) td := by
  obtain ⟨q1, q2, q3, q4, q5, q6, q7⟩ := hA
  have hL := lns_ok q1 q2
  have h1 := hst_len hL q3 q7
  have h2 := can_pc hL hk hc
  have hn := q1.1
  refine ⟨by omega, q1, q2, nx_lt hL hk q3, q4, q5, q6, ?_⟩
  have e1 : upN md mdn k mdn = k := if_pos rfl
  refine ⟨by rw [e1]; exact hk, p, q3, by rw [e1]; exact hc, by rw [e1], hst_cong (fun j hj => ?_) q7⟩
  exact (if_neg (by omega)).symm
theorem w_makeJump {n kd p e mdn tdn k : Nat} {c md td : Nat → Nat} {w : Nat → Int32} (hA : Ab n kd p e mdn tdn c md td) (hH : Hs σ n kd p e mdn tdn c md td w) (hk : k < (lns c n kd).length) (hc : can (lns c n kd) p k = true) {P : SX → Prop} (hP : ∀ s, Hs s n kd (nx (lns c n kd) p k) e (mdn + 1) tdn c (upN md mdn k) td w → s.1 15 = nI (nx (lns c n kd) p k) → P s) : wp_X3_makeJump σ (nI (lF (lns c n kd) k)) (nI (lT (lns c n kd) k)) (nI (nx (lns c n kd) p k)) P := by
  have hL := lns_ok hA.1 hA.2.1
  have h8 := pow_13 hA.1.1
  have hx := nx_lt hL hk hA.2.2.1
  have hM := (makes_inv (w := w) hA hk hc).1
  obtain ⟨g1, g2, g3, g4, g5, g6, g7, g8⟩ := hH
  unfold wp_X3_makeJump
  refine ⟨fun q => absurd q (fun q => (z_em (by omega)).mp q), fun _ => ?_⟩
  have ec : nI (lF (lns c n kd) k) * 100 + nI (lT (lns c n kd) k) = nI (lF (lns c n kd) k * 100 + lT (lns c n kd) k) := by
    show nI _ * nI 100 + nI _ = _
    rw [pk_mul, nI_add]
  rw [g5, ec]
  refine (w_add hM (by decide)).mpr ?_
  refine hP _ ⟨g1, g2, rfl, g4, rfl, fun i hi => ?_, g7, g8⟩ rfl
  show upd (σ.2.1 8) mdn _ i = _
  unfold upN
  by_cases ei : i = mdn
  · subst ei; rw [upd_eq, if_pos rfl]
  · rw [upd_ne ei, if_neg ei]; exact g6 i (by omega)
theorem r_makes {n kd p e mdn tdn k : Nat} {c md td : Nat → Nat} {w : Nat → Int32} (hA : Ab n kd p e mdn tdn c md td) (hR : Rs u n kd p e mdn tdn c md td w) (hk : k < (lns c n kd).length) (hc : can (lns c n kd) p k = true) {P : Int32 → FX → Prop} (hP : ∀ v : FX, Rs v n kd (nx (lns c n kd) p k) e (mdn + 1) tdn c (upN md mdn k) td w → v.2.2 = u.2.2 → v.1.1 5 = u.1.1 5 → P (nI (pc (nx (lns c n kd) p k))) v) : wp_X4_makes u (nI k) P := by
  have hL := lns_ok hA.1 hA.2.1
  have h8 := pow_13 hA.1.1
  have hx := nx_lt hL hk hA.2.2.1
  have hm := hL.2.1
  have hM := (makes_inv (w := w) hA hk hc).1
  obtain ⟨rb, rl, r2, r3, o1, m1, m2, o2, t1, t2, o3⟩ := hR
  unfold wp_X4_makes
  rw [r2]
  refine (r_behind rl hL hk).mpr ⟨(z_in (by omega)).mpr (by omega), o1, by rw [m1]; exact hM, fun w1 h1 h2 h3 => ?_⟩
  refine (bc_pc (by omega) _).mpr ?_
  rw [m1] at h2 h3
  rw [nI_clamp (by omega)] at h3
  refine hP _ ⟨rb, rl, rfl, r3, h1, h2, fun i hi => ?_, o2, t1, t2, o3⟩ rfl rfl
  show w1.2.2.2.2.1 i = _
  rw [h3]
  unfold upN
  by_cases ei : i = mdn
  · rw [if_pos ei, if_pos ei]
  · rw [if_neg ei, if_neg ei]; exact m2 i (by omega)
theorem c_10 (hfu : 20000 ≤ fu) (hI : Inv σ u) (hK : ∀ σ' f' u', Inv σ' u' → K σ' f' u') : wp_case10 fu a1 a2 σ f u K := by
  obtain ⟨n, kd, p, e, mdn, tdn, c, md, td, w, hA, hH, hR⟩ := hI
  have hL := lns_ok hA.1 hA.2.1
  have h8 := pow_13 hA.1.1
  have hp := hA.2.2.1
  have hn := hA.1.1
  have hm := hL.2.1
  have fin2 : ∀ v f', K σ f' (sI u.1 5 v, u.2) := fun v f' => hK _ _ _ ⟨n, kd, p, e, mdn, tdn, c, md, td, w, hA, hH, hR.code _⟩
  unfold wp_case10 wp_L_jump wp_X3_jump
  refine w_requireJump hH.1.1.2.2.1 hH.1.2.1 hL hfu hH.2.2.1 hp (fun h => Or.inl ⟨rfl, ?_⟩) (fun a b ha hb g1 g2 g3 => Or.inr ⟨rfl, ?_⟩) (fun a b ha hb g1 g2 g3 => ?_)
  · unfold wp_X4_jump
    refine r_whyNoJump hR.2.1 hL hfu hR.1.1 hR.2.2.1 hp (fun _ => ?_) (fun a b ha hb g1 g2 _ => ?_) (fun a b ha hb g1 g2 _ => ?_)
    · exact r_no1.mpr ⟨fun g => absurd g (by decide), fun _ => finX rfl (by decide) (fin2 _ _)⟩
    · rw [g1, g2, okb_nI (by omega) ha, okb_nI (by omega) hb] at h; rcases h with h | h <;> cases h
    · rw [g1, g2, okb_nI (by omega) ha, okb_nI (by omega) hb] at h; rcases h with h | h <;> cases h
  · unfold wp_X4_jump
    refine r_whyNoJump hR.2.1 hL hfu hR.1.1 hR.2.2.1 hp (fun h => ?_) (fun _ _ _ _ _ _ _ => ?_) (fun a' b' ha' hb' g1' g2' g3' => ?_)
    · rw [g1, g2, okb_nI (by omega) ha, okb_nI (by omega) hb] at h; rcases h with h | h <;> cases h
    · exact r_no2.mpr ⟨fun g => absurd g (by decide), fun _ => finX rfl (by decide) (fin2 _ _)⟩
    · rw [g1] at g1'; rw [g2] at g2'
      rw [(nI_eq (by omega) (by omega)).mp g1', (nI_eq (by omega) (by omega)).mp g2'] at g3
      exact absurd g3 g3'
  · obtain ⟨y1, y2, y3⟩ := bj_yes hL hp g3
    obtain ⟨e1, e2⟩ := lnO_is y1
    rw [y3, g1, g2]
    have hmk := w_makeJump (w := w) hA hH y1 y2 (P := fun s9 => (wp_J6_bitCount_0f7a4 (s9.1 15) (fun r16 => (fun r s => (fun r694 s694 f694 => (wp_X4_jump fu u (nI a) (nI b) (fun r712 s712 => (wp_X4_thrown s712.1 (fun r718 => ((r718 = r694 → ((¬ r694 = 0 → (K s694 f694 s712)) ∧ (r694 = 0 → (((lg_cmp (f694 (0 : Int32).toNatClampNeg) r712.toInt64) = 0 → (K s694 f694 s712)) ∧ (¬ (lg_cmp (f694 (0 : Int32).toNatClampNeg) r712.toInt64) = 0 → False))))) ∧ (¬ r718 = r694 → False))))))) 0 s (vp_updL f 0 (Int32.toInt64 r))) r16 s9))) (fun s9 hs h15 => ?_)
    · rw [e1, e2] at hmk; exact hmk
    · have hx := nx_lt hL y1 hp
      rw [h15]
      refine (bc_pc (by omega) _).mpr ?_
      unfold wp_X4_jump
      refine r_whyNoJump hR.2.1 hL hfu hR.1.1 hR.2.2.1 hp (fun h => ?_) (fun a' b' ha' hb' g1' g2' g3' => ?_) (fun _ _ _ _ _ _ _ => ?_)
      · rw [okb_nI (by omega) ha, okb_nI (by omega) hb] at h; rcases h with h | h <;> cases h
      · rw [← (nI_eq (by omega) (by omega)).mp g1', ← (nI_eq (by omega) (by omega)).mp g2'] at g3'
        exact absurd g3' g3
      · refine r_ok.mpr ⟨fun _ => ?_, fun g => absurd rfl g⟩
        have hRs : Rin (sI u.1 5 0) (lns c n kd) := hR.2.1
        rw [sI_ne (by decide), hR.2.2.1]
        refine r_jumpOf hRs hL hfu (by omega) (by omega) (by omega) ?_
        rw [if_pos ⟨y1, y2⟩]
        refine r_makes (u := (sI u.1 5 0, u.2)) hA (hR.code 0) y1 y2 (fun v hv1 hv2 hv3 => ?_)
        exact finI (hv3.trans rfl) rfl (hK _ _ _ ⟨n, kd, _, e, mdn + 1, tdn, c, _, td, w, (makes_inv (w := w) hA y1 y2).2, hs, hv1⟩)
theorem c_13 (hfu : 20000 ≤ fu) (hI : Inv σ u) (hK : ∀ σ' f' u', Inv σ' u' → K σ' f' u') : wp_case13 fu σ f u K := by
  obtain ⟨n, kd, p, e, mdn, tdn, c, md, td, w, hA, hH, hR⟩ := hI
  have hL := lns_ok hA.1 hA.2.1
  have h8 := pow_13 hA.1.1
  have hp := hA.2.2.1
  have hn := hA.1.1
  have hm := hL.2.1
  have hlen := hst_len hL hp hA.2.2.2.2.2.2
  have fin2 : ∀ v f', K σ f' (sI u.1 5 v, u.2) := fun v f' => hK _ _ _ ⟨n, kd, p, e, mdn, tdn, c, md, td, w, hA, hH, hR.code _⟩
  obtain ⟨rb, rl, r2, r3, o1, m1, m2, o2, t1, t2, o3⟩ := hR
  obtain ⟨g1, g2, g3, g4, g5, g6, g7, g8⟩ := hH
  obtain ⟨q1, q2, q3, q4, q5, q6, q7⟩ := hA
  unfold wp_case13 wp_L_takeBack wp_X3_takeBack wp_X1_size
  rw [g5]
  cases mdn with
  | zero =>
    refine ⟨fun g => absurd rfl g, fun _ => ⟨rfl, ?_⟩⟩
    unfold wp_X4_takeBack wp_X4_takeBack_J18
    refine ⟨o1, fun g => ?_, fun _ => ?_⟩
    · rw [m1] at g; exact absurd g (by decide)
    · exact r_no1.mpr ⟨fun g => absurd g (by decide), fun _ => finX rfl (by decide) (fin2 _ _)⟩
  | succ mdn =>
    have hnz : ¬ nI (mdn + 1) = 0 := nI_ne0 (by omega) (by omega)
    obtain ⟨h1, q, h2, h3, h4, h5⟩ := q7
    obtain ⟨a1, a2, a3, -⟩ := hL.2.2.1 _ h1
    have hback : nx (lns c n kd) p (md mdn) = q := by rw [← h4]; exact nx_nx _ _ _
    refine ⟨fun _ => ?_, fun g => absurd g hnz⟩
    unfold wp_X1_removeLast
    have ep : nI (mdn + 1) - 1 = nI mdn := nI_pred mdn
    rw [ep]
    refine (w_at (by omega) (by omega) (by decide)).mpr ⟨fun g => absurd g (nI_nle (by omega) (by omega)), fun _ => ?_⟩
    rw [g6 mdn (by omega)]
    have hl2 : Lin (sI (sA σ 8 (σ.2.1 8)) 17 (nI mdn)) (lns c n kd) := g1.2.1
    refine w_lineOf hl2 hL hfu (by omega) (by omega) ?_
    rw [lnO_self hL h1, if_pos h1, g3]
    refine (w_ahead hl2 hL h1).mpr ?_
    unfold wp_X4_takeBack wp_X4_takeBack_J18
    refine ⟨o1, fun _ => ?_, fun g => ?_⟩
    · refine r_ok.mpr ⟨fun _ => ⟨o1, o1, ⟨by rw [m1]; omega, by rw [m1]; exact nI_pred mdn⟩, fun w1 b1 b2 b3 => ?_⟩, fun g => absurd rfl g⟩
      rw [m1] at b2
      have hmd : u.2.1.2.2.2.2.1 (u.2.1.2.2.2.2.2 - 1) = md mdn := by rw [m1, Nat.add_sub_cancel]; exact m2 mdn (by omega)
      rw [hmd, sI_ne (by decide), r2]
      have hRs : Rin (sI u.1 5 0) (lns c n kd) := rl
      refine (r_behind hRs hL h1).mpr ?_
      have hRs2 : Rin (sI (sI u.1 5 0) 2 (nI (nx (lns c n kd) p (md mdn)))) (lns c n kd) := rl
      refine (r_codeOf hRs2 hL h1).mpr ?_
      refine finI rfl (by rw [Nat.mul_comm]) (hK _ _ _ ⟨n, kd, nx (lns c n kd) p (md mdn), e, mdn, tdn, c, md, td, w, ⟨q1, q2, by rw [hback]; exact h2, q4, q5, q6, by rw [hback]; exact h5⟩, ⟨g1, g2, rfl, g4, rfl, fun i hi => g6 i (by omega), g7, g8⟩, ⟨rb, rl, rfl, r3, b1, by show w1.2.2.2.2.2 = mdn; omega, fun i hi => ?_, o2, t1, t2, o3⟩⟩)
      show w1.2.2.2.2.1 i = _
      rw [b3]; exact m2 i (by omega)
    · rw [m1] at g
      exfalso
      apply g
      unfold isE
      rw [if_neg (by omega)]
theorem c_43 (hfu : 20000 ≤ fu) (hI : Inv σ u) (hK : ∀ σ' f' u', Inv σ' u' → K σ' f' u') : wp_case43 fu σ f u K := by
  obtain ⟨n, kd, p, e, mdn, tdn, c, md, td, w, hA, hH, hR⟩ := hI
  have hL := lns_ok hA.1 hA.2.1
  have h8 := pow_13 hA.1.1
  have hp := hA.2.2.1
  have he := hA.2.2.2.1
  have hn := hA.1.1
  have hm := hL.2.1
  have hl := hH.1.2.1
  have hlen := hst_len hL hp hA.2.2.2.2.2.2
  have n10 : ¬ (1 : Int32) = 0 := by decide
  unfold wp_case43 wp_X3_isSound wp_X4_isSound
  rw [hH.2.2.1, hH.2.2.2.1]
  refine (w_hasPegs hH.1.1.2.2.1 hn).mpr ?_
  rw [okb_nI (by omega) hp]
  refine ⟨fun g => absurd g (by decide), fun _ => ?_⟩
  refine (w_hasPegs hH.1.1.2.2.1 hn).mpr ?_
  rw [okb_nI (by omega) he]
  refine ⟨fun g => absurd g (by decide), fun _ => ?_⟩
  have told := fun (P : Int32 → Prop) (hP : P 1) => lp (m := tdn) (Q := fun f i => wp_X3_isToldSound_L2 σ P (P 0) f (nI i)) (by
    intro f i hi ih
    rw [wp_X3_isToldSound_L2]
    unfold wp_X3_isToldSound_B2 wp_X1_size wp_X0_holes wp_X1_size
    have ht := hA.2.2.2.2.1
    rw [hH.2.2.2.2.2.2.1]
    show (nI tdn ≤ nI i → _) ∧ (¬ nI tdn ≤ nI i → _)
    rw [nI_leI (by omega) (by omega)]
    rcases Nat.lt_or_eq_of_le hi with d | d
    · have ih := ih d
      rw [nI_succ] at ih
      have hti := hA.2.2.2.2.2.1 i d
      refine ⟨fun q => by omega, fun _ => ?_⟩
      rw [w_at d (by omega) (by decide), hH.2.2.2.2.2.2.2 i d, hH.1.1.2.2.1]
      exact ⟨fun q => absurd q (nI_pos (by omega)), fun _ => ⟨fun _ => ih, fun q => absurd ((nI_ltI (by omega) (by omega)).mpr hti) q⟩⟩
    · exact ⟨fun _ => hP, fun q => by omega⟩) fu 0 (Nat.zero_le _) (by have := hA.2.2.2.2.1; omega)
  have made := fun (P : Int32 → Prop) (hP : P 1) => lpd (Q := fun f i => ∀ q, i ≤ mdn → q < 2 ^ n → hst (lns c n kd) n md i q → wp_X3_isMadeSound_L15 fu σ P (P 1) f (dn i) (nI q)) (by
    intro f q hi hq hs
    rw [wp_X3_isMadeSound_L15]
    unfold wp_X3_isMadeSound_B15 dn
    exact ⟨fun _ => hP, fun q => absurd (by decide) q⟩) (by
    intro f i ih q hi hq hs
    obtain ⟨h1, q', h2, h3, h4, h5⟩ := hs
    obtain ⟨a1, a2, a3, -⟩ := hL.2.2.1 _ h1
    rw [wp_X3_isMadeSound_L15]
    unfold wp_X3_isMadeSound_B15 dn
    refine ⟨fun q => absurd q (nI_pos (by omega)), fun _ => ?_⟩
    rw [hH.2.2.2.2.1]
    refine (w_at (by omega) (by omega) (by decide)).mpr ?_
    rw [hH.2.2.2.2.2.1 i (by omega)]
    refine w_lineOf hl hL hfu (by omega) (by omega) ?_
    rw [lnO_self hL h1, if_pos h1]
    refine (w_ahead hl hL h1).mpr ?_
    have hback : nx (lns c n kd) q (md i) = q' := by rw [← h4]; exact nx_nx _ _ _
    rw [hback]
    refine (w_behind hl hL (by omega) h1).mpr ?_
    rw [if_pos h3, h4]
    refine ⟨fun _ => ?_, fun g => absurd rfl g⟩
    have := ih q' (by omega) h2 h5
    rw [← dn_step] at this
    exact this)
  refine told _ ⟨fun g => absurd g n10, fun _ => ?_⟩
  unfold wp_X3_isMadeSound wp_X1_size
  rw [hH.2.2.2.2.1, hH.2.2.1]
  have ed : nI mdn - 1 = dn mdn := by
    cases mdn with
    | zero => decide
    | succ m => exact nI_pred m
  show wp_X3_isMadeSound_L15 fu σ _ _ fu (nI mdn - 1) (nI p)
  rw [ed]
  refine made _ ⟨fun g => absurd g n10, fun _ => finE rfl (hK _ _ _ ⟨n, kd, p, e, mdn, tdn, c, md, td, w, hA, hH, hR.code _⟩)⟩ fu mdn (by omega) p (Nat.le_refl _) hp hA.2.2.2.2.2.2
/-! the sweeps of what was made -/
def swp (L : Ln) (md : Nat → Nat) (i : Nat) : Bool := decide (i = 0 ∨ ¬ lF L (md i) = lT L (md (i - 1)))
theorem c_15 (hfu : 20000 ≤ fu) (hI : Inv σ u) (hK : ∀ σ' f' u', Inv σ' u' → K σ' f' u') : wp_case15 fu σ f u K := by
  obtain ⟨n, kd, p, e, mdn, tdn, c, md, td, w, hA, hH, hR⟩ := hI
  have hL := lns_ok hA.1 hA.2.1
  have hp := hA.2.2.1
  have hn := hA.1.1
  have hm := hL.2.1
  have hs := hA.2.2.2.2.2.2
  have hlen := hst_len hL hp hs
  have hmd := hst_md hs
  have fin2 : ∀ v f', K σ f' (sI u.1 5 v, u.2) := fun v f' => hK _ _ _ ⟨n, kd, p, e, mdn, tdn, c, md, td, w, hA, hH, hR.code _⟩
  obtain ⟨rb, rl, r2, r3, o1, m1, m2, o2, t1, t2, o3⟩ := hR
  unfold wp_case15
  have cls := fun (P : Int32 → Prop) (hP : P (nI (fb_ct (swp (lns c n kd) md) mdn))) => lp (m := mdn) (Q := fun f i => wp_X3_sweeps_L6 σ P f (nI i) (if i = 0 then mI else nI (lT (lns c n kd) (md (i - 1)))) (nI (fb_ct (swp (lns c n kd) md) i))) (by
    intro f i hi ih
    rw [wp_X3_sweeps_L6]
    unfold wp_X3_sweeps_B6 wp_X3_sweeps_J39 wp_X1_size
    rw [hH.2.2.2.2.1]
    show (nI mdn ≤ nI i → _) ∧ (¬ nI mdn ≤ nI i → _)
    rw [nI_leI (by omega) (by omega)]
    rcases Nat.lt_or_eq_of_le hi with d | d
    · have ih := ih d
      obtain ⟨a1, a2, a3, -⟩ := hL.2.2.1 _ (hmd i d)
      refine ⟨fun q => by omega, fun _ => ?_⟩
      rw [w_at d (by omega) (by decide), hH.2.2.2.2.2.1 i d, code_rem (by omega) (by omega), code_div (by omega) (by omega)]
      rw [if_neg (by omega), Nat.add_sub_cancel, fb_ct_succ, nI_succ] at ih
      have cmp : (nI (lF (lns c n kd) (md i)) = (if i = 0 then mI else nI (lT (lns c n kd) (md (i - 1))))) ↔ swp (lns c n kd) md i = false := by
        unfold swp
        rw [decide_eq_false_iff_not]
        by_cases h0 : i = 0
        · rw [if_pos h0, z_em (by omega)]
          exact ⟨False.elim, fun g => g (Or.inl h0)⟩
        · obtain ⟨-, -, b3, -⟩ := hL.2.2.1 _ (hmd (i - 1) (by omega))
          rw [if_neg h0, nI_eq (by omega) (by omega)]
          constructor
          · intro g h
            rcases h with h | h
            · exact h0 h
            · exact h g
          · intro g
            exact Classical.byContradiction fun h => g (Or.inr h)
      rw [cmp]
      refine ⟨fun q => ?_, fun q => ?_⟩
      · rw [if_neg (by rw [q]; decide), Nat.add_zero] at ih; exact ih
      · have q : swp (lns c n kd) md i = true := by
          cases h : swp (lns c n kd) md i
          · exact absurd h q
          · rfl
        rw [if_pos q, nI_succ] at ih; exact ih
    · refine ⟨fun _ => ?_, fun q => by omega⟩
      rw [d]; exact hP) fu 0 (Nat.zero_le _) (by omega)
  have rf := fun (P : Int32 → Prop) (hP : P (nI (fb_ct (swp (lns c n kd) md) mdn))) => lp (m := mdn) (Q := fun f i => wp_X4_sweeps_L9 u P f (nI i) (nI (fb_ct (swp (lns c n kd) md) i))) (by
    intro f i hi ih
    rw [wp_X4_sweeps_L9]
    unfold wp_X4_sweeps_B9 wp_X4_sweeps_J74 wp_X4_sweeps_J79
    rw [m1, nI_leI (by omega) (by omega)]
    refine ⟨o1, ?_⟩
    rcases Nat.lt_or_eq_of_le hi with d | d
    · have ih := ih d
      rw [fb_ct_succ, nI_succ] at ih
      have r3i := (rl.2 _ (hmd i d)).1
      have li := hmd i d
      obtain ⟨a1, a2, a3, -⟩ := hL.2.2.1 _ li
      refine ⟨fun q => by omega, fun _ => ⟨fun q => ?_, fun q => ?_⟩⟩
      · have q : i = 0 := (nI_eq (b := 0) (by omega) (by decide)).mp q
        rw [if_pos (show swp (lns c n kd) md i = true from decide_eq_true (Or.inl q)), nI_succ] at ih
        exact ih
      · have q : ¬ i = 0 := fun h => q (by rw [h]; rfl)
        have lj := hmd (i - 1) (by omega)
        obtain ⟨b1, b2, b3, -⟩ := hL.2.2.1 _ lj
        have ei : nI i - 1 = nI (i - 1) := pk_sub (b := 1) (by omega)
        rw [ei, nI_clamp (by omega), nI_clamp (by omega), m2 i d, m2 (i - 1) (by omega), nI_clamp (by omega), nI_clamp (by omega), (rl.2 _ li).1, (rl.2 _ lj).2.2]
        refine ⟨o1, (z_in (by omega)).mpr d, (z_in (by omega)).mpr (by omega), o1, (z_in (by omega)).mpr (by omega), (z_in (by omega)).mpr (by omega), ?_⟩
        rw [nI_eq (by omega) (by omega)]
        refine ⟨fun g => ?_, fun g => ?_⟩
        · have : swp (lns c n kd) md i = false := decide_eq_false fun h => by
            rcases h with h | h
            · exact q h
            · exact h g
          rw [if_neg (by rw [this]; decide), Nat.add_zero] at ih
          show wp_X4_sweeps_L9 u P f (nI i + 1) (nI (fb_ct (swp (lns c n kd) md) i) + 0)
          rw [Int32.add_zero]
          exact ih
        · rw [if_pos (show swp (lns c n kd) md i = true from decide_eq_true (Or.inr g)), nI_succ] at ih
          exact ih
    · refine ⟨fun _ => ?_, fun q => by omega⟩
      rw [d]; exact hP) fu 0 (Nat.zero_le _) (by omega)
  unfold wp_X3_sweeps
  refine cls _ ?_
  unfold wp_X4_sweeps
  exact rf _ (finE rfl (fin2 _ _))
/-! the checksum -/
def ck1 (c : Nat → Nat) (w : Nat → Int32) : Nat → Int64
  | 0 => 7
  | h + 1 => (31 * ((31 * ck1 c w h) + (nI (c h)).toInt64)) + (w h).toInt64
def ck2 (L : Ln) (md : Nat → Nat) (z : Int64) : Nat → Int64
  | 0 => z
  | i + 1 => (31 * ck2 L md z i) + (nI (lF L (md i) * 100 + lT L (md i))).toInt64
theorem c_40 (hfu : 20000 ≤ fu) (hI : Inv σ u) (hK : ∀ σ' f' u', Inv σ' u' → K σ' f' u') : wp_case40 fu σ f u K := by
  obtain ⟨n, kd, p, e, mdn, tdn, c, md, td, w, hA, hH, hR⟩ := hI
  have hC := hA.1
  have hL := lns_ok hA.1 hA.2.1
  have hp := hA.2.2.1
  have hn := hA.1.1
  have hm := hL.2.1
  have hs := hA.2.2.2.2.2.2
  have hlen := hst_len hL hp hs
  have hmd := hst_md hs
  have fin2 : ∀ v f', K σ f' (sI u.1 5 v, u.2) := fun v f' => hK _ _ _ ⟨n, kd, p, e, mdn, tdn, c, md, td, w, hA, hH, hR.code _⟩
  obtain ⟨rb, rl, r2, r3, o1, m1, m2, o2, t1, t2, o3⟩ := hR
  have hRs : Rin (sI u.1 5 0) (lns c n kd) := rl
  unfold wp_case40 wp_X3_checksum
  have a1 := fun (P : Int64 → Prop) (hP : P (ck1 c w n)) => lp (m := n) (Q := fun f i => wp_X3_checksum_L6 σ P f (nI i) (ck1 c w i)) (by
    intro f i hi ih
    rw [wp_X3_checksum_L6]
    unfold wp_X3_checksum_B6 wp_X0_holes wp_X1_size wp_X0_cellOf
    rw [hH.1.1.2.2.1]
    show (nI n ≤ nI i → _) ∧ (¬ nI n ≤ nI i → _)
    rw [nI_leI (by omega) (by omega)]
    rcases Nat.lt_or_eq_of_le hi with d | d
    · have ih := ih d
      rw [nI_succ] at ih
      refine ⟨fun q => by omega, fun _ => ?_⟩
      rw [w_at d (by omega) (by decide), hH.1.1.2.2.2 i d]
      exact (w_weightOf hC hH.1 d).mpr ih
    · refine ⟨fun _ => ?_, fun q => by omega⟩
      rw [d]; exact hP) fu 0 (Nat.zero_le _) (by omega)
  have a2 := fun (z : Int64) (P : Int64 → Prop) (hP : P (ck2 (lns c n kd) md z mdn)) => lp (m := mdn) (Q := fun f i => wp_X3_checksum_L81 σ P f (nI i) (ck2 (lns c n kd) md z i)) (by
    intro f i hi ih
    rw [wp_X3_checksum_L81]
    unfold wp_X3_checksum_B81 wp_X1_size
    rw [hH.2.2.2.2.1]
    show (nI mdn ≤ nI i → _) ∧ (¬ nI mdn ≤ nI i → _)
    rw [nI_leI (by omega) (by omega)]
    rcases Nat.lt_or_eq_of_le hi with d | d
    · have ih := ih d
      rw [nI_succ] at ih
      refine ⟨fun q => by omega, fun _ => ?_⟩
      rw [w_at d (by omega) (by decide), hH.2.2.2.2.2.1 i d]
      exact ih
    · refine ⟨fun _ => ?_, fun q => by omega⟩
      rw [d]; exact hP) fu 0 (Nat.zero_le _) (by omega)
  have b1 := fun (P : Int64 → Prop) (hP : P (ck1 c w n)) => lp (m := n) (Q := fun f i => wp_X4_checksum_L11 u P f (nI i) (ck1 c w i)) (by
    intro f i hi ih
    rw [wp_X4_checksum_L11]
    unfold wp_X4_checksum_B11
    rw [rb.1, nI_leI (by omega) (by omega)]
    rcases Nat.lt_or_eq_of_le hi with d | d
    · have ih := ih d
      rw [nI_succ] at ih
      refine ⟨fun q => by omega, fun _ => ⟨(z_in (by omega)).mpr (by omega), (z_in (by omega)).mpr (by omega), ?_⟩⟩
      rw [nI_clamp (by omega), rb.2.2.2.1 i d, rb.2.2.2.2 i d]
      exact ih
    · refine ⟨fun _ => ?_, fun q => by omega⟩
      rw [d]; exact hP) fu 0 (Nat.zero_le _) (by omega)
  have b2 := fun (z : Int64) (P : Int64 → Nat → Int32 → Prop) (hP : ∀ lr, P (ck2 (lns c n kd) md z mdn) mdn lr) => lp (m := mdn) (Q := fun f i => ∀ lr, wp_X4_checksum_L83 u P f (ck2 (lns c n kd) md z i) i lr) (by
    intro f i hi ih lr
    rw [wp_X4_checksum_L83]
    unfold wp_X4_checksum_B83 isH
    rw [m1]
    refine ⟨o1, hi, ?_⟩
    rcases Nat.lt_or_eq_of_le hi with d | d
    · have ih := ih d
      rw [if_pos d]
      refine ⟨fun q => absurd q (by decide), fun _ => ⟨o1, d, rfl, ?_⟩⟩
      rw [m2 i d]
      refine (r_codeOf hRs hL (hmd i d)).mpr ?_
      have := ih (nI i)
      show wp_X4_checksum_L83 u P f ((31 * ck2 (lns c n kd) md z i) + (nI (100 * lF (lns c n kd) (md i) + lT (lns c n kd) (md i))).toInt64) (i + 1) (nI i)
      rw [Nat.mul_comm 100]
      exact this
    · rw [if_neg (by omega)]
      refine ⟨fun _ => ?_, fun q => absurd rfl q⟩
      rw [d]; exact hP lr) fu 0 (Nat.zero_le _) (by omega)
  refine a1 _ (a2 _ _ ?_)
  unfold wp_X4_checksum
  refine b1 _ ⟨o1, b2 _ _ (fun lr => ?_) _⟩
  rw [hH.2.2.1, hH.2.2.2.1, r2, r3]
  exact finL rfl (fin2 _ f)
end CALLS4
