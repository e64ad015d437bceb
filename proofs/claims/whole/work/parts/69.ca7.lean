/-! ===== rows of told holes ===== -/
section CALLS7
variable {σ : SX} {u : FX} {fu : Nat} {a1 a2 : Int32} {f : Nat → Int64} {K : SX → (Nat → Int64) → FX → Prop}
def ps (L : Ln) (p : Nat) (td : Nat → Nat) : Nat → Nat
  | 0 => p
  | i + 1 => nx L (ps L p td i) (lnO L (td i) (td (i + 1)))
def okS (L : Ln) (p : Nat) (td : Nat → Nat) (i : Nat) : Bool := decide (lnO L (td i) (td (i + 1)) < L.length) && can L (ps L p td i) (lnO L (td i) (td (i + 1)))
def ffJ (L : Ln) (p : Nat) (td : Nat → Nat) (m : Nat) : Nat := fa_first (fun i => !okS L p td i) (m - 1)
def rfv (L : Ln) (p : Nat) (td : Nat → Nat) (m : Nat) : Int32 := if m = 0 then nI 0 else if p.testBit (td 0) = false then nI 0 else if m = 1 then nI 1 else if ffJ L p td m < m - 1 then nI (ffJ L p td m + 1) else mI
theorem okS_iff {L : Ln} {p i : Nat} {td : Nat → Nat} : okS L p td i = true ↔ lnO L (td i) (td (i + 1)) < L.length ∧ can L (ps L p td i) (lnO L (td i) (td (i + 1))) = true := by
  unfold okS
  rw [Bool.and_eq_true, decide_eq_true_iff]
theorem ps_lt {L : Ln} {n p : Nat} {td : Nat → Nat} (hL : Lok n L) (hp : p < 2 ^ n) : ∀ {i : Nat}, (∀ j, j < i → okS L p td j = true) → ps L p td i < 2 ^ n
  | 0, _ => hp
  | i + 1, h => nx_lt hL (okS_iff.mp (h i (by omega))).1 (ps_lt hL hp fun j hj => h j (by omega))
theorem bj_okS {L : Ln} {n p i : Nat} {td : Nat → Nat} (hL : Lok n L) (hq : ps L p td i < 2 ^ n) : (okS L p td i = true → bj L (ps L p td i) (td i) (td (i + 1)) = nI (ps L p td (i + 1))) ∧ (okS L p td i = false → bj L (ps L p td i) (td i) (td (i + 1)) = mI) := by
  constructor
  · intro h
    exact if_pos (okS_iff.mp h)
  · intro h
    refine if_neg fun g => ?_
    rw [okS_iff.mpr g] at h; cases h
theorem rfv_mI {L : Ln} {p m : Nat} {td : Nat → Nat} (h : rfv L p td m = mI) (hm : m ≤ 12) : 2 ≤ m ∧ ∀ i, i < m - 1 → okS L p td i = true := by
  unfold rfv at h
  by_cases h0 : m = 0
  · rw [if_pos h0] at h; exact absurd h (by decide)
  · rw [if_neg h0] at h
    by_cases h1 : p.testBit (td 0) = false
    · rw [if_pos h1] at h; exact absurd h (by decide)
    · rw [if_neg h1] at h
      by_cases h2 : m = 1
      · rw [if_pos h2] at h; exact absurd h (by decide)
      · rw [if_neg h2] at h
        by_cases h3 : ffJ L p td m < m - 1
        · rw [if_pos h3] at h
          exact absurd h fun q => (z_em (a := ffJ L p td m + 1) (by omega)).mp q
        · refine ⟨by omega, fun i hi => ?_⟩
          have := fa_first_no (fun i => !okS L p td i) (m - 1) i (by unfold ffJ at h3; omega)
          simpa using this
theorem w_rowFault {n kd p e mdn tdn : Nat} {c md td : Nat → Nat} {w : Nat → Int32} (hA : Ab n kd p e mdn tdn c md td) (hH : Hs σ n kd p e mdn tdn c md td w) (hfu : 20000 ≤ fu) {P : Int32 → Prop} (hP : P (rfv (lns c n kd) p td tdn)) : wp_X3_rowFault fu σ P := by
  have hL := lns_ok hA.1 hA.2.1
  have h8 := pow_13 hA.1.1
  have hn := hA.1.1
  have hp := hA.2.2.1
  have ht12 := hA.2.2.2.2.1
  have htd := hA.2.2.2.2.2.1
  have hl := hH.1.2.1
  have h18 := hH.2.2.2.2.2.2.1
  have h9 := hH.2.2.2.2.2.2.2
  unfold rfv at hP
  unfold wp_X3_rowFault
  rw [h18]
  by_cases h0 : tdn = 0
  · rw [if_pos h0] at hP
    rw [h0]
    exact (w_at_out (i := 0) (by omega) (by decide) (by decide)).mpr ⟨fun _ => hP, fun g => absurd rfl g⟩
  · rw [if_neg h0] at hP
    have ht0 := htd 0 (by omega)
    refine (w_at (i := 0) (by omega) (by omega) (by decide)).mpr ?_
    rw [h9 0 (by omega), hH.2.2.1]
    refine ⟨fun g => absurd g fun q => (z_em (a := td 0) (by omega)).mp q, fun _ => ?_⟩
    have b0 : ((nI p >>> (nI (td 0) &&& 31)) &&& 1) = 0 ↔ p.testBit (td 0) = false := z_bit0 (by omega) (by omega)
    rw [b0]
    refine ⟨fun g => ?_, fun g => by rw [if_pos g] at hP; exact hP⟩
    rw [if_neg g] at hP
    unfold wp_X1_size
    have e1 : nI tdn = 1 ↔ tdn = 1 := nI_eq (b := 1) (by omega) (by decide)
    show (¬ nI tdn = 1 → _) ∧ (nI tdn = 1 → _)
    rw [e1]
    refine ⟨fun h1 => ?_, fun h1 => by rw [if_pos h1] at hP; exact hP⟩
    rw [if_neg h1] at hP
    have key := lp (m := tdn - 1) (Q := fun f i => (∀ j, j < i → okS (lns c n kd) p td j = true) → wp_X3_rowFault_L47 fu σ P (P (-1)) f (nI (i + 1)) (nI (ps (lns c n kd) p td i))) (by
      intro f i hi ih hall
      rw [wp_X3_rowFault_L47]
      unfold wp_X3_rowFault_B47 wp_X1_size
      rw [h18]
      show (nI tdn ≤ nI (i + 1) → _) ∧ (¬ nI tdn ≤ nI (i + 1) → _)
      rw [nI_leI (by omega) (by omega)]
      have hps := ps_lt hL hp hall
      rcases Nat.lt_or_eq_of_le hi with d | d
      · have ih := ih d
        have t1 := htd i (by omega)
        have t2 := htd (i + 1) (by omega)
        refine ⟨fun q => by omega, fun _ => ?_⟩
        have ep : nI (i + 1) - 1 = nI i := nI_pred i
        rw [ep]
        refine (w_at (by omega) (by omega) (by decide)).mpr ?_
        refine (w_at (by omega) (by omega) (by decide)).mpr ?_
        rw [h9 i (by omega), h9 (i + 1) (by omega)]
        refine w_behindJump hl hL hfu (by omega) (by omega) (by omega) ?_
        obtain ⟨y, z⟩ := bj_okS (td := td) hL hps
        cases hok : okS (lns c n kd) p td i
        · rw [z hok]
          refine ⟨fun q => absurd rfl q, fun _ => ?_⟩
          have ej : ffJ (lns c n kd) p td tdn = i := first_eq (fun j hj => by rw [hall j hj]; rfl) (Or.inr ⟨d, by rw [hok]; rfl⟩)
          rw [ej, if_pos d] at hP
          exact hP
        · rw [y hok]
          have hall' : ∀ j, j < i + 1 → okS (lns c n kd) p td j = true := fun j hj => by
            rcases Nat.lt_or_eq_of_le (Nat.lt_succ_iff.mp hj) with a | a
            · exact hall j a
            · rw [a]; exact hok
          have hps' := ps_lt hL hp hall'
          refine ⟨fun _ => ?_, fun q => absurd q fun q => (z_em (a := ps (lns c n kd) p td (i + 1)) (by omega)).mp q⟩
          have := ih hall'
          rw [nI_succ (i + 1)] at this
          exact this
      · refine ⟨fun _ => ?_, fun q => by omega⟩
        have ej : ffJ (lns c n kd) p td tdn = tdn - 1 := first_eq (fun j hj => by rw [hall j (by omega)]; rfl) (Or.inl rfl)
        rw [ej, if_neg (Nat.lt_irrefl _)] at hP
        exact hP) fu 0 (Nat.zero_le _) (by omega)
    exact key (fun j hj => absurd hj (Nat.not_lt_zero j))
theorem r_faultIn {n kd p e mdn tdn : Nat} {c md td : Nat → Nat} {w : Nat → Int32} (hA : Ab n kd p e mdn tdn c md td) (hR : Rs u n kd p e mdn tdn c md td w) (hfu : 20000 ≤ fu) {P : Int32 → FX → Prop} (hP : ∀ rw', okL rw' → (rfv (lns c n kd) p td tdn = mI → rw'.2.2.2.2.2 = tdn - 1 ∧ ∀ i, i < tdn - 1 → rw'.2.2.2.2.1 i = lnO (lns c n kd) (td i) (td (i + 1))) → P (rfv (lns c n kd) p td tdn) (u.1, u.2.1, u.2.2.1, rw', u.2.2.2.2)) : wp_X4_faultIn fu u P := by
  have hL := lns_ok hA.1 hA.2.1
  have h8 := pow_13 hA.1.1
  have hn := hA.1.1
  have hm := hL.2.1
  have hp := hA.2.2.1
  have ht12 := hA.2.2.2.2.1
  have htd := hA.2.2.2.2.2.1
  obtain ⟨rb, rl, r2, r3, o1, m1, m2, o2, t1, t2, o3⟩ := hR
  unfold wp_X4_faultIn
  refine ⟨o3, fun w4 k1 k2 => ⟨o2, ?_⟩⟩
  rw [t1]
  by_cases h0 : tdn = 0
  · have e : rfv (lns c n kd) p td tdn = nI 0 := if_pos h0
    have hP := hP w4 k1 (fun g => by rw [e] at g; exact absurd g (by decide))
    rw [e] at hP
    unfold isE
    rw [if_pos h0]
    exact ⟨fun _ => hP, fun g => absurd g (by decide)⟩
  · unfold isE
    rw [if_neg h0]
    refine ⟨fun g => absurd rfl g, fun _ => ⟨o2, (z_in (a := 0) (by decide)).mpr (by omega), ?_⟩⟩
    have ht0 := htd 0 (by omega)
    show wp_X4_has (u.1.1 2) (nI (u.2.2.1.2.2.2.2.1 0)) _
    rw [r2, t2 0 (by omega)]
    refine (r_has (by omega) (by omega)).mpr ⟨fun g => ?_, fun g => ?_⟩
    · have g := zb_ne g
      have gn : ¬ p.testBit (td 0) = false := by rw [g]; decide
      refine ⟨o2, ?_⟩
      have e1 : nI tdn = 1 ↔ tdn = 1 := nI_eq (b := 1) (by omega) (by decide)
      rw [e1]
      refine ⟨fun h1 => ?_, fun h1 => ?_⟩
      · have er : rfv (lns c n kd) p td tdn = (if ffJ (lns c n kd) p td tdn < tdn - 1 then nI (ffJ (lns c n kd) p td tdn + 1) else mI) := by
          unfold rfv
          rw [if_neg h0, if_neg gn, if_neg h1]
        have key := lp (m := tdn - 1) (Q := fun f i => (∀ j, j < i → okS (lns c n kd) p td j = true) → ∀ rw', okL rw' → rw'.2.2.2.2.2 = i → (∀ j, j < i → rw'.2.2.2.2.1 j = lnO (lns c n kd) (td j) (td (j + 1))) → wp_X4_faultIn_L71 fu P (fun (s_158 : FX) => (okL s_158.2.2.2.1 ∧ (P (-1) s_158))) f (nI (i + 1)) (nI (ps (lns c n kd) p td i)) (u.1, u.2.1, u.2.2.1, rw', u.2.2.2.2)) (by
          intro f i hi ih hall rw' b1 b2 b3
          rw [wp_X4_faultIn_L71]
          unfold wp_X4_faultIn_B71
          refine ⟨b1, o2, ?_⟩
          show (nI u.2.2.1.2.2.2.2.2 ≤ nI (i + 1) → _) ∧ (¬ nI u.2.2.1.2.2.2.2.2 ≤ nI (i + 1) → _)
          rw [t1, nI_leI (by omega) (by omega)]
          have hps := ps_lt hL hp hall
          rcases Nat.lt_or_eq_of_le hi with d | d
          · have ih := ih d
            have u1 := htd i (by omega)
            have u2 := htd (i + 1) (by omega)
            have ep : nI (i + 1) - 1 = nI i := nI_pred i
            refine ⟨fun q => by omega, fun _ => ?_⟩
            rw [ep]
            show okL u.2.2.1 ∧ vp_in (nI i) tdn ∧ okL u.2.2.1 ∧ vp_in (nI (i + 1)) tdn ∧ wp_X4_jumpOf fu u.1 (nI (ps (lns c n kd) p td i)) (nI (u.2.2.1.2.2.2.2.1 (nI i).toNatClampNeg)) (nI (u.2.2.1.2.2.2.2.1 (nI (i + 1)).toNatClampNeg)) _
            rw [nI_clamp (by omega), nI_clamp (by omega), t2 i (by omega), t2 (i + 1) (by omega)]
            refine ⟨o2, (z_in (by omega)).mpr (by omega), o2, (z_in (by omega)).mpr (by omega), ?_⟩
            refine r_jumpOf rl hL hfu (by omega) (by omega) (by omega) ?_
            cases hok : okS (lns c n kd) p td i
            · have hno : ¬ (lnO (lns c n kd) (td i) (td (i + 1)) < (lns c n kd).length ∧ can (lns c n kd) (ps (lns c n kd) p td i) (lnO (lns c n kd) (td i) (td (i + 1))) = true) := fun g => by rw [okS_iff.mpr g] at hok; cases hok
              rw [if_neg hno]
              refine ⟨fun q => absurd rfl q, fun _ => ?_⟩
              have ej : ffJ (lns c n kd) p td tdn = i := first_eq (fun j hj => by rw [hall j hj]; rfl) (Or.inr ⟨d, by rw [hok]; rfl⟩)
              rw [ej, if_pos d] at er
              have := hP rw' b1 (fun g => by rw [er] at g; exact absurd g fun q => (z_em (a := i + 1) (by omega)).mp q)
              rw [er] at this
              exact this
            · have hyes := okS_iff.mp hok
              rw [if_pos hyes]
              have hall' : ∀ j, j < i + 1 → okS (lns c n kd) p td j = true := fun j hj => by
                rcases Nat.lt_or_eq_of_le (Nat.lt_succ_iff.mp hj) with a | a
                · exact hall j a
                · rw [a]; exact hok
              refine ⟨fun _ => ⟨(z_in (by omega)).mpr (by omega), b1, by show rw'.2.2.2.2.2 < 12; omega, fun w1 c1 c2 c3 => ?_⟩, fun q => absurd q fun q => (z_em (a := lnO (lns c n kd) (td i) (td (i + 1))) (by omega)).mp q⟩
              have c2 : w1.2.2.2.2.2 = rw'.2.2.2.2.2 + 1 := c2
              have c3 : w1.2.2.2.2.1 = upN rw'.2.2.2.2.1 rw'.2.2.2.2.2 (nI (lnO (lns c n kd) (td i) (td (i + 1)))).toNatClampNeg := c3
              rw [nI_clamp (by omega), b2] at c3
              refine (r_behind rl hL hyes.1).mpr ?_
              have := ih hall' w1 c1 (by omega) (fun j hj => by
                rw [c3]
                unfold upN
                by_cases ej : j = i
                · rw [if_pos ej, ej]
                · rw [if_neg ej]; exact b3 j (by omega))
              rw [nI_succ (i + 1)] at this
              exact this
          · refine ⟨fun _ => ⟨b1, ?_⟩, fun q => by omega⟩
            have ej : ffJ (lns c n kd) p td tdn = tdn - 1 := first_eq (fun j hj => by rw [hall j (by omega)]; rfl) (Or.inl rfl)
            rw [ej, if_neg (Nat.lt_irrefl _)] at er
            have := hP rw' b1 (fun _ => ⟨by omega, fun j hj => b3 j (by omega)⟩)
            rw [er] at this
            exact this) fu 0 (Nat.zero_le _) (by omega)
        exact key (fun j hj => absurd hj (Nat.not_lt_zero j)) w4 k1 k2 (fun j hj => absurd hj (Nat.not_lt_zero j))
      · have er : rfv (lns c n kd) p td tdn = nI 1 := by
          unfold rfv
          rw [if_neg h0, if_neg gn, if_pos h1]
        have hP := hP w4 k1 (fun g => by rw [er] at g; exact absurd g (by decide))
        rw [er] at hP
        exact hP
    · have g : p.testBit (td 0) = false := (zb_0 _).mp g
      have er : rfv (lns c n kd) p td tdn = nI 0 := by
        unfold rfv
        rw [if_neg h0, if_pos g]
      have hP := hP w4 k1 (fun g => by rw [er] at g; exact absurd g (by decide))
      rw [er] at hP
      exact hP
theorem c_38 (hfu : 20000 ≤ fu) (hI : Inv σ u) (hK : ∀ σ' f' u', Inv σ' u' → K σ' f' u') : wp_case38 fu σ f u K := by
  obtain ⟨n, kd, p, e, mdn, tdn, c, md, td, w, hA, hH, hR⟩ := hI
  have fin2 : ∀ v f' rw', okL rw' → K σ f' (sI u.1 5 v, u.2.1, u.2.2.1, rw', u.2.2.2.2) := fun v f' rw' ho => hK _ _ _ ⟨n, kd, p, e, mdn, tdn, c, md, td, w, hA, hH, by
    obtain ⟨rb, rl, r2, r3, o1, m1, m2, o2, t1, t2, o3⟩ := hR
    exact ⟨rb, rl, r2, r3, o1, m1, m2, o2, t1, t2, ho⟩⟩
  unfold wp_case38 wp_L_faultAt wp_X3_faultAt
  refine w_rowFault hA hH hfu ⟨fun g => ?_, fun g => ⟨rfl, ?_⟩⟩
  · unfold wp_X4_faultAt wp_X4_faultAt_J16
    refine r_faultIn hA hR hfu fun rw' ho _ => ⟨fun _ => r_ok.mpr ⟨fun _ => finI rfl rfl (fin2 _ _ _ ho), fun q => absurd rfl q⟩, fun q => absurd q g⟩
  · unfold wp_X4_faultAt wp_X4_faultAt_J16
    refine r_faultIn hA hR hfu fun rw' ho _ => ⟨fun q => absurd g q, fun _ => r_no1.mpr ⟨fun q => absurd q (by decide), fun _ => finX rfl (by decide) (fin2 _ _ _ ho)⟩⟩
/-- what was made, i jumps of the row on -/
def mdS (L : Ln) (md td : Nat → Nat) (mdn : Nat) : Nat → Nat → Nat
  | 0 => md
  | i + 1 => upN (mdS L md td mdn i) (mdn + i) (lnO L (td i) (td (i + 1)))
theorem Ab_row {n kd p e mdn tdn : Nat} {c md td : Nat → Nat} (hA : Ab n kd p e mdn tdn c md td) : ∀ {i : Nat}, (∀ j, j < i → okS (lns c n kd) p td j = true) → Ab n kd (ps (lns c n kd) p td i) e (mdn + i) tdn c (mdS (lns c n kd) md td mdn i) td
  | 0, _ => hA
  | i + 1, h => by
    have ih := Ab_row hA (i := i) fun j hj => h j (by omega)
    have hy := okS_iff.mp (h i (by omega))
    exact (makes_inv (w := fun _ => 0) ih hy.1 hy.2).2
theorem c_37 (hfu : 20000 ≤ fu) (hI : Inv σ u) (hK : ∀ σ' f' u', Inv σ' u' → K σ' f' u') : wp_case37 fu σ f u K := by
  obtain ⟨n, kd, p, e, mdn, tdn, c, md, td, w, hA, hH, hR⟩ := hI
  have hL := lns_ok hA.1 hA.2.1
  have h8 := pow_13 hA.1.1
  have hn := hA.1.1
  have hm := hL.2.1
  have hp := hA.2.2.1
  have ht12 := hA.2.2.2.2.1
  have htd := hA.2.2.2.2.2.1
  unfold wp_case37 wp_L_play wp_X3_play
  refine w_rowFault hA hH hfu ⟨fun g => ?_, fun g => ⟨rfl, ?_⟩⟩
  · obtain ⟨h2, hall⟩ := rfv_mI g ht12
    obtain ⟨m, rfl⟩ : ∃ m, tdn = m + 1 := ⟨tdn - 1, by omega⟩
    rw [Nat.add_sub_cancel] at hall
    have fin2 : ∀ s f' (v : FX) w1, Hs s n kd (ps (lns c n kd) p td m) e (mdn + m) (m + 1) c (mdS (lns c n kd) md td mdn m) td w → Rs v n kd (ps (lns c n kd) p td m) e (mdn + m) (m + 1) c (mdS (lns c n kd) md td mdn m) td w → okL w1 → w1.2.2.2.2.2 = 0 → K (sI (sA s 9 (s.2.1 9)) 18 0) f' (v.1, v.2.1, w1, v.2.2.2.1, v.2.2.2.2) := fun s f' v w1 hs hv b1 b2 => hK _ _ _ ⟨n, kd, ps (lns c n kd) p td m, e, mdn + m, 0, c, mdS (lns c n kd) md td mdn m, td, w, by
      obtain ⟨q1, q2, q3, q4, q5, q6, q7⟩ := Ab_row hA hall
      exact ⟨q1, q2, q3, q4, by omega, fun i hi => absurd hi (Nat.not_lt_zero i), q7⟩, by
      obtain ⟨g1, g2, g3, g4, g5, g6, g7, g8⟩ := hs
      exact ⟨g1, g2, g3, g4, g5, g6, rfl, fun i hi => absurd hi (Nat.not_lt_zero i)⟩, by
      obtain ⟨rb, rl, r2, r3, o1, m1, m2, o2, t1, t2, o3⟩ := hv
      exact ⟨rb, rl, r2, r3, o1, m1, m2, b1, b2, fun i hi => absurd hi (Nat.not_lt_zero i), o3⟩⟩
    have cls := fun (KK : SX → Prop) (hKK : ∀ s, Hs s n kd (ps (lns c n kd) p td m) e (mdn + m) (m + 1) c (mdS (lns c n kd) md td mdn m) td w → KK s) => lp (m := m) (Q := fun f i => ∀ s, Hs s n kd (ps (lns c n kd) p td i) e (mdn + i) (m + 1) c (mdS (lns c n kd) md td mdn i) td w → wp_X3_play_L30 fu (nI (m + 1)) KK f (nI (i + 1)) s) (by
      intro f i hi ih s hs
      rw [wp_X3_play_L30]
      unfold wp_X3_play_B30
      have ep : ∀ k, nI (k + 1) - 1 = nI k := fun k => nI_pred k
      rw [ep, ep, nI_ltI (by omega) (by omega)]
      rcases Nat.lt_or_eq_of_le hi with d | d
      · have ih := ih d
        have hy := okS_iff.mp (hall i d)
        have hAi := Ab_row hA (i := i) fun j hj => hall j (by omega)
        have u1 := htd i (by omega)
        have u2 := htd (i + 1) (by omega)
        have hps := hAi.2.2.1
        refine ⟨fun q => by omega, fun _ => ?_⟩
        have h18 := hs.2.2.2.2.2.2.1
        have h9 := hs.2.2.2.2.2.2.2
        rw [h18]
        refine (w_at (by omega) (by omega) (by decide)).mpr ?_
        refine (w_at (by omega) (by omega) (by decide)).mpr ?_
        rw [h9 i (by omega), h9 (i + 1) (by omega), hs.2.2.1]
        refine w_behindJump hs.1.2.1 hL hfu (by omega) (by omega) (by omega) ?_
        have eb : bj (lns c n kd) (ps (lns c n kd) p td i) (td i) (td (i + 1)) = nI (nx (lns c n kd) (ps (lns c n kd) p td i) (lnO (lns c n kd) (td i) (td (i + 1)))) := if_pos hy
        obtain ⟨e1, e2⟩ := lnO_is hy.1
        have := w_makeJump (w := w) hAi hs hy.1 hy.2 (P := fun s71 => wp_X3_play_L30 fu (nI (m + 1)) KK f (nI (i + 1) + 1) s71) (fun s' hs' _ => by
          rw [← nI_succ]
          exact ih s' hs')
        rw [e1, e2] at this
        rw [eb]
        exact this
      · refine ⟨fun _ => ?_, fun q => by omega⟩
        rw [d] at hs
        exact hKK s hs) fu 0 (Nat.zero_le _) (by omega)
    unfold wp_X1_size
    rw [hH.2.2.2.2.2.2.1]
    refine cls _ (fun s hs => ?_) σ hH
    unfold wp_X1_empty wp_X4_play wp_X4_play_J14
    refine r_faultIn hA hR hfu fun rw' ho hrow => ⟨fun q => absurd g q, fun _ => r_ok.mpr ⟨fun _ => ⟨ho, ?_⟩, fun q => absurd rfl q⟩⟩
    obtain ⟨n1, n2⟩ := hrow g
    rw [Nat.add_sub_cancel] at n1 n2
    have rf := fun (KK : FX → Nat → Int32 → Int32 → Prop) (hKK : ∀ v lr mc, Rs v n kd (ps (lns c n kd) p td m) e (mdn + m) (m + 1) c (mdS (lns c n kd) md td mdn m) td w → v.2.2.2.1 = rw' → v.1.1 5 = nI 0 → KK v m lr mc) => lp (m := m) (Q := fun f i => ∀ v lr, Rs v n kd (ps (lns c n kd) p td i) e (mdn + i) (m + 1) c (mdS (lns c n kd) md td mdn i) td w → v.2.2.2.1 = rw' → v.1.1 5 = nI 0 → wp_X4_play_L32 KK f v i lr rw'.2.2.2.1) (by
      intro f i hi ih v lr hv hr h5
      rw [wp_X4_play_L32]
      unfold wp_X4_play_B32 isH
      rw [hr, n1]
      refine ⟨hv.2.2.2.2.1, ho, hi, ?_⟩
      rcases Nat.lt_or_eq_of_le hi with d | d
      · have ih := ih d
        have hy := okS_iff.mp (hall i d)
        have hAi := Ab_row hA (i := i) fun j hj => hall j (by omega)
        rw [if_pos d]
        refine ⟨fun q => absurd q (by decide), fun _ => ⟨ho, d, rfl, ?_⟩⟩
        rw [n2 i d]
        refine r_makes (w := w) hAi hv hy.1 hy.2 fun v' b1 b2 b3 => ⟨?_, b1.2.2.2.2.1, ?_⟩
        · rw [b1.2.2.2.2.2.1, hv.2.2.2.2.2.1]
        · exact ih v' _ b1 (by rw [b2]; exact hr) (b3.trans h5)
      · rw [if_neg (by omega)]
        refine ⟨fun _ => ?_, fun q => absurd rfl q⟩
        rw [d] at hv
        rw [d]
        exact hKK v lr _ hv hr h5) fu 0 (Nat.zero_le _) (by omega)
    refine rf _ (fun v lr mc hv hr h5 => ?_) (sI u.1 5 0, u.2.1, u.2.2.1, rw', u.2.2.2.2) (-1) (by
      obtain ⟨rb, rl, r2, r3, o1, m1, m2, o2, t1, t2, o3⟩ := hR
      exact ⟨rb, rl, r2, r3, o1, m1, m2, o2, t1, t2, ho⟩) rfl rfl
    refine ⟨hv.2.2.2.2.1, hv.2.2.2.2.2.2.2.1, fun w1 b1 b2 => ⟨hv.2.2.2.2.2.2.2.2.2.2, ?_⟩⟩
    rw [hr, n1]
    have := fin2 s (vp_updL f 0 (Int32.toInt64 (nI (m + 1) - 1))) v w1 hs hv b1 b2
    rw [hr] at this
    exact finI h5 (nI_pred m) this
  · unfold wp_X4_play wp_X4_play_J14
    refine r_faultIn hA hR hfu fun rw' ho _ => ⟨fun _ => r_no1.mpr ⟨fun q => absurd q (by decide), fun _ => ?_⟩, fun q => absurd q g⟩
    refine finX rfl (by decide) (hK _ _ _ ⟨n, kd, p, e, mdn, tdn, c, md, td, w, hA, hH, ?_⟩)
    obtain ⟨rb, rl, r2, r3, o1, m1, m2, o2, t1, t2, o3⟩ := hR
    exact ⟨rb, rl, r2, r3, o1, m1, m2, o2, t1, t2, ho⟩
end CALLS7
