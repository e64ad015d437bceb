/-! ===== bars, rows of holes ===== -/
section CALLS6
variable {σ : SX} {u : FX} {fu : Nat} {a1 a2 : Int32} {f : Nat → Int64} {K : SX → (Nat → Int64) → FX → Prop}
/-- the pegs of the other colours are those of the two others -/
theorem ctO_eq (c : Nat → Nat) (p t : Nat) : ∀ n, ctO c n p 0 t = ctC c n p 1 t + ctC c n p 2 t ∧ ctO c n p 1 t = ctC c n p 0 t + ctC c n p 2 t ∧ ctO c n p 2 t = ctC c n p 0 t + ctC c n p 1 t
  | 0 => ⟨rfl, rfl, rfl⟩
  | n + 1 => by
    have ih := ctO_eq c p t n
    have hc := col_lt (c n) t
    unfold ctO ctC at ih ⊢
    simp only [fb_ct_succ]
    generalize col (c n) t = x at hc
    rcases (show x = 0 ∨ x = 1 ∨ x = 2 by omega) with e | e | e <;> subst e <;> cases p.testBit n <;> simp <;> omega
def dif (c : Nat → Nat) (n p e t x : Nat) : Bool := decide (¬ ctO c n p x t % 2 = ctO c n e x t % 2)
theorem z_par (a b : Nat) : (nI a + nI b) &&& 1 = nI ((a + b) % 2) := by
  rw [nI_add]; exact z_and1 (a + b)
theorem w_isOddApart {n kd p e t : Nat} {c : Nat → Nat} (hC : Cok n c) (hB : Bb σ n c kd) (hfu : 20000 ≤ fu) (h15 : σ.1 15 = nI p) (h16 : σ.1 16 = nI e) (hp : p < 2 ^ 31) (he : e < 2 ^ 31) (ht : t < 2) {P : Int32 → Prop} (hP : P (zb (orB (dif c n p e t) 3))) : wp_X3_isOddApart fu σ (nI t) P := by
  obtain ⟨f, rfl⟩ : ∃ f, fu = f + 4 := ⟨fu - 4, by omega⟩
  obtain ⟨p0, p1, p2⟩ := ctO_eq c p t n
  obtain ⟨q0, q1, q2⟩ := ctO_eq c e t n
  have yes : orB (dif c n p e t) 3 = true → P 1 := fun h => by rw [h] at hP; exact hP
  have no : orB (dif c n p e t) 3 = false → P 0 := fun h => by rw [h] at hP; exact hP
  have pair := fun (i j : Nat) (hi : i < 3) (hj : j < 3) (A : Prop) (hA : (ctC c n p i t + ctC c n p j t) % 2 = (ctC c n e i t + ctC c n e j t) % 2 → A) (hN : ¬ (ctC c n p i t + ctC c n p j t) % 2 = (ctC c n e i t + ctC c n e j t) % 2 → P 1) =>
    (show (wp_X0_countColour (f + 4) σ (σ.1 15) (nI i) (nI t) (fun r26 => (wp_X0_countColour (f + 4) σ (σ.1 15) (nI j) (nI t) (fun r39 => (wp_X0_countColour (f + 4) σ (σ.1 16) (nI i) (nI t) (fun r55 => (wp_X0_countColour (f + 4) σ (σ.1 16) (nI j) (nI t) (fun r68 => ((((r26 + r39) &&& 1) = ((r55 + r68) &&& 1) → A) ∧ (¬ ((r26 + r39) &&& 1) = ((r55 + r68) &&& 1) → (P 1))))))))))) from by
      rw [h15, h16]
      refine w_countColour hC hB hfu hp hi ht ?_
      refine w_countColour hC hB hfu hp hj ht ?_
      refine w_countColour hC hB hfu he hi ht ?_
      refine w_countColour hC hB hfu he hj ht ?_
      rw [z_par, z_par, nI_eq (by omega) (by omega)]
      exact ⟨hA, hN⟩)
  have some : ∀ x, x < 3 → ¬ ctO c n p x t % 2 = ctO c n e x t % 2 → P 1 := fun x hx h => yes ((orB_iff _ _).mpr ⟨x, hx, decide_eq_true h⟩)
  unfold wp_X3_isOddApart
  rw [wp_X3_isOddApart_L2]
  unfold wp_X3_isOddApart_B2
  refine ⟨fun g => absurd g (by decide), fun _ => ?_⟩
  rw [wp_X3_isOddApart_L11]
  unfold wp_X3_isOddApart_B11
  refine ⟨fun g => absurd g (by decide), fun _ => pair 0 1 (by decide) (by decide) _ (fun h01 => ?_) (fun h => some 2 (by decide) (by rw [p2, q2]; exact h))⟩
  rw [wp_X3_isOddApart_L11]
  unfold wp_X3_isOddApart_B11
  refine ⟨fun g => absurd g (by decide), fun _ => pair 0 2 (by decide) (by decide) _ (fun h02 => ?_) (fun h => some 1 (by decide) (by rw [p1, q1]; exact h))⟩
  rw [wp_X3_isOddApart_L11]
  unfold wp_X3_isOddApart_B11
  refine ⟨fun _ => ?_, fun g => absurd (by decide) g⟩
  rw [wp_X3_isOddApart_L2]
  unfold wp_X3_isOddApart_B2
  refine ⟨fun g => absurd g (by decide), fun _ => ?_⟩
  rw [wp_X3_isOddApart_L11]
  unfold wp_X3_isOddApart_B11
  refine ⟨fun g => absurd g (by decide), fun _ => pair 1 2 (by decide) (by decide) _ (fun h12 => ?_) (fun h => some 0 (by decide) (by rw [p0, q0]; exact h))⟩
  rw [wp_X3_isOddApart_L11]
  unfold wp_X3_isOddApart_B11
  refine ⟨fun _ => ?_, fun g => absurd (by decide) g⟩
  rw [wp_X3_isOddApart_L2]
  unfold wp_X3_isOddApart_B2
  refine ⟨fun g => absurd g (by decide), fun _ => ?_⟩
  rw [wp_X3_isOddApart_L11]
  unfold wp_X3_isOddApart_B11
  refine ⟨fun _ => ?_, fun g => absurd (by decide) g⟩
  rw [wp_X3_isOddApart_L2]
  unfold wp_X3_isOddApart_B2
  refine ⟨fun _ => no ?_, fun g => absurd (by decide) g⟩
  cases h : orB (dif c n p e t) 3
  · rfl
  · obtain ⟨x, hx, hd⟩ := (orB_iff _ _).mp h
    have hd := of_decide_eq_true hd
    rcases (show x = 0 ∨ x = 1 ∨ x = 2 by omega) with e2 | e2 | e2 <;> subst e2
    · rw [p0, q0] at hd; exact absurd h12 hd
    · rw [p1, q1] at hd; exact absurd h02 hd
    · rw [p2, q2] at hd; exact absurd h01 hd
def brB (c : Nat → Nat) (n kd p e t : Nat) : Bool := alB (fit1 (lns c n kd) c t) (lns c n kd).length && orB (dif c n p e t) 3
theorem c_31 (hfu : 20000 ≤ fu) (hI : Inv σ u) (hK : ∀ σ' f' u', Inv σ' u' → K σ' f' u') : wp_case31 fu a1 σ f u K := by
  obtain ⟨n, kd, p, e, mdn, tdn, c, md, td, w, hA, hH, hR⟩ := hI
  have hC := hA.1
  have hk := hA.2.1
  have hL := lns_ok hA.1 hA.2.1
  have h8 := pow_13 hA.1.1
  have hn := hC.1
  have hp := hA.2.2.1
  have he := hA.2.2.2.1
  have fin2 : ∀ v f', K σ f' (sI u.1 5 v, u.2) := fun v f' => hK _ _ _ ⟨n, kd, p, e, mdn, tdn, c, md, td, w, hA, hH, hR.code _⟩
  have n10 : ¬ (1 : Int32) = 0 := by decide
  have hRb : Rb (sI u.1 5 0) n c kd w := hR.1
  have hRi : Rin (sI u.1 5 0) (lns c n kd) := hR.2.1
  -- by colours
  have cls : ∀ P : Int32 → Prop, P (zb (orB (brB c n kd p e) 2)) → wp_X3_isBarred fu σ 0 P := fun P hP => by
    unfold wp_X3_isBarred
    refine ⟨fun _ => ?_, fun g => absurd rfl g⟩
    have key := lp (m := 2) (Q := fun f i => (∀ j, j < i → brB c n kd p e j = false) → wp_X3_isBarred_L48 fu σ P (P 0) f (nI i)) (by
      intro f i hi ih hno
      rw [wp_X3_isBarred_L48]
      unfold wp_X3_isBarred_B48 wp_X3_isBarred_J74
      have e2 : ((2 : Int32) ≤ nI i) ↔ 2 ≤ i := nI_leI (a := 2) (by decide) (by omega)
      rw [e2]
      rcases Nat.lt_or_eq_of_le hi with d | d
      · have ih := ih d
        rw [nI_succ] at ih
        have next : brB c n kd p e i = false → wp_X3_isBarred_L48 fu σ P (P 0) f (nI i + 1) := fun h => ih fun j hj => by
          rcases Nat.lt_or_eq_of_le (Nat.lt_succ_iff.mp hj) with a | a
          · exact hno j a
          · rw [a]; exact h
        refine ⟨fun q => by omega, fun _ => ?_⟩
        refine w_isFitColouring hC hk hH.1.1 hH.1.2.1 hfu d ?_
        unfold brB at next
        refine ⟨fun q => next (by rw [(zb_0 _).mp q]; rfl), fun q => ?_⟩
        have q := zb_ne q
        refine w_isOddApart hC hH.1.1 hfu hH.2.2.1 hH.2.2.2.1 (by omega) (by omega) d ?_
        refine ⟨fun q2 => next (by rw [(zb_0 _).mp q2, Bool.and_false]), fun q2 => ?_⟩
        have q2 := zb_ne q2
        have : orB (brB c n kd p e) 2 = true := (orB_iff _ _).mpr ⟨i, d, by unfold brB; rw [q, q2]; rfl⟩
        rw [this] at hP; exact hP
      · refine ⟨fun _ => ?_, fun q => by omega⟩
        rw [d] at hno
        have : orB (brB c n kd p e) 2 = false := by
          cases h : orB (brB c n kd p e) 2
          · rfl
          · obtain ⟨x, hx, hd⟩ := (orB_iff _ _).mp h
            rw [hno x hx] at hd; cases hd
        rw [this] at hP; exact hP) fu 0 (Nat.zero_le _) (by omega)
    exact key (fun j hj => absurd hj (Nat.not_lt_zero j))
  have rf : ∀ P : Int32 → SX → Prop, P (zb (orB (brB c n kd p e) 2)) (sI u.1 5 0) → wp_X4_isBarred fu u.1 0 P := fun P hP => by
    have inner := fun (t : Nat) (ht : t < 2) (b : Bool) (KK : Int32 → Prop) (hKK : KK (zb (b || brB c n kd p e t))) => lp (m := 3) (Q := fun f x => wp_X4_isBarred_L54 fu u.1 (nI t) KK f (nI x) (zb (b || (alB (fit1 (lns c n kd) c t) (lns c n kd).length && orB (dif c n p e t) x)))) (by
      intro f x hx ih
      rw [wp_X4_isBarred_L54]
      unfold wp_X4_isBarred_B54 wp_X4_isBarred_J102 wp_X4_isBarred_J103
      have e3 : ((3 : Int32) ≤ nI x) ↔ 3 ≤ x := nI_leI (a := 3) (by decide) (by omega)
      rw [e3]
      rcases Nat.lt_or_eq_of_le hx with d | d
      · have ih := ih d
        rw [nI_succ, orB_succ] at ih
        have step : ∀ b2 : Bool, (b || (alB (fit1 (lns c n kd) c t) (lns c n kd).length && (orB (dif c n p e t) x || dif c n p e t x))) = ((b || (alB (fit1 (lns c n kd) c t) (lns c n kd).length && orB (dif c n p e t) x)) || b2) → wp_X4_isBarred_L54 fu u.1 (nI t) KK f (nI x + 1) (zb (b || (alB (fit1 (lns c n kd) c t) (lns c n kd).length && orB (dif c n p e t) x)) ||| zb b2) := fun b2 h => by
          rw [zb_or, ← h]; exact ih
        refine ⟨fun q => by omega, fun _ => ?_⟩
        refine r_fits hC hk hRb hRi hfu ht ⟨fun q => ?_, fun q => ?_⟩
        · refine step false ?_
          rw [(zb_0 _).mp q]
          simp
        · have q := zb_ne q
          rw [hR.2.2.1, hR.2.2.2.1]
          refine r_others hC hRb hfu (by omega) d ht ?_
          refine r_others hC hRb hfu (by omega) d ht ?_
          have r2 : ∀ a, a < 2 ^ 31 → nI a - nI a / 2 * 2 = nI (a % 2) := fun a ha => pk_rem (d := 2) ha (by decide) (by decide)
          have o1 : ctO c n p x t ≤ n := fb_ct_le _ _
          have o2 : ctO c n e x t ≤ n := fb_ct_le _ _
          rw [r2 _ (by omega), r2 _ (by omega), nI_eq (by omega) (by omega)]
          refine ⟨fun h => step false ?_, fun h => step true ?_⟩
          · have : dif c n p e t x = false := decide_eq_false fun g => g h
            rw [this]; simp
          · have : dif c n p e t x = true := decide_eq_true h
            rw [this, q]; simp
      · refine ⟨fun _ => ?_, fun q => by omega⟩
        rw [d]; exact hKK) fu 0 (Nat.zero_le _) (by omega)
    unfold wp_X4_isBarred
    refine ⟨fun _ => ?_, fun g => absurd rfl g⟩
    have outer := fun (KK : Int32 → Prop) (hKK : KK (zb (orB (brB c n kd p e) 2))) => lp (m := 2) (Q := fun f t => wp_X4_isBarred_L46 fu u.1 KK f (nI t) (zb (orB (brB c n kd p e) t))) (by
      intro f t ht ih
      rw [wp_X4_isBarred_L46]
      unfold wp_X4_isBarred_B46
      have e2 : ((2 : Int32) ≤ nI t) ↔ 2 ≤ t := nI_leI (a := 2) (by decide) (by omega)
      rw [e2]
      rcases Nat.lt_or_eq_of_le ht with d | d
      · have ih := ih d
        rw [nI_succ, orB_succ] at ih
        refine ⟨fun q => by omega, fun _ => ?_⟩
        have := inner t d (orB (brB c n kd p e) t) _ ih
        have z : (orB (brB c n kd p e) t || (alB (fit1 (lns c n kd) c t) (lns c n kd).length && orB (dif c n p e t) 0)) = orB (brB c n kd p e) t := by
          show (orB (brB c n kd p e) t || (_ && false)) = _
          rw [Bool.and_false, Bool.or_false]
        rw [z] at this
        exact this
      · refine ⟨fun _ => ?_, fun q => by omega⟩
        rw [d]; exact hKK) fu 0 (Nat.zero_le _) (by omega)
    exact outer _ ⟨zb_nar _, hP⟩
  -- by weights
  have clw : ∀ P : Int32 → Prop, P (zb (decide (enc (wst (gn (lns c n kd) w) (lns c n kd).length) = -1) && decide (¬ wsum w e n ≤ wsum w p n))) → wp_X3_isBarred fu σ 1 P := fun P hP => by
    unfold wp_X3_isBarred
    refine ⟨fun g => absurd g n10, fun _ => ?_⟩
    refine w_faultLine hC hk hH.1 hfu ⟨fun g => ?_, fun g => ?_⟩
    · rw [decide_eq_false g, Bool.false_and] at hP; exact hP
    · rw [decide_eq_true g, Bool.true_and] at hP
      rw [hH.2.2.1, hH.2.2.2.1]
      refine w_weightOfPegs hC hH.1 hfu (by omega) ?_
      refine w_weightOfPegs hC hH.1 hfu (by omega) ⟨fun g2 => ?_, fun g2 => ?_⟩
      · rw [decide_eq_false (fun h => h g2)] at hP; exact hP
      · rw [decide_eq_true g2] at hP; exact hP
  have rfw : ∀ P : Int32 → SX → Prop, P (zb (decide (enc (wst (gn (lns c n kd) w) (lns c n kd).length) = -1) && decide (¬ wsum w e n ≤ wsum w p n))) (sI u.1 5 0) → wp_X4_isBarred fu u.1 1 P := fun P hP => by
    unfold wp_X4_isBarred
    refine ⟨fun g => absurd g n10, fun _ => ?_⟩
    refine r_worst hL hRb hRi hfu ⟨fun g => ?_, fun g => ?_⟩
    · rw [decide_eq_false g, Bool.false_and] at hP; exact hP
    · rw [decide_eq_true g, Bool.true_and] at hP
      rw [hR.2.2.1, hR.2.2.2.1]
      refine r_weightOf hC hRb hfu (by omega) ?_
      refine r_weightOf hC hRb hfu (by omega) ⟨fun g2 => ?_, fun g2 => ?_⟩
      · rw [decide_eq_false (fun h => h g2)] at hP; exact hP
      · rw [decide_eq_true g2] at hP; exact hP
  unfold wp_case31
  refine ⟨fun h => cls _ ⟨fun _ => rf _ (finE rfl (fin2 _ f)), fun g => absurd h g⟩, fun h => clw _ ⟨fun g => absurd g h, fun _ => rfw _ (finE rfl (fin2 _ f))⟩⟩
/-! ===== the share of pegs, as bits ===== -/
/-- the class's doublings: its exponent and mantissa -/
def frun : Nat → Int32 → UInt32 → Option (Int32 × UInt32)
  | 0, _, _ => none
  | k + 1, v2, v1 => if 0 ≤ (Op.cmpValue (FP.fcmp v1 FP.fconst1) CmpOp.g) then some (v2, v1) else if v2 ≤ 1 then some (v2, v1) else if (FP.fmul v1 FP.fconst2) &&& 0x7fffffff ≤ 0x7f800000 then frun k (v2 + (-1)) (FP.fmul v1 FP.fconst2) else none
theorem frun_wp {KK : Int32 → UInt32 → Prop} : ∀ (k f : Nat) (v2 : Int32) (v1 : UInt32) (q : Int32 × UInt32), k ≤ f → frun k v2 v1 = some q → KK q.1 q.2 → wp_X3_floatBits_L13 KK f v2 v1
  | 0, _, _, _, _, _, h, _ => by cases h
  | k + 1, 0, _, _, _, hf, _, _ => by omega
  | k + 1, f + 1, v2, v1, q, hf, h, hK => by
    rw [wp_X3_floatBits_L13]
    unfold wp_X3_floatBits_B13
    unfold frun at h
    refine ⟨fun c1 => ?_, fun c1 => ?_⟩
    · rw [if_pos c1] at h
      cases h; exact hK
    · rw [if_neg c1] at h
      refine ⟨fun c2 => ?_, fun c2 => ?_⟩
      · rw [if_pos c2] at h
        cases h; exact hK
      · rw [if_neg c2] at h
        by_cases c3 : (FP.fmul v1 FP.fconst2) &&& 0x7fffffff ≤ 0x7f800000
        · rw [if_pos c3] at h
          exact ⟨c3, frun_wp k f _ _ q (by omega) h hK⟩
        · rw [if_neg c3] at h; cases h
def fchk (b n : Nat) : Bool :=
  let x := FP.fdiv (FP.i2f (nI b)) (FP.i2f (nI n))
  decide (x &&& 0x7fffffff ≤ 0x7f800000) && decide ((Op.cmpValue (FP.fcmp x x) CmpOp.l) = 0) &&
  (if 0 < (Op.cmpValue (FP.fcmp x FP.fconst0) CmpOp.g) then
    match frun 10 127 x with
    | none => false
    | some q => decide ((FP.fsub q.2 FP.fconst1) &&& 0x7fffffff ≤ 0x7f800000) && decide ((FP.fmul (FP.fsub q.2 FP.fconst1) 1258291200) &&& 0x7fffffff ≤ 0x7f800000) && decide (((q.1 <<< ((23 : Int32) &&& 31)) ||| (FP.f2i (FP.fmul (FP.fsub q.2 FP.fconst1) 1258291200))) = x.toInt32)
  else decide (x.toInt32 = 0))
theorem fchk_ok : ∀ n, n < 14 → 0 < n → ∀ b, b < n + 1 → fchk b n = true := by decide +kernel
theorem r_pegBits {t : SX} {n p : Nat} (h0 : t.1 0 = nI n) (h2 : t.1 2 = nI p) (hn : n ≤ 13) (hp : p < 2 ^ n) {P : Int32 → SX → Prop} (hX : n = 0 → P 0 (sI t 5 1)) (hP : 0 < n → P (FP.fdiv (FP.i2f (nI (pc p))) (FP.i2f (nI n))).toInt32 (sI t 5 0)) : wp_X4_pegBits t P := by
  have h8 := pow_13 hn
  have hpc := pc_le hp (by omega)
  have z : nI n = 0 ↔ n = 0 := nI_eq (b := 0) (by omega) (by decide)
  unfold wp_X4_pegBits wp_X4_pegBits_J13
  rw [h0, z]
  refine ⟨fun g => r_ok.mpr ⟨fun _ => ?_, fun q => absurd rfl q⟩, fun g => r_no1.mpr ⟨fun q => absurd q (by decide), fun _ => hX g⟩⟩
  have s2 : (sI t 5 0).1 2 = nI p := h2
  have s0 : (sI t 5 0).1 0 = nI n := h0
  have h00 : 0 < n := Nat.pos_of_ne_zero g
  have hchk := fchk_ok n (by omega) h00 (pc p) (by omega)
  unfold fchk at hchk
  simp only [Bool.and_eq_true, decide_eq_true_eq] at hchk
  obtain ⟨⟨k1, k2⟩, -⟩ := hchk
  rw [s2, s0]
  refine (bc_pc (by omega) _).mpr ⟨k1, ?_⟩
  unfold wp_Jxf58ca_floatToIntBits_5c35a wp_Jxf58ca_isNaN_12338
  exact ⟨fun _ => ⟨fun q => absurd rfl q, fun _ => hP h00⟩, fun q => absurd k2 q⟩
theorem c_41 (hfu : 20000 ≤ fu) (hI : Inv σ u) (hK : ∀ σ' f' u', Inv σ' u' → K σ' f' u') : wp_case41 fu σ f u K := by
  obtain ⟨n, kd, p, e, mdn, tdn, c, md, td, w, hA, hH, hR⟩ := hI
  have hn := hA.1.1
  have h8 := pow_13 hn
  have hp := hA.2.2.1
  have hpc := pc_le hp (by omega)
  have fin2 : ∀ v f', K σ f' (sI u.1 5 v, u.2) := fun v f' => hK _ _ _ ⟨n, kd, p, e, mdn, tdn, c, md, td, w, hA, hH, hR.code _⟩
  unfold wp_case41 wp_L_pegBits wp_X3_pegBits wp_X0_holes wp_X1_size
  rw [hH.1.1.2.2.1, hH.2.2.1]
  have z : nI n = 0 ↔ n = 0 := nI_eq (b := 0) (by omega) (by decide)
  refine ⟨fun g => ?_, fun g => ⟨rfl, ?_⟩⟩
  · have h0 : 0 < n := Nat.pos_of_ne_zero fun q => g (z.mpr q)
    have hchk := fchk_ok n (by omega) h0 (pc p) (by omega)
    unfold fchk at hchk
    simp only [Bool.and_eq_true, decide_eq_true_eq] at hchk
    obtain ⟨⟨k1, k2⟩, k3⟩ := hchk
    refine (bc_pc (by omega) _).mpr ⟨k1, ?_⟩
    unfold wp_X3_floatBits
    refine ⟨fun c1 => ?_, fun c1 => ?_⟩
    · rw [if_pos c1] at k3
      cases hrun : frun 10 127 (FP.fdiv (FP.i2f (nI (pc p))) (FP.i2f (nI n))) with
      | none => rw [hrun] at k3; cases k3
      | some q =>
        rw [hrun] at k3
        simp only [Bool.and_eq_true, decide_eq_true_eq] at k3
        obtain ⟨⟨j1, j2⟩, j3⟩ := k3
        refine frun_wp 10 fu _ _ q (by omega) hrun ⟨j1, j2, ?_⟩
        exact r_pegBits hR.1.1 hR.2.2.1 hn hp (fun q => by omega) (fun _ => finI rfl j3 (fin2 _ _))
    · rw [if_neg c1] at k3
      exact r_pegBits hR.1.1 hR.2.2.1 hn hp (fun q => by omega) (fun _ => finI rfl (of_decide_eq_true k3).symm (fin2 _ _))
  · have h0 := z.mp g
    exact r_pegBits hR.1.1 hR.2.2.1 hn hp (fun _ => finX rfl (by decide) (fin2 _ _)) (fun q => by omega)
end CALLS6
