/-! ===== boards: kinds, drills, fills; the highest row; bars ===== -/
section CALLS5
variable {σ : SX} {u : FX} {fu : Nat} {a1 a2 : Int32} {f : Nat → Int64} {K : SX → (Nat → Int64) → FX → Prop}
theorem r_no3 {t : SX} {P : Int32 → SX → Prop} : wp_X4_fails t 3 P ↔ P 1 (sI t 5 3) := r_failsN (t := 3) (by decide) (by decide)
theorem w_forgetAll {n kd p e : Nat} {c md td : Nat → Nat} {w : Nat → Int32} (hB : Brd σ n c kd w) (hz : ∃ sz f, Wsz σ sz f) (h15 : σ.1 15 = nI p) (h16 : σ.1 16 = nI e) {P : SX → Prop} (hP : ∀ s, Hs s n kd p e 0 0 c md td w → P s) : wp_X3_forgetAll σ P := by
  unfold wp_X3_forgetAll wp_X1_empty wp_X2_forget
  obtain ⟨sz, g, hz⟩ := hz
  exact hP _ ⟨hB, ⟨sz, g, hz, Or.inl rfl⟩, h15, h16, rfl, fun i hi => absurd hi (Nat.not_lt_zero i), rfl, fun i hi => absurd hi (Nat.not_lt_zero i)⟩
theorem Wk.sz {n : Nat} {L : Ln} (h : Wk σ n L) : ∃ sz f, Wsz σ sz f := by
  obtain ⟨sz, g, h1, -⟩ := h
  exact ⟨sz, g, h1⟩
theorem c_0 (hfu : 20000 ≤ fu) (hI : Inv σ u) (hK : ∀ σ' f' u', Inv σ' u' → K σ' f' u') : wp_case0 fu a1 σ f u K := by
  obtain ⟨n, kd, p, e, mdn, tdn, c, md, td, w, hA, hH, hR⟩ := hI
  have fin2 : ∀ v f', K σ f' (sI u.1 5 v, u.2) := fun v f' => hK _ _ _ ⟨n, kd, p, e, mdn, tdn, c, md, td, w, hA, hH, hR.code _⟩
  have hz := hH.2.1.sz
  unfold wp_case0 wp_L_setKind
  rw [pk_char a1]
  have hq : a1.toBitVec.toNat % 65536 < 65536 := Nat.mod_lt _ (by decide)
  generalize a1.toBitVec.toNat % 65536 = q at hq
  have good : ∀ k, k < 3 → q = kch k → ∀ P : Int32 → SX → Prop, (∀ s, Hs s n k p e 0 0 c md td w → P (nI (kch kd)) s) → wp_X3_setKind_J28 fu σ (nI q) P := fun k hk eq P hP => by
    unfold wp_X3_setKind_J28
    rw [eq]
    refine w_changeKind hA.1 hk hH.1 hfu fun s hs => ?_
    refine w_forgetAll (c := c) (md := md) (td := td) (kd := k) (p := p) (e := e) (w := w) (by exact hs) (by exact hz) (by exact hH.2.2.1) (by exact hH.2.2.2.1) fun s2 hs2 => ?_
    rw [hH.1.1.1]
    exact ⟨(kch_char kd).1, hP s2 hs2⟩
  have fin : ∀ k, k < 3 → q = kch k → ∀ s f', Hs s n k p e 0 0 c md td w → f' = vp_updL f 0 (Int32.toInt64 (nI (kch kd))) → wp_X4_setKind fu u (nI q) (fun r250 s250 => (wp_X4_thrown s250.1 (fun r256 => ((r256 = 0 → ((¬ (0 : Int32) = 0 → (K s f' s250)) ∧ ((0 : Int32) = 0 → (((lg_cmp (f' (0 : Int32).toNatClampNeg) r250.toInt64) = 0 → (K s f' s250)) ∧ (¬ (lg_cmp (f' (0 : Int32).toNatClampNeg) r250.toInt64) = 0 → False))))) ∧ (¬ r256 = 0 → False))))) := fun k hk eq s f' hs hf => by
    obtain ⟨rb, rl, r2, r3, o1, m1, m2, o2, t1, t2, o3⟩ := hR
    obtain ⟨q1, q2, q3, q4, q5, q6, q7⟩ := hA
    refine r_setKind q1 q2 rb o1 o2 hfu hq (fun h => absurd eq (h k hk)) (fun k' hk' eq' v w1 w2 b1 b2 b3 b4 b5 b6 b7 b8 b9 => ?_)
    have ek : k' = k := by
      have : ∀ a, a < 3 → ∀ b, b < 3 → kch a = kch b → a = b := by decide
      exact this k' hk' k hk (by rw [← eq', ← eq])
    subst ek
    rw [hf]
    exact finI b5 rfl (hK _ _ _ ⟨n, k', p, e, 0, 0, c, md, td, w, ⟨q1, hk, q3, q4, by omega, fun i hi => absurd hi (Nat.not_lt_zero i), trivial⟩, hs, ⟨b1, b2, b3.trans r2, b4.trans r3, b6, b7, fun i hi => absurd hi (Nat.not_lt_zero i), b8, b9, fun i hi => absurd hi (Nat.not_lt_zero i), o3⟩⟩)
  unfold wp_X3_setKind
  have e115 : nI q = 115 ↔ q = 115 := nI_eq (b := 115) (by omega) (by decide)
  have e116 : nI q = 116 ↔ q = 116 := nI_eq (b := 116) (by omega) (by decide)
  have e100 : nI q = 100 ↔ q = 100 := nI_eq (b := 100) (by omega) (by decide)
  rw [e115, e116, e100]
  refine ⟨fun h => good 0 (by decide) h _ fun s hs => fin 0 (by decide) h s _ hs rfl, fun h0 => ⟨fun h => good 1 (by decide) h _ fun s hs => fin 1 (by decide) h s _ hs rfl, fun h1 => ⟨fun h => good 2 (by decide) h _ fun s hs => fin 2 (by decide) h s _ hs rfl, fun h2 => ⟨rfl, ?_⟩⟩⟩⟩
  refine r_setKind hA.1 hA.2.1 hR.1 hR.2.2.2.2.1 hR.2.2.2.2.2.2.2.1 hfu hq (fun _ => finX rfl (by decide) (fin2 _ _)) (fun k hk eq => ?_)
  have : ∀ k, k < 3 → kch k = 115 ∨ kch k = 116 ∨ kch k = 100 := by decide
  rcases this k hk with g | g | g
  · exact absurd (eq.trans g) h0
  · exact absurd (eq.trans g) h1
  · exact absurd (eq.trans g) h2
theorem c_1 (hfu : 20000 ≤ fu) (hI : Inv σ u) (hK : ∀ σ' f' u', Inv σ' u' → K σ' f' u') : wp_case1 fu a1 σ f u K := by
  obtain ⟨n, kd, p, e, mdn, tdn, c, md, td, w, hA, hH, hR⟩ := hI
  have fin2 : ∀ v f', K σ f' (sI u.1 5 v, u.2) := fun v f' => hK _ _ _ ⟨n, kd, p, e, mdn, tdn, c, md, td, w, hA, hH, hR.code _⟩
  have hz := hH.2.1.sz
  have hC := hA.1
  have hn := hC.1
  have h8 := pow_13 hn
  have hb := hH.1.1
  have hm := mk_lt (c := c) (n := n) hC.2.1
  have hp := hA.2.2.1
  obtain ⟨rb, rl, r2, r3, o1, m1, m2, o2, t1, t2, o3⟩ := hR
  unfold wp_case1 wp_L_drill wp_X3_drill
  refine w_requireCell (fun ho => Or.inl ⟨rfl, ?_⟩) (fun ho => ?_)
  · refine r_drill hC hA.2.1 rb r2 hp o1 o2 hfu (fun _ => finX rfl (by decide) (fin2 _ _)) (fun j hj ej _ => ?_) (fun j hj ej _ _ => ?_) (fun j hj ej _ _ => ?_)
    · rw [ej, okb_nI (by decide) hj] at ho; cases ho
    · rw [ej, okb_nI (by decide) hj] at ho; cases ho
    · rw [ej, okb_nI (by decide) hj] at ho; cases ho
  · obtain ⟨j, hj, rfl⟩ := (okb_iff (by decide)).mp ho
    refine (w_isHole hb.2.1 (by omega) hj).mpr ⟨fun hd => ?_, fun hd => Or.inr (Or.inl ⟨rfl, ?_⟩)⟩
    · have hd : (mk c n).testBit j = false := (zb_0 _).mp hd
      unfold wp_X0_holes wp_X1_size
      rw [hb.2.2.1]
      refine ⟨fun h13 => ?_, fun h13 => Or.inr (Or.inr ⟨rfl, ?_⟩)⟩
      · have h13 : n < 13 := (nI_ltI (b := 13) (by omega) (by decide)).mp h13
        refine w_open hC hA.2.1 hH.1 hfu hj h13 hd fun s hs => ?_
        have hC' := hC.ins hj h13 hd
        have hi := ix_le c n j
        have hbit : (mk (insC c (ix c n j) j) (n + 1)).testBit j = true := (mk_bit _ _ _).mpr ⟨ix c n j, by omega, ins_eq⟩
        have hix : ix (insC c (ix c n j) j) (n + 1) j = ix c n j := by
          have := ix_self hC' (show ix c n j < n + 1 by omega)
          rw [ins_eq] at this; exact this
        refine (w_numberOf (σ := mgX0 σ s) hC' hs.1.2.1 hj hbit).mpr ?_
        rw [hix, hH.2.2.1, w_wider (by omega) (by omega)]
        refine w_forgetAll (n := n + 1) (c := insC c (ix c n j) j) (kd := kd) (w := insC w (ix c n j) 0) (p := wd p (ix c n j)) (e := 0) (md := md) (td := td) (by exact hs) (by exact hz) rfl rfl fun s2 hs2 => ?_
        rw [hs2.1.1.2.2.1]
        refine r_drill hC hA.2.1 rb r2 hp o1 o2 hfu (fun g => by rw [ho] at g; cases g) (fun j' hj' ej' g => ?_) (fun j' hj' ej' g g2 => by omega) (fun j' hj' ej' g g2 v w1 w2 b1 b2 b3 b4 b5 b6 b7 b8 b9 => ?_)
        · have ej' := (nI_eq (by omega) (by omega)).mp ej'
          subst ej'
          rw [hd] at g; cases g
        · have ej' := (nI_eq (by omega) (by omega)).mp ej'
          subst ej'
          obtain ⟨q1, q2, q3, q4, q5, q6, q7⟩ := hA
          exact finI b5 rfl (hK _ _ _ ⟨n + 1, kd, wd p (ix c n j), 0, 0, 0, insC c (ix c n j) j, md, td, insC w (ix c n j) 0, ⟨hC', q2, wd_lt q3 hi, Nat.two_pow_pos _, by omega, fun i hi => absurd hi (Nat.not_lt_zero i), trivial⟩, hs2, ⟨b1, b2, b3, b4, b6, b7, fun i hi => absurd hi (Nat.not_lt_zero i), b8, b9, fun i hi => absurd hi (Nat.not_lt_zero i), o3⟩⟩)
      · have h13 : n = 13 := by
          have : ¬ n < 13 := fun g => h13 ((nI_ltI (b := 13) (by omega) (by decide)).mpr g)
          omega
        refine r_drill hC hA.2.1 rb r2 hp o1 o2 hfu (fun g => by rw [ho] at g; cases g) (fun j' hj' ej' g => ?_) (fun _ _ _ _ _ => finX rfl (by decide) (fin2 _ _)) (fun j' hj' ej' g g2 => by omega)
        have ej' := (nI_eq (by omega) (by omega)).mp ej'
        subst ej'
        rw [hd] at g; cases g
    · have hd := zb_ne hd
      refine r_drill hC hA.2.1 rb r2 hp o1 o2 hfu (fun g => by rw [ho] at g; cases g) (fun _ _ _ _ => finX rfl (by decide) (fin2 _ _)) (fun j' hj' ej' g g2 => ?_) (fun j' hj' ej' g g2 => ?_)
      · have ej' := (nI_eq (by omega) (by omega)).mp ej'
        subst ej'
        rw [hd] at g; cases g
      · have ej' := (nI_eq (by omega) (by omega)).mp ej'
        subst ej'
        rw [hd] at g; cases g
theorem c_2 (hfu : 20000 ≤ fu) (hI : Inv σ u) (hK : ∀ σ' f' u', Inv σ' u' → K σ' f' u') : wp_case2 fu a1 σ f u K := by
  obtain ⟨n, kd, p, e, mdn, tdn, c, md, td, w, hA, hH, hR⟩ := hI
  have fin2 : ∀ v f', K σ f' (sI u.1 5 v, u.2) := fun v f' => hK _ _ _ ⟨n, kd, p, e, mdn, tdn, c, md, td, w, hA, hH, hR.code _⟩
  have hz := hH.2.1.sz
  have hC := hA.1
  have hn := hC.1
  have h8 := pow_13 hn
  have hb := hH.1.1
  have hm := mk_lt (c := c) (n := n) hC.2.1
  have hp := hA.2.2.1
  obtain ⟨rb, rl, r2, r3, o1, m1, m2, o2, t1, t2, o3⟩ := hR
  unfold wp_case2 wp_L_fill wp_X3_fill
  refine w_requireCell (fun ho => Or.inl ⟨rfl, ?_⟩) (fun ho => ?_)
  · refine r_fillc hC hA.2.1 rb r2 hp o1 o2 hfu (fun _ => finX rfl (by decide) (fin2 _ _)) (fun j hj ej _ => ?_) (fun i m _ hi ej => ?_)
    · rw [ej, okb_nI (by decide) hj] at ho; cases ho
    · rw [ej, okb_nI (by decide) (hC.2.1 i hi)] at ho; cases ho
  · obtain ⟨j, hj, rfl⟩ := (okb_iff (by decide)).mp ho
    refine (w_isHole hb.2.1 (by omega) hj).mpr ⟨fun hd => ?_, fun hd => Or.inr ⟨rfl, ?_⟩⟩
    · have hd := zb_ne hd
      obtain ⟨i, hi, ei⟩ := (mk_bit c j n).mp hd
      subst ei
      obtain ⟨m, rfl⟩ : ∃ m, n = m + 1 := ⟨n - 1, by omega⟩
      have hC' := hC.rem hi
      refine (w_numberOf hC hb.2.1 hj hd).mpr ?_
      rw [ix_self hC hi]
      refine w_close hC hA.2.1 hH.1 hfu hi fun s hs => ?_
      rw [hH.2.2.1, w_narrower (by omega) (by omega)]
      refine w_forgetAll (n := m) (c := remC c i) (kd := kd) (w := remC w i) (p := nw p i) (e := 0) (md := md) (td := td) (by exact hs) (by exact hz) rfl rfl fun s2 hs2 => ?_
      unfold wp_X0_holes wp_X1_size
      rw [hs2.1.1.2.2.1]
      refine r_fillc hC hA.2.1 rb r2 hp o1 o2 hfu (fun g => by rw [ho] at g; cases g) (fun j' hj' ej' g => ?_) (fun i' m' em hi' ej' v w1 w2 b1 b2 b3 b4 b5 b6 b7 b8 b9 => ?_)
      · have ej' := (nI_eq (by omega) (by omega)).mp ej'
        subst ej'
        rw [hd] at g; cases g
      · have ci' := hC.2.1 i' hi'
        have ej' := (nI_eq (by omega) (by omega)).mp ej'
        have := hC.inj hi hi' ej'
        subst this
        have : m' = m := by omega
        subst this
        obtain ⟨q1, q2, q3, q4, q5, q6, q7⟩ := hA
        exact finI b5 rfl (hK _ _ _ ⟨m', kd, nw p i, 0, 0, 0, remC c i, md, td, remC w i, ⟨hC', q2, nw_lt q3 (by omega), Nat.two_pow_pos _, by omega, fun i hi => absurd hi (Nat.not_lt_zero i), trivial⟩, hs2, ⟨b1, b2, b3, b4, b6, b7, fun i hi => absurd hi (Nat.not_lt_zero i), b8, b9, fun i hi => absurd hi (Nat.not_lt_zero i), o3⟩⟩)
    · have hd : (mk c n).testBit j = false := (zb_0 _).mp hd
      refine r_fillc hC hA.2.1 rb r2 hp o1 o2 hfu (fun g => by rw [ho] at g; cases g) (fun _ _ _ _ => finX rfl (by decide) (fin2 _ _)) (fun i' m' em hi' ej' => ?_)
      have ci' := hC.2.1 i' hi'
      have ej' := (nI_eq (by omega) (by omega)).mp ej'
      have : (mk c n).testBit j = true := (mk_bit c j n).mpr ⟨i', hi', ej'.symm⟩
      rw [hd] at this; cases this
theorem c_26 (hfu : 20000 ≤ fu) (hI : Inv σ u) (hK : ∀ σ' f' u', Inv σ' u' → K σ' f' u') : wp_case26 fu σ f u K := by
  obtain ⟨n, kd, p, e, mdn, tdn, c, md, td, w, hA, hH, hR⟩ := hI
  have hL := lns_ok hA.1 hA.2.1
  have hC := hA.1
  have hn := hC.1
  have h8 := pow_13 hn
  have hp := hA.2.2.1
  unfold wp_case26 wp_L_highest wp_X3_highest
  rw [hH.2.2.1]
  refine w_begin hH.1.2.1 hL hfu hp hH.2.1 fun s g1 g2 => ?_
  have hw := g2.out hL
  have hH' := hH.walk g1 g2.wk
  have hor := orR_lt (n := n) (lns c n kd) p (i := 2 ^ n) (Nat.le_refl _)
  have fin1 : ∀ v f', K (mgX2 σ s) f' (sI u.1 5 v, u.2) := fun v f' => hK _ _ _ ⟨n, kd, p, e, mdn, tdn, c, md, td, w, hA, hH', hR.code _⟩
  have fin2 : ∀ v f' g, K (mgX2 σ s) f' (sA (sI u.1 5 v) 6 g, u.2) := fun v f' g => hK _ _ _ ⟨n, kd, p, e, mdn, tdn, c, md, td, w, hA, hH', hR.row6 _ _⟩
  have hcells : ∀ h, h < n → u.1.2.1 1 h = nI (c h) ∧ c h < 25 := fun h hh => ⟨hR.1.2.2.2.1 h hh, hC.2.1 h hh⟩
  have key := fun (P : Int32 → SX → Prop) (KK : Prop) (hN : (∀ h, h < n → (orR (lns c n kd) p (2 ^ n)).testBit h = false) → KK) (hY : ∀ h, h < n → (orR (lns c n kd) p (2 ^ n)).testBit h = true → (∀ k, k < h → (orR (lns c n kd) p (2 ^ n)).testBit k = false) → P (nI (c h / 5)) (mgX2 σ s)) => lp (m := n) (Q := fun f i => (∀ k, k < i → (orR (lns c n kd) p (2 ^ n)).testBit k = false) → wp_X3_highest_L13 σ P s KK f (nI i)) (by
    intro f i hi ih hno
    rw [wp_X3_highest_L13]
    unfold wp_X3_highest_B13 wp_X0_holes wp_X1_size
    have e2 : (mgX2 σ s).1 2 = nI n := hH'.1.1.2.2.1
    rw [e2]
    show (nI n ≤ nI i → _) ∧ (¬ nI n ≤ nI i → _)
    rw [nI_leI (by omega) (by omega), hw.2.2.2.1]
    rcases Nat.lt_or_eq_of_le hi with d | d
    · have ih := ih d
      rw [nI_succ] at ih
      refine ⟨fun q => by omega, fun _ => ?_⟩
      have b1 : ((nI (orR (lns c n kd) p (2 ^ n)) >>> (nI i &&& 31)) &&& 1) = 1 ↔ (orR (lns c n kd) p (2 ^ n)).testBit i = true := z_bit1 (by omega) (by omega)
      rw [b1]
      refine ⟨fun q => ih fun k hk => ?_, fun q => ?_⟩
      · rcases Nat.lt_or_eq_of_le (Nat.lt_succ_iff.mp hk) with a | a
        · exact hno k a
        · rw [a]; exact Bool.not_eq_true _ |>.mp q
      · unfold wp_X0_cellOf
        have hci := hC.2.1 i d
        rw [e2]
        refine (w_at d (by omega) (by decide)).mpr ?_
        have e3 : (mgX2 σ s).2.1 1 i = nI (c i) := hH'.1.1.2.2.2 i d
        rw [e3]
        have e4 : nI (c i) / 5 = nI (c i / 5) := pk_div (d := 5) (by omega) (by decide) (by decide)
        show P (nI (c i) / 5) (mgX2 σ s)
        rw [e4]
        exact hY i d q hno
    · refine ⟨fun _ => hN ?_, fun q => by omega⟩
      rw [d] at hno; exact hno) fu 0 (Nat.zero_le _) (by omega)
  refine key _ _ (fun hall => ⟨rfl, ?_⟩) (fun h hh hbit hfirst => ?_) (fun k hk => absurd hk (Nat.not_lt_zero k))
  · refine r_highest hR.2.1 hL hfu hp hR.1.1 hR.2.2.1 hcells (fun _ => finX rfl (by decide) (fin1 _ _)) (fun hnz g => ?_)
    exfalso
    apply hnz
    apply Nat.eq_of_testBit_eq
    intro b
    rw [Nat.zero_testBit]
    cases hbp : p.testBit b
    · rfl
    · have hbn := tb_inv hp hbp
      have : (orR (lns c n kd) p (2 ^ n)).testBit b = true := (orR_bit _ _ _ _).mpr ⟨p, hp, (rb_iff _ _ _).mpr (Rc_refl hL hp), hbp⟩
      rw [hall b hbn] at this; cases this
  · refine r_highest hR.2.1 hL hfu hp hR.1.1 hR.2.2.1 hcells (fun hz => ?_) (fun hnz g => ?_)
    · exfalso
      obtain ⟨q, hq, hrq, hqb⟩ := (orR_bit _ _ _ _).mp hbit
      have h1 := (Rc_lt hL (pc p) (Nat.le_refl _) hp ((rb_iff _ _ _).mp hrq)).2
      have hp0 : pc p = 0 := by rw [hz]; exact pc_0
      rcases h1 with h1 | h1
      · rw [h1, hz, Nat.zero_testBit] at hqb; cases hqb
      · omega
    · have hch := hC.2.1 h hh
      have er : rwM c (orR (lns c n kd) p (2 ^ n)) n = c h / 5 := by
        have k1 : ∀ x, x ≤ rwM c (orR (lns c n kd) p (2 ^ n)) n ↔ x ≤ c h / 5 := by
          intro x
          rw [rwM_iff]
          constructor
          · rintro ⟨-, h2⟩; exact h2 h hh hbit
          · intro hx
            refine ⟨by omega, fun h' hh' hb' => ?_⟩
            rcases Nat.lt_trichotomy h' h with d | d | d
            · rw [hfirst h' d] at hb'; cases hb'
            · rw [d]; exact hx
            · have := hC.2.2 h h' d hh'
              have : c h / 5 ≤ c h' / 5 := Nat.div_le_div_right (by omega)
              omega
        have a := (k1 _).mp (Nat.le_refl _)
        have b := (k1 _).mpr (Nat.le_refl _)
        omega
      rw [er]
      exact finI rfl rfl (fin2 _ _ _)
theorem r_loses {t : SX} {L : Ln} {n p e : Nat} (hR : Rin t L) (hL : Lok n L) (hfu : 20000 ≤ fu) (h0 : t.1 0 = nI n) (h2 : t.1 2 = nI p) (h3 : t.1 3 = nI e) (hp : p < 2 ^ n) (he : e < 2 ^ n) {P : Int32 → SX → Prop} (hX : okb n a1 = false ∨ okb n a2 = false → P 0 (sI t 5 1)) (hN : ∀ a b, a < n → b < n → a1 = nI a → a2 = nI b → bj L p a b = mI → P 0 (sI t 5 2)) (hP : ∀ a b, a < n → b < n → a1 = nI a → a2 = nI b → ¬ bj L p a b = mI → ∀ ww, P (zb (rb L p e && !rb L (nx L p (lnO L a b)) e)) (sJ (sI t 5 0) ww)) : wp_X4_loses fu t a1 a2 P := by
  have hn := hL.1
  have h8 := pow_13 hn
  have hm := hL.2.1
  unfold wp_X4_loses
  refine r_whyNoJump hR hL hfu h0 h2 hp (fun h => r_no1.mpr ⟨fun g => absurd g (by decide), fun _ => hX h⟩) (fun a b ha hb g1 g2 g3 => r_no2.mpr ⟨fun g => absurd g (by decide), fun _ => hN a b ha hb g1 g2 g3⟩) (fun a b ha hb g1 g2 g3 => r_ok.mpr ⟨fun _ => ?_, fun g => absurd rfl g⟩)
  obtain ⟨y1, y2, y3⟩ := bj_yes hL hp g3
  have hP := hP a b ha hb g1 g2 g3
  unfold wp_X4_waysNow
  refine r_counts (u := sI t 5 0) hR hL hfu he h0 h3 fun ww hww => ?_
  have hP := hP ww
  have e2 : (sJ (sI t 5 0) ww).1 2 = nI p := h2
  have e3 : (sJ (sI t 5 0) ww).2.2 (nI p).toNatClampNeg = lN (Wy L e p) := by
    rw [nI_clamp (by omega)]; exact hww p hp
  have hRw : Rin (sJ (sI t 5 0) ww) L := hR
  have hlt := Wy_lt hL e hp
  have hx := nx_lt hL y1 hp
  have hlt2 := Wy_lt hL e hx
  rw [e2]
  refine ⟨(z_in (by omega)).mpr (by omega), ?_⟩
  rw [e3]
  refine ⟨fun g => ?_, fun g => ?_⟩
  · have g := (l_le (by omega)).mp g
    have : rb L p e = false := decide_eq_false (by omega)
    rw [this] at hP
    exact hP
  · have g : 0 < Wy L e p := Nat.pos_of_ne_zero fun z => g ((l_le (by omega)).mpr z)
    rw [(rb_iff L p e).mpr g, Bool.true_and] at hP
    rw [g1, g2]
    show wp_X4_jumpOf fu (sJ (sI t 5 0) ww) ((sJ (sI t 5 0) ww).1 2) (nI a) (nI b) _
    rw [e2]
    refine r_jumpOf hRw hL hfu (by omega) (by omega) (by omega) ?_
    rw [if_pos ⟨y1, y2⟩]
    refine (r_behind hRw hL y1).mpr ⟨(z_in (by omega)).mpr (by omega), ?_⟩
    have e4 : (sJ (sI t 5 0) ww).2.2 (nI (nx L p (lnO L a b))).toNatClampNeg = lN (Wy L e (nx L p (lnO L a b))) := by
      rw [nI_clamp (by omega)]; exact hww _ hx
    rw [e4]
    refine ⟨fun q => ?_, fun q => ?_⟩
    · have : rb L (nx L p (lnO L a b)) e = true := decide_eq_true (Nat.pos_of_ne_zero fun z => q ((l_cmp (by omega)).mpr z))
      rw [this] at hP; exact hP
    · have q := (l_cmp (by omega)).mp q
      have : rb L (nx L p (lnO L a b)) e = false := decide_eq_false (by omega)
      rw [this] at hP; exact hP
theorem c_21 (hfu : 20000 ≤ fu) (hI : Inv σ u) (hK : ∀ σ' f' u', Inv σ' u' → K σ' f' u') : wp_case21 fu a1 a2 σ f u K := by
  obtain ⟨n, kd, p, e, mdn, tdn, c, md, td, w, hA, hH, hR⟩ := hI
  have hL := lns_ok hA.1 hA.2.1
  have h8 := pow_13 hA.1.1
  have hp := hA.2.2.1
  have he := hA.2.2.2.1
  have hn := hA.1.1
  have fin2 : ∀ v f', K σ f' (sI u.1 5 v, u.2) := fun v f' => hK _ _ _ ⟨n, kd, p, e, mdn, tdn, c, md, td, w, hA, hH, hR.code _⟩
  unfold wp_case21 wp_L_loses wp_X3_loses
  refine w_requireJump hH.1.1.2.2.1 hH.1.2.1 hL hfu hH.2.2.1 hp (fun h => Or.inl ⟨rfl, ?_⟩) (fun a b ha hb g1 g2 g3 => Or.inr ⟨rfl, ?_⟩) (fun a b ha hb g1 g2 g3 => ?_)
  · refine r_loses hR.2.1 hL hfu hR.1.1 hR.2.2.1 hR.2.2.2.1 hp he (fun _ => finX rfl (by decide) (fin2 _ _)) (fun a b ha hb g1 g2 _ => ?_) (fun a b ha hb g1 g2 _ => ?_)
    · rw [g1, g2, okb_nI (by omega) ha, okb_nI (by omega) hb] at h; rcases h with h | h <;> cases h
    · rw [g1, g2, okb_nI (by omega) ha, okb_nI (by omega) hb] at h; rcases h with h | h <;> cases h
  · refine r_loses hR.2.1 hL hfu hR.1.1 hR.2.2.1 hR.2.2.2.1 hp he (fun h => ?_) (fun _ _ _ _ _ _ _ => finX rfl (by decide) (fin2 _ _)) (fun a' b' ha' hb' g1' g2' g3' => ?_)
    · rw [g1, g2, okb_nI (by omega) ha, okb_nI (by omega) hb] at h; rcases h with h | h <;> cases h
    · rw [g1] at g1'; rw [g2] at g2'
      rw [(nI_eq (by omega) (by omega)).mp g1', (nI_eq (by omega) (by omega)).mp g2'] at g3
      exact absurd g3 g3'
  · obtain ⟨y1, y2, y3⟩ := bj_yes hL hp g3
    have hx := nx_lt hL y1 hp
    rw [y3, hH.2.2.1]
    refine w_begin hH.1.2.1 hL hfu hp hH.2.1 fun s s1 s2 => ?_
    have hH' := hH.walk s1 s2.wk
    rw [hH.2.2.2.1]
    refine w_figureLeads hH'.1.2.1 hL hfu he s2.mg fun t t1 t2 => ?_
    have hH2 := hH'.walk t1 (t2.ws he).wk
    have ref : ∀ b0 : Bool, b0 = (rb (lns c n kd) p e && !rb (lns c n kd) (nx (lns c n kd) p (lnO (lns c n kd) a b)) e) → wp_X4_loses fu u.1 a1 a2 (fun r1102 s1102 => (wp_X4_thrown ((s1102, u.2).1) (fun r1108 => ((r1108 = 0 → ((¬ (0 : Int32) = 0 → (K (mgX2 (mgX2 σ s) t) (vp_updL f 0 (zB (zb b0))) (s1102, u.2))) ∧ ((0 : Int32) = 0 → ((r1102 = 0 → (((lg_cmp ((vp_updL f 0 (zB (zb b0))) (0 : Int32).toNatClampNeg) 0) = 0 → (K (mgX2 (mgX2 σ s) t) (vp_updL f 0 (zB (zb b0))) (s1102, u.2))) ∧ (¬ (lg_cmp ((vp_updL f 0 (zB (zb b0))) (0 : Int32).toNatClampNeg) 0) = 0 → False))) ∧ (¬ r1102 = 0 → (((lg_cmp ((vp_updL f 0 (zB (zb b0))) (0 : Int32).toNatClampNeg) 1) = 0 → (K (mgX2 (mgX2 σ s) t) (vp_updL f 0 (zB (zb b0))) (s1102, u.2))) ∧ (¬ (lg_cmp ((vp_updL f 0 (zB (zb b0))) (0 : Int32).toNatClampNeg) 1) = 0 → False))))))) ∧ (¬ r1108 = 0 → False))))) := fun b0 hb0 => by
      refine r_loses hR.2.1 hL hfu hR.1.1 hR.2.2.1 hR.2.2.2.1 hp he (fun h => ?_) (fun a' b' ha' hb' g1' g2' g3' => ?_) (fun a' b' ha' hb' g1' g2' g3' ww => ?_)
      · rw [g1, g2, okb_nI (by omega) ha, okb_nI (by omega) hb] at h; rcases h with h | h <;> cases h
      · rw [g1] at g1'; rw [g2] at g2'
        rw [← (nI_eq (by omega) (by omega)).mp g1', ← (nI_eq (by omega) (by omega)).mp g2'] at g3'
        exact absurd g3' g3
      · rw [g1] at g1'; rw [g2] at g2'
        rw [← (nI_eq (by omega) (by omega)).mp g1', ← (nI_eq (by omega) (by omega)).mp g2', ← hb0]
        exact finB rfl rfl (hK _ _ _ ⟨n, kd, p, e, mdn, tdn, c, md, td, w, hA, hH2, hR.cw _ _⟩)
    have f1 : (mgX2 (mgX2 σ s) t).2.1 7 p = zb (rb (lns c n kd) p e) := t2.fig hp (Rc_refl hL hp)
    have f2 : (mgX2 (mgX2 σ s) t).2.1 7 (nx (lns c n kd) p (lnO (lns c n kd) a b)) = zb (rb (lns c n kd) (nx (lns c n kd) p (lnO (lns c n kd) a b)) e) := t2.fig hx (Rc_snoc hL (pc p) (Nat.le_refl _) hp (Rc_refl hL hp) y1 y2)
    refine (w_figureAt (by omega)).mpr ?_
    rw [f1]
    refine ⟨fun q => ?_, fun q => ?_⟩
    · have q : rb (lns c n kd) p e = false := by
        cases h : rb (lns c n kd) p e
        · rfl
        · rw [h] at q; exact absurd rfl q
      exact ref false (by rw [q]; rfl)
    · have q : rb (lns c n kd) p e = true := (zb_1 _).mp q
      refine (w_figureAt (by omega)).mpr ?_
      rw [f2]
      refine ⟨fun q2 => ?_, fun q2 => ?_⟩
      · have q2 := zb_ne q2
        exact ref false (by rw [q, q2]; rfl)
      · have q2 : rb (lns c n kd) (nx (lns c n kd) p (lnO (lns c n kd) a b)) e = false := (zb_0 _).mp q2
        exact ref true (by rw [q, q2]; rfl)
end CALLS5
