/-! ===== what ties the house and the reference ===== -/
def hst (L : Ln) (n : Nat) (md : Nat → Nat) : Nat → Nat → Prop
  | 0, _ => True
  | i + 1, p => md i < L.length ∧ ∃ q, q < 2 ^ n ∧ can L q (md i) = true ∧ nx L q (md i) = p ∧ hst L n md i q
def Ab (n kd p e mdn tdn : Nat) (c md td : Nat → Nat) : Prop := Cok n c ∧ kd < 3 ∧ p < 2 ^ n ∧ e < 2 ^ n ∧ tdn ≤ 12 ∧ (∀ i, i < tdn → td i < n) ∧ hst (lns c n kd) n md mdn p
def Hs (σ : SX) (n kd p e mdn tdn : Nat) (c md td : Nat → Nat) (w : Nat → Int32) : Prop := Brd σ n c kd w ∧ Wk σ n (lns c n kd) ∧ σ.1 15 = nI p ∧ σ.1 16 = nI e ∧ σ.1 17 = nI mdn ∧ (∀ i, i < mdn → σ.2.1 8 i = nI (lF (lns c n kd) (md i) * 100 + lT (lns c n kd) (md i))) ∧ σ.1 18 = nI tdn ∧ ∀ i, i < tdn → σ.2.1 9 i = nI (td i)
def Rs (u : FX) (n kd p e mdn tdn : Nat) (c md td : Nat → Nat) (w : Nat → Int32) : Prop := Rb u.1 n c kd w ∧ Rin u.1 (lns c n kd) ∧ u.1.1 2 = nI p ∧ u.1.1 3 = nI e ∧ okL u.2.1 ∧ u.2.1.2.2.2.2.2 = mdn ∧ (∀ i, i < mdn → u.2.1.2.2.2.2.1 i = md i) ∧ okL u.2.2.1 ∧ u.2.2.1.2.2.2.2.2 = tdn ∧ (∀ i, i < tdn → u.2.2.1.2.2.2.2.1 i = td i) ∧ okL u.2.2.2.1
def Inv (σ : SX) (u : FX) : Prop := ∃ (n kd p e mdn tdn : Nat) (c md td : Nat → Nat) (w : Nat → Int32), Ab n kd p e mdn tdn c md td ∧ Hs σ n kd p e mdn tdn c md td w ∧ Rs u n kd p e mdn tdn c md td w
section TIE
variable {σ s : SX} {u : FX} {n kd p e mdn tdn fu : Nat} {c md td : Nat → Nat} {w : Nat → Int32}
theorem Rs.core (h : Rs u n kd p e mdn tdn c md td w) (g0 : ∀ j, j < 5 → s.1 j = u.1.1 j) (g1 : ∀ j, j < 6 → s.2.1 j = u.1.2.1 j) : Rs (s, u.2) n kd p e mdn tdn c md td w := by
  obtain ⟨⟨b0, b1, b2, b3, b4⟩, ⟨l1, lr⟩, h2, h3, hr⟩ := h
  refine ⟨⟨(g0 0 (by decide)).trans b0, (g0 4 (by decide)).trans b1, fun h0 x hx => ?_, fun h hh => ?_, fun h hh => ?_⟩, ⟨(g0 1 (by decide)).trans l1, fun k hk => ?_⟩, (g0 2 (by decide)).trans h2, (g0 3 (by decide)).trans h3, hr⟩
  · show s.2.1 0 x = _
    rw [g1 0 (by decide)]; exact b2 h0 x hx
  · show s.2.1 1 h = _
    rw [g1 1 (by decide)]; exact b3 h hh
  · show s.2.1 2 h = _
    rw [g1 2 (by decide)]; exact b4 h hh
  · show s.2.1 3 k = _ ∧ s.2.1 4 k = _ ∧ s.2.1 5 k = _
    rw [g1 3 (by decide), g1 4 (by decide), g1 5 (by decide)]; exact lr k hk
theorem Rs.code (h : Rs u n kd p e mdn tdn c md td w) (v : Int32) : Rs (sI u.1 5 v, u.2) n kd p e mdn tdn c md td w := h.core (fun j hj => sI_ne (by omega)) (fun _ _ => rfl)
theorem Rs.row6 (h : Rs u n kd p e mdn tdn c md td w) (v : Int32) (g : Nat → Int32) : Rs (sA (sI u.1 5 v) 6 g, u.2) n kd p e mdn tdn c md td w := h.core (fun j hj => sI_ne (by omega)) (fun j hj => sA_ne (by omega))
theorem Rs.row7 (h : Rs u n kd p e mdn tdn c md td w) (g : Nat → Int32) : Rs (sA u.1 7 g, u.2) n kd p e mdn tdn c md td w := h.core (fun _ _ => rfl) (fun j hj => sA_ne (by omega))
theorem Rs.ways (h : Rs u n kd p e mdn tdn c md td w) (g : Nat → Int64) : Rs (sJ u.1 g, u.2) n kd p e mdn tdn c md td w := h
theorem Hs.walk (h : Hs σ n kd p e mdn tdn c md td w) (g : Fw s σ) (hw : Wk s n (lns c n kd)) : Hs (mgX2 σ s) n kd p e mdn tdn c md td w := by
  obtain ⟨⟨⟨b0, b1, b2, b3⟩, hl, hwt⟩, -, hr⟩ := h
  refine ⟨⟨⟨(g.1 0 (by decide)).trans b0, (g.1 1 (by decide)).trans b1, (g.1 2 (by decide)).trans b2, fun h hh => ?_⟩, ?_, fun h hh => ?_⟩, hw, hr⟩
  · show s.2.1 1 h = _
    rw [g.2 1 (by decide)]; exact b3 h hh
  · exact (hl.fw g : Lin s (lns c n kd))
  · show s.2.1 0 (c h) = _
    rw [g.2 0 (by decide)]; exact hwt h hh
theorem Fw.mg (g : Fw s σ) : Fw (mgX2 σ s) σ := by
  refine ⟨fun j hj => ?_, fun j hj => ?_⟩
  · have : Nat.blt j 15 = true := by rw [Nat.blt_eq]; omega
    show (bif Nat.blt j 15 then s.1 j else σ.1 j) = _
    rw [this]; exact g.1 j hj
  · have : Nat.blt j 8 = true := by rw [Nat.blt_eq]; omega
    show (bif Nat.blt j 8 then s.2.1 j else σ.2.1 j) = _
    rw [this]; exact g.2 j hj
theorem Wk.mg {L : Ln} (h : Wk s n L) : Wk (mgX2 σ s) n L := h
theorem Ws.mg {L : Ln} {st : Nat} (h : Ws s n L st) : Ws (mgX2 σ s) n L st := h
/-! ends of a call -/
theorem finI {K : Prop} {code r b : Int32} {f : Nat → Int64} (hc : code = 0) (hr : r = b) (hK : K) : (code = 0 → ((¬ (0 : Int32) = 0 → K) ∧ ((0 : Int32) = 0 → ((lg_cmp ((vp_updL f 0 (Int32.toInt64 r)) (0 : Int32).toNatClampNeg) b.toInt64 = 0 → K) ∧ (¬ lg_cmp ((vp_updL f 0 (Int32.toInt64 r)) (0 : Int32).toNatClampNeg) b.toInt64 = 0 → False))))) ∧ (¬ code = 0 → False) := by
  refine ⟨fun _ => ⟨fun _ => hK, fun _ => ⟨fun _ => hK, fun h => h ?_⟩⟩, fun h => h hc⟩
  subst hr
  show lg_cmp (Int32.toInt64 r) (Int32.toInt64 r) = 0
  unfold lg_cmp
  rw [if_neg (by exact Int64.lt_irrefl), if_pos rfl]
theorem finX {K Q : Prop} {code k : Int32} (hc : code = k) (hk : ¬ k = 0) (hK : K) : (code = k → ((¬ k = 0 → K) ∧ (k = 0 → Q))) ∧ (¬ code = k → False) := ⟨fun _ => ⟨fun _ => hK, fun h => absurd h hk⟩, fun h => h hc⟩
theorem finB {K : Prop} {code r b : Int32} {f : Nat → Int64} (hc : code = 0) (hr : r = b) (hK : K) : (code = 0 → ((¬ (0 : Int32) = 0 → K) ∧ ((0 : Int32) = 0 → ((b = 0 → ((lg_cmp ((vp_updL f 0 (zB r)) (0 : Int32).toNatClampNeg) 0 = 0 → K) ∧ (¬ lg_cmp ((vp_updL f 0 (zB r)) (0 : Int32).toNatClampNeg) 0 = 0 → False))) ∧ (¬ b = 0 → ((lg_cmp ((vp_updL f 0 (zB r)) (0 : Int32).toNatClampNeg) 1 = 0 → K) ∧ (¬ lg_cmp ((vp_updL f 0 (zB r)) (0 : Int32).toNatClampNeg) 1 = 0 → False))))))) ∧ (¬ code = 0 → False) := by
  subst hr
  refine ⟨fun _ => ⟨fun _ => hK, fun _ => ⟨fun hb => ⟨fun _ => hK, fun h => h ?_⟩, fun hb => ⟨fun _ => hK, fun h => h ?_⟩⟩⟩, fun h => h hc⟩
  · show lg_cmp (zB r) 0 = 0
    unfold zB
    rw [if_pos hb]; decide
  · show lg_cmp (zB r) 1 = 0
    unfold zB
    rw [if_neg hb]; decide
theorem finE {K : Prop} {r b : Int32} (hr : r = b) (hK : K) : (r = b → K) ∧ (¬ r = b → False) := ⟨fun _ => hK, fun h => h hr⟩
theorem finL {K : Prop} {r b : Int64} (hr : r = b) (hK : K) : (lg_cmp r b = 0 → K) ∧ (¬ lg_cmp r b = 0 → False) := ⟨fun _ => hK, fun h => h (by
  subst hr
  unfold lg_cmp
  rw [if_neg (by exact Int64.lt_irrefl), if_pos rfl])⟩
theorem r_ok {t : SX} {P : Int32 → SX → Prop} : wp_X4_fails t 0 P ↔ P 0 (sI t 5 0) := r_fails0
theorem r_no1 {t : SX} {P : Int32 → SX → Prop} : wp_X4_fails t 1 P ↔ P 1 (sI t 5 1) := r_failsN (t := 1) (by decide) (by decide)
theorem r_no2 {t : SX} {P : Int32 → SX → Prop} : wp_X4_fails t 2 P ↔ P 1 (sI t 5 2) := r_failsN (t := 2) (by decide) (by decide)
/-! what the house asks of its arguments -/
theorem w_requireHole {x : Int32} {P : SX → Prop} {X : String → SX → Prop} (h2 : σ.1 2 = nI n) (hn : n ≤ 13) (hX : okb n x = false → X "java/lang/IndexOutOfBoundsException" σ) (hP : okb n x = true → P σ) : wp_X3_requireHole σ x P X := by
  unfold wp_X3_requireHole wp_X0_holes wp_X1_size
  rw [h2]
  unfold okb at hX hP
  refine ⟨fun h => hX ?_, fun h => ⟨fun g => hP ?_, fun g => hX ?_⟩⟩
  · simp only [h, not_true_eq_false, decide_false, Bool.false_and]
  · simp only [h, g, not_false_eq_true, decide_true, Bool.and_self]
  · simp only [h, g, decide_false, Bool.and_false]
theorem w_requireCell {x : Int32} {P : Prop} {X : String → Prop} (hX : okb 25 x = false → X "java/lang/IllegalArgumentException") (hP : okb 25 x = true → P) : wp_X3_requireCell x P X := by
  unfold wp_X3_requireCell
  unfold okb at hX hP
  refine ⟨fun h => hX ?_, fun h => ⟨fun g => hP ?_, fun g => hX ?_⟩⟩
  · simp only [h, not_true_eq_false, decide_false, Bool.false_and]
  · have g : x < nI 25 := g
    simp only [h, g, not_false_eq_true, decide_true, Bool.and_self]
  · have g : ¬ x < nI 25 := g
    simp only [h, g, decide_false, Bool.and_false]
theorem w_requireColouring {x : Int32} {P : Prop} {X : String → Prop} (hX : okb 2 x = false → X "java/lang/IllegalArgumentException") (hP : okb 2 x = true → P) : wp_X3_requireColouring x P X := by
  unfold wp_X3_requireColouring
  unfold okb at hX hP
  refine ⟨fun h => hX ?_, fun h => ⟨fun g => hP ?_, fun g => hX ?_⟩⟩
  · simp only [h, not_true_eq_false, decide_false, Bool.false_and]
  · have g : x < nI 2 := g
    simp only [h, g, not_false_eq_true, decide_true, Bool.and_self]
  · have g : ¬ x < nI 2 := g
    simp only [h, g, decide_false, Bool.and_false]
theorem w_hasPegs {x : Int32} {P : Int32 → Prop} (h2 : σ.1 2 = nI n) (hn : n ≤ 13) : wp_X0_hasPegs σ x P ↔ P (zb (okb (2 ^ n) x)) := by
  have h8 := pow_13 hn
  unfold wp_X0_hasPegs wp_X1_size okb
  rw [h2]
  have e : ((1 : Int32) <<< (nI n &&& 31)) = nI (2 ^ n) := z_shl (by omega)
  show ((x < 0 → P 0) ∧ (¬ x < 0 → ((((1 : Int32) <<< (nI n &&& 31)) ≤ x → P 0) ∧ (¬ ((1 : Int32) <<< (nI n &&& 31)) ≤ x → P 1)))) ↔ _
  rw [e]
  by_cases h : x < 0
  · simp only [h, not_true_eq_false, decide_false, Bool.false_and, true_implies, false_implies, implies_true, and_true, true_and, not_true_eq_false, not_false_eq_true, and_self, false_and, and_false, if_true, if_false, ite_true, ite_false, reduceCtorEq, Bool.false_eq_true, Bool.true_eq_false, eq_self_iff_true, forall_const, iff_self]; rfl
  · have hl : nI (2 ^ n) ≤ x ↔ ¬ x < nI (2 ^ n) := Int32.not_lt.symm
    rw [hl]
    by_cases g : x < nI (2 ^ n)
    · simp only [h, g, not_false_eq_true, decide_true, Bool.and_self, true_implies, false_implies, implies_true, and_true, true_and, not_true_eq_false, not_false_eq_true, and_self, false_and, and_false, if_true, if_false, ite_true, ite_false, reduceCtorEq, Bool.false_eq_true, Bool.true_eq_false, eq_self_iff_true, forall_const, iff_self]; rfl
    · simp only [h, g, decide_false, Bool.and_false, true_implies, false_implies, implies_true, and_true, true_and, not_true_eq_false, not_false_eq_true, and_self, false_and, and_false, if_true, if_false, ite_true, ite_false, reduceCtorEq, Bool.false_eq_true, Bool.true_eq_false, eq_self_iff_true, forall_const, iff_self]; rfl
theorem w_requirePegs {x : Int32} {P : SX → Prop} {X : String → SX → Prop} (h2 : σ.1 2 = nI n) (hn : n ≤ 13) (hX : okb (2 ^ n) x = false → X "java/lang/IndexOutOfBoundsException" σ) (hP : okb (2 ^ n) x = true → P σ) : wp_X3_requirePegs σ x P X := by
  unfold wp_X3_requirePegs
  rw [w_hasPegs h2 hn]
  show ((¬ zb _ = nI 0 → P σ) ∧ (zb _ = nI 0 → _))
  rw [zb_0]
  exact ⟨fun h => hP (by cases e : okb (2 ^ n) x; exact absurd e h; rfl), fun h => hX h⟩
theorem bj_mI {L : Ln} {q a b : Nat} : bj L q a b = mI ∨ (lnO L a b < L.length ∧ can L q (lnO L a b) = true ∧ bj L q a b = nI (nx L q (lnO L a b))) := by
  unfold bj
  by_cases h : lnO L a b < L.length ∧ can L q (lnO L a b) = true
  · exact Or.inr ⟨h.1, h.2, if_pos h⟩
  · exact Or.inl (if_neg h)
end TIE
