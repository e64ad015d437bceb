/-! ===== the reference's board ===== -/
def Rb (u : SX) (n : Nat) (c : Nat → Nat) (kd : Nat) (w : Nat → Int32) : Prop := u.1 0 = nI n ∧ u.1 4 = nI kd ∧ (0 < n → ∀ x, x < 25 → u.2.1 0 x = if (mk c n).testBit x = true then nI (ix c n x) else mI) ∧ (∀ h, h < n → u.2.1 1 h = nI (c h)) ∧ ∀ h, h < n → u.2.1 2 h = w h
def okb (m : Nat) (x : Int32) : Bool := decide (¬ x < 0) && decide (x < nI m)
theorem okb_iff {m : Nat} {x : Int32} (hm : m < 2 ^ 31) : okb m x = true ↔ ∃ j, j < m ∧ x = nI j := by
  unfold okb
  rw [Bool.and_eq_true, decide_eq_true_iff, decide_eq_true_iff]
  constructor
  · rintro ⟨h1, h2⟩
    obtain ⟨j, hj, e⟩ := nI_of h1
    rw [e, nI_ltI hj hm] at h2
    exact ⟨j, h2, e⟩
  · rintro ⟨j, hj, e⟩
    rw [e]
    exact ⟨nI_pos (by omega), (nI_ltI (by omega) hm).mpr hj⟩
theorem okb_nI {m j : Nat} (hm : m < 2 ^ 31) (hj : j < m) : okb m (nI j) = true := (okb_iff hm).mpr ⟨j, hj, rfl⟩
theorem r_in {x y : Int32} {m : Nat} (hm : m < 2 ^ 31) (hy : y = dn m) {P : Int32 → Prop} : wp_X4_in x 0 y P ↔ P (zb (okb m x)) := by
  unfold wp_X4_in okb
  by_cases h0 : x < 0
  · simp only [h0, not_true_eq_false, decide_false, Bool.false_and, true_implies, false_implies, and_true]
    rfl
  · obtain ⟨j, hj, e⟩ := nI_of h0
    have e2 : (dn m < nI j) ↔ ¬ nI j < nI m := by
      rw [nI_ltI hj hm]
      cases m with
      | zero => exact ⟨fun _ => by omega, fun _ => (z_mlt hj).mpr trivial⟩
      | succ m =>
        show nI m < nI j ↔ _
        rw [nI_ltI (by omega) hj]
        omega
    simp only [h0, not_false_eq_true, decide_true, Bool.true_and, true_implies, false_implies, true_and]
    rw [hy, e, e2]
    by_cases q : nI j < nI m
    · simp only [q, not_true_eq_false, not_false_eq_true, decide_true, true_implies, false_implies, true_and]
      rfl
    · simp only [q, not_false_eq_true, not_true_eq_false, decide_false, true_implies, false_implies, and_true]
      rfl
theorem r_isHole {u : SX} {n : Nat} (h0 : u.1 0 = nI n) (hn : n ≤ 13) {x : Int32} {P : Int32 → Prop} : wp_X4_isHole u x P ↔ P (zb (okb n x)) := by
  unfold wp_X4_isHole
  rw [h0, r_in (m := n) (by omega) (by
    cases n with
    | zero => decide
    | succ n => exact nI_pred n)]
  simp only [zb_nar, true_and]
theorem r_isPosition {u : SX} {n : Nat} (h0 : u.1 0 = nI n) (hn : n ≤ 13) {x : Int32} {P : Int32 → Prop} : wp_X4_isPosition u x P ↔ P (zb (okb (2 ^ n) x)) := by
  have h8 := pow_13 hn
  have p0 := Nat.two_pow_pos n
  unfold wp_X4_isPosition
  have e : ((1 : Int32) <<< ((u.1 0) &&& 31)) - 1 = dn (2 ^ n) := by
    rw [h0]
    show (nI 1 <<< (nI n &&& nI 31)) - nI 1 = _
    rw [z_shl (by omega)]
    obtain ⟨k, hk⟩ : ∃ k, 2 ^ n = k + 1 := ⟨2 ^ n - 1, by omega⟩
    rw [hk]
    exact nI_pred k
  rw [e, r_in (m := 2 ^ n) (by omega) rfl]
  simp only [zb_nar, true_and]
theorem r_isDrilled {u : SX} {n kd fu : Nat} {c : Nat → Nat} {w : Nat → Int32} (hC : Cok n c) (hB : Rb u n c kd w) (hfu : 20000 ≤ fu) {x : Nat} (hx : x < 25) {P : Int32 → Prop} : wp_X4_isDrilled fu u (nI x) P ↔ P (zb ((mk c n).testBit x)) := by
  have hn := hC.1
  have key := fun (K : Int32 → Prop) => lp (m := n) (Q := fun f i => (wp_X4_isDrilled_L4 u (nI x) K f (nI i) (zb ((mk c i).testBit x)) ↔ K (zb ((mk c n).testBit x)))) (by
    intro f i hi ih
    rw [wp_X4_isDrilled_L4]
    unfold wp_X4_isDrilled_B4 wp_X4_isDrilled_J28
    rw [hB.1]
    rcases Nat.lt_or_eq_of_le hi with d | d
    · have ih := ih d
      have q : ¬ n ≤ i := by omega
      have q2 : i < 13 := by omega
      have hc := hC.2.1 i d
      rw [mk_succ, Nat.testBit_or, Nat.testBit_two_pow] at ih
      simp (disch := first | assumption | omega) only [↓zm1, z0, z1, z2, z3, z4, z5, z8, z10, z12, z13, z24, z25, z31, z99, z100, z104, z115, z116, z1000, z8192, z10240, nI_leI, nI_ltI, nI_eq, nI_clamp, z_in, z_inl, nI_add, pk_mul, pk_sub, z_pred, z_predm, pk_div, z_em, z_me, z_mlt, z_nmlt, z_mle, z_nmle, z_shl, z_bit1, z_bit0, z_cap, Nat.not_lt_zero, Nat.zero_le, Nat.lt_irrefl, Nat.le_refl, true_implies, false_implies, implies_true, and_true, true_and, not_true_eq_false, not_false_eq_true, and_self, false_and, and_false, if_true, if_false, ite_true, ite_false, reduceCtorEq, Bool.false_eq_true, Bool.true_eq_false, eq_self_iff_true, forall_const, iff_self, q, q2, hB.2.2.2.1 i d]
      by_cases e : c i = x
      · simp only [e, true_implies, false_implies, implies_true, and_true, true_and, not_true_eq_false, not_false_eq_true, and_self, false_and, and_false, if_true, if_false, ite_true, ite_false, reduceCtorEq, Bool.false_eq_true, Bool.true_eq_false, eq_self_iff_true, forall_const, iff_self, decide_true] at ih ⊢
        rw [← zb_t, zb_or]
        exact ih
      · simp only [e, true_implies, false_implies, implies_true, and_true, true_and, not_true_eq_false, not_false_eq_true, and_self, false_and, and_false, if_true, if_false, ite_true, ite_false, reduceCtorEq, Bool.false_eq_true, Bool.true_eq_false, eq_self_iff_true, forall_const, iff_self, decide_false] at ih ⊢
        rw [← zb_f, zb_or]
        exact ih
    · subst d
      simp (disch := first | assumption | omega) only [↓zm1, z0, z1, z2, z3, z4, z5, z8, z10, z12, z13, z24, z25, z31, z99, z100, z104, z115, z116, z1000, z8192, z10240, nI_leI, nI_ltI, nI_eq, nI_clamp, z_in, z_inl, nI_add, pk_mul, pk_sub, z_pred, z_predm, pk_div, z_em, z_me, z_mlt, z_nmlt, z_mle, z_nmle, z_shl, z_bit1, z_bit0, z_cap, Nat.not_lt_zero, Nat.zero_le, Nat.lt_irrefl, Nat.le_refl, true_implies, false_implies, implies_true, and_true, true_and, not_true_eq_false, not_false_eq_true, and_self, false_and, and_false, if_true, if_false, ite_true, ite_false, reduceCtorEq, Bool.false_eq_true, Bool.true_eq_false, eq_self_iff_true, forall_const, iff_self]) fu 0 (Nat.zero_le _) (by omega)
  unfold wp_X4_isDrilled
  have z : (0 : Int32) = zb ((mk c 0).testBit x) := by rw [mk, Nat.zero_testBit]; rfl
  have k := key (fun (v2_36 : Int32) => (narrow .boolean (.int v2_36) = .int v2_36 ∧ (P v2_36)))
  rw [← z] at k
  have k : wp_X4_isDrilled_L4 u (nI x) (fun v2_36 => narrow .boolean (.int v2_36) = .int v2_36 ∧ P v2_36) fu 0 0 ↔ narrow .boolean (.int (zb ((mk c n).testBit x))) = .int (zb ((mk c n).testBit x)) ∧ P (zb ((mk c n).testBit x)) := k
  rw [k]
  simp only [zb_nar, true_and]
def hA (c : Nat → Nat) (n x : Nat) : Int32 := if (mk c n).testBit x = true then nI (ix c n x) else mI
theorem r_holeAt {u : SX} {n kd fu : Nat} {c : Nat → Nat} {w : Nat → Int32} (hC : Cok n c) (hB : Rb u n c kd w) (hfu : 20000 ≤ fu) {x : Nat} (hx : x < 25) {P : Int32 → Prop} : wp_X4_holeAt fu u (nI x) P ↔ P (hA c n x) := by
  unfold wp_X4_holeAt hA
  rw [r_isDrilled hC hB hfu hx]
  show ((zb _ = nI 0 → P (-1)) ∧ (¬ zb _ = nI 0 → _)) ↔ _
  rw [zb_0]
  cases h : (mk c n).testBit x
  · simp only [true_implies, false_implies, implies_true, and_true, true_and, not_true_eq_false, not_false_eq_true, and_self, false_and, and_false, if_true, if_false, ite_true, ite_false, reduceCtorEq, Bool.false_eq_true, Bool.true_eq_false, eq_self_iff_true, forall_const, iff_self]; rfl
  · have h0 : 0 < n := by
      obtain ⟨i, hi, -⟩ := (mk_bit c x n).mp h
      omega
    have e := hB.2.2.1 h0 x hx
    rw [h, if_pos rfl] at e
    simp (disch := first | assumption | omega) only [↓zm1, z0, z1, z2, z3, z4, z5, z8, z10, z12, z13, z24, z25, z31, z99, z100, z104, z115, z116, z1000, z8192, z10240, nI_leI, nI_ltI, nI_eq, nI_clamp, z_in, z_inl, nI_add, pk_mul, pk_sub, z_pred, z_predm, pk_div, z_em, z_me, z_mlt, z_nmlt, z_mle, z_nmle, z_shl, z_bit1, z_bit0, z_cap, Nat.not_lt_zero, Nat.zero_le, Nat.lt_irrefl, Nat.le_refl, true_implies, false_implies, implies_true, and_true, true_and, not_true_eq_false, not_false_eq_true, and_self, false_and, and_false, if_true, if_false, ite_true, ite_false, reduceCtorEq, Bool.false_eq_true, Bool.true_eq_false, eq_self_iff_true, forall_const, iff_self, hx, e]
def orB (g : Nat → Bool) : Nat → Bool
  | 0 => false
  | m + 1 => orB g m || g m
theorem orB_succ (g : Nat → Bool) (m : Nat) : orB g (m + 1) = (orB g m || g m) := rfl
theorem orB_iff (g : Nat → Bool) : ∀ m, orB g m = true ↔ ∃ k, k < m ∧ g k = true
  | 0 => ⟨fun h => (by cases h), fun ⟨k, hk, _⟩ => absurd hk (Nat.not_lt_zero k)⟩
  | m + 1 => by
    unfold orB
    rw [Bool.or_eq_true, orB_iff g m]
    constructor
    · rintro (⟨k, h1, h2⟩ | h)
      · exact ⟨k, by omega, h2⟩
      · exact ⟨m, by omega, h⟩
    · rintro ⟨k, h1, h2⟩
      rcases Nat.lt_or_eq_of_le (Nat.lt_succ_iff.mp h1) with e | e
      · exact Or.inl ⟨k, e, h2⟩
      · rw [e] at h2; exact Or.inr h2
def jmB (L : Ln) (a b d : Int32) (k : Nat) : Bool := decide (nI (lF L k) = a ∧ nI (lO L k) = b ∧ nI (lT L k) = d)
theorem r_isJump {u : SX} {L : Ln} {n fu : Nat} (hR : Rin u L) (hL : Lok n L) (hfu : 20000 ≤ fu) {a b d : Int32} {P : Int32 → Prop} : wp_X4_isJump fu u a b d P ↔ P (zb (orB (jmB L a b d) L.length)) := by
  have hm := hL.2.1
  have key := fun (K : Int32 → Prop) => lp (m := L.length) (Q := fun f i => (wp_X4_isJump_L6 u a b d K f (nI i) (zb (orB (jmB L a b d) i)) ↔ K (zb (orB (jmB L a b d) L.length)))) (by
    intro f i hi ih
    rw [wp_X4_isJump_L6]
    unfold wp_X4_isJump_B6 wp_X4_isJump_J54 wp_X4_isJump_J55
    rw [hR.1]
    rcases Nat.lt_or_eq_of_le hi with c | c
    · have ih := ih c
      have q : ¬ L.length ≤ i := by omega
      have q2 : i < 104 := by omega
      obtain ⟨r3, r4, r5⟩ := hR.2 i c
      rw [orB_succ] at ih
      have e1 : ∀ X : Bool, X = jmB L a b d i → (wp_X4_isJump_L6 u a b d K f (nI (i + 1)) (zb (orB (jmB L a b d) i) ||| zb X) ↔ K (zb (orB (jmB L a b d) L.length))) := fun X hX => by
        rw [zb_or, hX]; exact ih
      have ef := e1 false
      have et := e1 true
      rw [zb_f] at ef
      rw [zb_t] at et
      unfold jmB at ef et
      simp (disch := first | assumption | omega) only [nI_leI, z_in, nI_clamp, z0, z1, nI_add, true_implies, false_implies, implies_true, and_true, true_and, not_true_eq_false, not_false_eq_true, and_self, false_and, and_false, if_true, if_false, ite_true, ite_false, reduceCtorEq, Bool.false_eq_true, Bool.true_eq_false, eq_self_iff_true, forall_const, iff_self, q, q2, r3, r4, r5]
      by_cases g1 : nI (lF L i) = a
      · by_cases g2 : nI (lO L i) = b
        · by_cases g3 : nI (lT L i) = d
          · simp only [g1, g2, g3, true_implies, false_implies, implies_true, and_true, true_and, not_true_eq_false, not_false_eq_true, and_self, false_and, and_false, if_true, if_false, ite_true, ite_false, reduceCtorEq, Bool.false_eq_true, Bool.true_eq_false, eq_self_iff_true, forall_const, iff_self]
            exact et (decide_eq_true ⟨g1, g2, g3⟩).symm
          · simp only [g1, g2, g3, true_implies, false_implies, implies_true, and_true, true_and, not_true_eq_false, not_false_eq_true, and_self, false_and, and_false, if_true, if_false, ite_true, ite_false, reduceCtorEq, Bool.false_eq_true, Bool.true_eq_false, eq_self_iff_true, forall_const, iff_self]
            exact ef (decide_eq_false fun h => g3 h.2.2).symm
        · simp only [g1, g2, true_implies, false_implies, implies_true, and_true, true_and, not_true_eq_false, not_false_eq_true, and_self, false_and, and_false, if_true, if_false, ite_true, ite_false, reduceCtorEq, Bool.false_eq_true, Bool.true_eq_false, eq_self_iff_true, forall_const, iff_self]
          exact ef (decide_eq_false fun h => g2 h.2.1).symm
      · simp only [g1, true_implies, false_implies, implies_true, and_true, true_and, not_true_eq_false, not_false_eq_true, and_self, false_and, and_false, if_true, if_false, ite_true, ite_false, reduceCtorEq, Bool.false_eq_true, Bool.true_eq_false, eq_self_iff_true, forall_const, iff_self]
        exact ef (decide_eq_false fun h => g1 h.1).symm
    · subst c
      simp (disch := first | assumption | omega) only [↓zm1, z0, z1, z2, z3, z4, z5, z8, z10, z12, z13, z24, z25, z31, z99, z100, z104, z115, z116, z1000, z8192, z10240, nI_leI, nI_ltI, nI_eq, nI_clamp, z_in, z_inl, nI_add, pk_mul, pk_sub, z_pred, z_predm, pk_div, z_em, z_me, z_mlt, z_nmlt, z_mle, z_nmle, z_shl, z_bit1, z_bit0, z_cap, Nat.not_lt_zero, Nat.zero_le, Nat.lt_irrefl, Nat.le_refl, true_implies, false_implies, implies_true, and_true, true_and, not_true_eq_false, not_false_eq_true, and_self, false_and, and_false, if_true, if_false, ite_true, ite_false, reduceCtorEq, Bool.false_eq_true, Bool.true_eq_false, eq_self_iff_true, forall_const, iff_self]) fu 0 (Nat.zero_le _) (by omega)
  unfold wp_X4_isJump
  have k := key (fun (v4_64 : Int32) => (narrow .boolean (.int v4_64) = .int v4_64 ∧ (P v4_64)))
  have k : wp_X4_isJump_L6 u a b d (fun v4_64 => narrow .boolean (.int v4_64) = .int v4_64 ∧ P v4_64) fu 0 0 ↔ narrow .boolean (.int (zb (orB (jmB L a b d) L.length))) = .int (zb (orB (jmB L a b d) L.length)) ∧ P (zb (orB (jmB L a b d) L.length)) := k
  rw [k]
  simp only [zb_nar, true_and]
/-! turns -/
def trS (a b : Int32) : Nat → Int32 × Int32
  | 0 => (a, b)
  | i + 1 => (4 - (trS a b i).2, (trS a b i).1)
def trI (x t : Int32) (r : Nat) : Int32 := (5 * (trS (if t < 4 then x - x / 5 * 5 else 4 - (x - x / 5 * 5)) (x / 5) r).2) + (trS (if t < 4 then x - x / 5 * 5 else 4 - (x - x / 5 * 5)) (x / 5) r).1
def tr (x t : Nat) : Nat := (trI (nI x) (nI t) (t % 4)).toNatClampNeg
theorem tr_ok : ∀ t, t < 8 → ∀ x, x < 25 → trI (nI x) (nI t) (t % 4) = nI (tr x t) ∧ tr x t < 25 := by decide +kernel
theorem r_turned {x t fu : Nat} (hfu : 20000 ≤ fu) (hx : x < 25) (ht : t < 8) {P : Int32 → Prop} : wp_X4_turned fu (nI x) (nI t) P ↔ P (nI (tr x t)) := by
  rw [← (tr_ok t ht x hx).1]
  have e4 : nI t - nI t / 4 * 4 = nI (t % 4) := pk_rem (d := 4) (by omega) (by decide) (by decide)
  have key := fun (a b : Int32) (K : Int32 → Int32 → Prop) => lp (m := t % 4) (Q := fun f i => (wp_X4_turned_L24 (nI t) K f (nI i) (trS a b i).1 (trS a b i).2 ↔ K (trS a b (t % 4)).1 (trS a b (t % 4)).2)) (by
    intro f i hi ih
    rw [wp_X4_turned_L24]
    unfold wp_X4_turned_B24
    rw [e4]
    rcases Nat.lt_or_eq_of_le hi with c | c
    · have ih := ih c
      have q : ¬ t % 4 ≤ i := by omega
      rw [nI_leI (by omega) (by omega)]
      simp only [q, true_implies, false_implies, implies_true, and_true, true_and, not_true_eq_false, not_false_eq_true, and_self, false_and, and_false, if_true, if_false, ite_true, ite_false, reduceCtorEq, Bool.false_eq_true, Bool.true_eq_false, eq_self_iff_true, forall_const, iff_self]
      rw [nI_succ] at ih
      exact ih
    · rw [c]
      simp only [Int32.le_refl, true_implies, false_implies, implies_true, and_true, true_and, not_true_eq_false, not_false_eq_true, and_self, false_and, and_false, if_true, if_false, ite_true, ite_false, reduceCtorEq, Bool.false_eq_true, Bool.true_eq_false, eq_self_iff_true, forall_const, iff_self]) fu 0 (Nat.zero_le _) (by omega)
  have go : ∀ a : Int32, wp_X4_turned_J20 fu (nI x) (nI t) P a ↔ P ((5 * (trS a (nI x / 5) (t % 4)).2) + (trS a (nI x / 5) (t % 4)).1) := fun a => key a (nI x / 5) (fun (v3_48 : Int32) (v2_48 : Int32) => (P ((5 * v2_48) + v3_48)))
  unfold wp_X4_turned trI
  rw [go, go]
  by_cases h : nI t < 4
  · simp only [h, if_true, true_implies, false_implies, implies_true, and_true, true_and, not_true_eq_false, not_false_eq_true, and_self, false_and, and_false, if_true, if_false, ite_true, ite_false, reduceCtorEq, Bool.false_eq_true, Bool.true_eq_false, eq_self_iff_true, forall_const, iff_self]
  · simp only [h, if_false, true_implies, false_implies, implies_true, and_true, true_and, not_true_eq_false, not_false_eq_true, and_self, false_and, and_false, if_true, if_false, ite_true, ite_false, reduceCtorEq, Bool.false_eq_true, Bool.true_eq_false, eq_self_iff_true, forall_const, iff_self]
def syR (c : Nat → Nat) (n kd : Nat) (q : Nat → Nat) : Bool := alB (fun h => (mk c n).testBit (q (c h))) n && alB (fun k => orB (jmB (lns c n kd) (hA c n (q (c (lF (lns c n kd) k)))) (hA c n (q (c (lO (lns c n kd) k)))) (hA c n (q (c (lT (lns c n kd) k))))) (lns c n kd).length) (lns c n kd).length
theorem r_isSymmetry {u : SX} {n kd fu : Nat} {c : Nat → Nat} {w : Nat → Int32} (hC : Cok n c) (hk : kd < 3) (hB : Rb u n c kd w) (hR : Rin u (lns c n kd)) (hfu : 20000 ≤ fu) {t : Nat} (ht : t < 8) {P : Int32 → Prop} (hP : P (zb (syR c n kd (fun x => tr x t)))) : wp_X4_isSymmetry fu u (nI t) P := by
  have hn := hC.1
  have hL := lns_ok hC hk
  have hm := hL.2.1
  have key2 := fun (K : Int32 → Prop) (g : Nat → Bool) (hg : g = fun k => orB (jmB (lns c n kd) (hA c n (tr (c (lF (lns c n kd) k)) t)) (hA c n (tr (c (lO (lns c n kd) k)) t)) (hA c n (tr (c (lT (lns c n kd) k)) t))) (lns c n kd).length) (hK : K (zb (alB g (lns c n kd).length))) => lp (m := (lns c n kd).length) (Q := fun f i => wp_X4_isSymmetry_L37 fu u (nI t) K f (nI i) (zb (alB g i))) (by
    intro f i hi ih
    rw [wp_X4_isSymmetry_L37]
    unfold wp_X4_isSymmetry_B37
    rw [hR.1]
    refine ⟨fun e => ?_, fun e => ⟨fun g2 => ?_, fun g2 => ?_⟩⟩
    · have e : alB g i = false := (zb_0 _).mp e
      rw [e]
      have : alB g (lns c n kd).length = false := by
        cases h : alB g (lns c n kd).length
        · rfl
        · have h := (alB_iff g _).mp h
          have : alB g i = true := alB_t fun k hk => h k (by omega)
          rw [e] at this; cases this
      rw [this] at hK
      exact hK
    · have d : i = (lns c n kd).length := by
        have := (nI_leI (by omega) (by omega)).mp g2
        omega
      rw [d]; exact hK
    · rcases Nat.lt_or_eq_of_le hi with d | d
      · have ih := ih d
        have q2 : i < 104 := by omega
        obtain ⟨r3, r4, r5⟩ := hR.2 i d
        obtain ⟨a1, a2, a3, -⟩ := hL.2.2.1 i d
        have c1 := hC.2.1 _ a1
        have c2 := hC.2.1 _ a2
        have c3 := hC.2.1 _ a3
        have u1 := (tr_ok t ht _ c1).2
        have u2 := (tr_ok t ht _ c2).2
        have u3 := (tr_ok t ht _ c3).2
        have b1 : lF (lns c n kd) i < 13 := by omega
        have b2 : lO (lns c n kd) i < 13 := by omega
        have b3 : lT (lns c n kd) i < 13 := by omega
        have et : alB g i = true := by
          cases h : alB g i
          · exact absurd ((zb_0 _).mpr h) e
          · rfl
        have eg : alB g (i + 1) = orB (jmB (lns c n kd) (hA c n (tr (c (lF (lns c n kd) i)) t)) (hA c n (tr (c (lO (lns c n kd) i)) t)) (hA c n (tr (c (lT (lns c n kd) i)) t))) (lns c n kd).length := by
          show (alB g i && g i) = _
          rw [et, hg]; rfl
        rw [eg, nI_succ] at ih
        simp (disch := first | assumption | omega) only [z_in, nI_clamp, q2, r3, r4, r5, true_and, b1, b2, b3, hB.2.2.2.1, r_turned hfu, r_holeAt hC hB hfu, r_isJump hR hL hfu]
        exact ih
      · subst d; exact absurd (Int32.le_refl _) g2) 
  have key := fun (K : Int32 → Prop) (hK : K (zb (alB (fun h => (mk c n).testBit (tr (c h) t)) n))) => lp (m := n) (Q := fun f i => wp_X4_isSymmetry_L4 fu u (nI t) K f (nI i) (zb (alB (fun h => (mk c n).testBit (tr (c h) t)) i))) (by
    intro f i hi ih
    rw [wp_X4_isSymmetry_L4]
    unfold wp_X4_isSymmetry_B4
    rw [hB.1]
    rcases Nat.lt_or_eq_of_le hi with d | d
    · have ih := ih d
      have q : ¬ n ≤ i := by omega
      have q2 : i < 13 := by omega
      have c1 := hC.2.1 i d
      have u1 := (tr_ok t ht _ c1).2
      rw [nI_succ] at ih
      simp (disch := first | assumption | omega) only [nI_leI, z_in, nI_clamp, q, q2, hB.2.2.2.1, r_turned hfu, r_isDrilled hC hB hfu, zb_and, true_implies, false_implies, implies_true, and_true, true_and, not_true_eq_false, not_false_eq_true, and_self, false_and, and_false, if_true, if_false, ite_true, ite_false, reduceCtorEq, Bool.false_eq_true, Bool.true_eq_false, eq_self_iff_true, forall_const, iff_self]
      exact ih
    · rw [d]
      simp only [Int32.le_refl, true_implies, false_implies, implies_true, and_true, true_and, not_true_eq_false, not_false_eq_true, and_self, false_and, and_false, if_true, if_false, ite_true, ite_false, reduceCtorEq, Bool.false_eq_true, Bool.true_eq_false, eq_self_iff_true, forall_const, iff_self]
      exact hK) fu 0 (Nat.zero_le _) (by omega)
  unfold wp_X4_isSymmetry
  refine key _ ?_
  unfold syR at hP
  cases h : alB (fun h => (mk c n).testBit (tr (c h) t)) n
  · rw [h, Bool.false_and] at hP
    obtain ⟨f, rfl⟩ : ∃ f, fu = f + 1 := ⟨fu - 1, by omega⟩
    rw [wp_X4_isSymmetry_L37]
    unfold wp_X4_isSymmetry_B37
    refine ⟨fun _ => ⟨zb_nar _, hP⟩, fun e => absurd rfl e⟩
  · rw [h, Bool.true_and] at hP
    exact key2 _ _ rfl ⟨zb_nar _, hP⟩ fu 0 (Nat.zero_le _) (by omega)
