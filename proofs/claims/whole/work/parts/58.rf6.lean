/-! ===== the reference drills, fills, changes the kind ===== -/
theorem r_fill25 {f : Nat → Int32} {fu : Nat} (hfu : 20000 ≤ fu) {P : (Nat → Int32) → Prop} (hP : ∀ g : Nat → Int32, (∀ q, q < 25 → g q = mI) → P g) : wp_J7_fill_53178 fu 25 f (-1) P := by
  have key := lp (m := 25) (Q := fun g i => ∀ f : Nat → Int32, (∀ q, q < i → f q = mI) → wp_J7_fill_53178_L5 25 mI P g (nI i) f) (by
    intro g i hi ih f hf
    rw [wp_J7_fill_53178_L5]
    unfold wp_J7_fill_53178_B5
    rcases Nat.lt_or_eq_of_le hi with c | c
    · have q : ¬ 25 ≤ i := by omega
      simp (disch := first | assumption | omega) only [↓zm1, z0, z1, z2, z3, z4, z5, z8, z10, z12, z13, z24, z25, z31, z99, z100, z104, z115, z116, z1000, z8192, z10240, nI_leI, nI_ltI, nI_eq, nI_clamp, z_in, z_inl, nI_add, pk_mul, pk_sub, z_pred, z_predm, pk_div, z_em, z_me, z_mlt, z_nmlt, z_mle, z_nmle, z_shl, z_bit1, z_bit0, z_cap, Nat.not_lt_zero, Nat.zero_le, Nat.lt_irrefl, Nat.le_refl, true_implies, false_implies, implies_true, and_true, true_and, not_true_eq_false, not_false_eq_true, and_self, false_and, and_false, if_true, if_false, ite_true, ite_false, reduceCtorEq, Bool.false_eq_true, Bool.true_eq_false, eq_self_iff_true, forall_const, iff_self, q]
      refine ⟨c, ih c _ fun x hx => ?_⟩
      by_cases e : x = i
      · subst e; rw [upd_eq]
      · rw [upd_ne e]; exact hf x (by omega)
    · subst c
      simp (disch := first | assumption | omega) only [↓zm1, z0, z1, z2, z3, z4, z5, z8, z10, z12, z13, z24, z25, z31, z99, z100, z104, z115, z116, z1000, z8192, z10240, nI_leI, nI_ltI, nI_eq, nI_clamp, z_in, z_inl, nI_add, pk_mul, pk_sub, z_pred, z_predm, pk_div, z_em, z_me, z_mlt, z_nmlt, z_mle, z_nmle, z_shl, z_bit1, z_bit0, z_cap, Nat.not_lt_zero, Nat.zero_le, Nat.lt_irrefl, Nat.le_refl, true_implies, false_implies, implies_true, and_true, true_and, not_true_eq_false, not_false_eq_true, and_self, false_and, and_false, if_true, if_false, ite_true, ite_false, reduceCtorEq, Bool.false_eq_true, Bool.true_eq_false, eq_self_iff_true, forall_const, iff_self]
      exact hP f hf) fu 0 (by omega) (by omega)
  exact key f (fun q hq => by omega)
theorem r_numbers {v : FX} {n kd fu : Nat} {c : Nat → Nat} {w : Nat → Int32} (hC : Cok n c) (hk : kd < 3) (h0 : v.1.1 0 = nI n) (h4 : v.1.1 4 = nI kd) (hc : ∀ h, h < n → v.1.2.1 1 h = nI (c h)) (hw : ∀ h, h < n → v.1.2.1 2 h = w h) (o1 : okL v.2.1) (o2 : okL v.2.2.1) (hfu : 20000 ≤ fu) {P : FX → Prop} (hP : ∀ u w1 w2, Rb u n c kd w → Rin u (lns c n kd) → u.1 2 = v.1.1 2 → u.1 3 = nI 0 → u.1 5 = v.1.1 5 → okL w1 → w1.2.2.2.2.2 = 0 → okL w2 → w2.2.2.2.2.2 = 0 → P (u, w1, w2, v.2.2.2.1, v.2.2.2.2)) : wp_X4_numbers fu v P := by
  have hn := hC.1
  unfold wp_X4_numbers
  refine r_fill25 hfu fun g hg => ?_
  have key := fun (K : FX → Prop) (hK : ∀ t : SX, t.1 = v.1.1 → (∀ j, ¬ j = 0 → t.2.1 j = v.1.2.1 j) → (∀ x, x < 25 → t.2.1 0 x = if (mk c n).testBit x = true then nI (ix c n x) else mI) → K (t, v.2)) => lp (m := n) (Q := fun f i => ∀ t : SX, t.1 = v.1.1 → (∀ j, ¬ j = 0 → t.2.1 j = v.1.2.1 j) → (∀ x, x < 25 → t.2.1 0 x = if (mk c i).testBit x = true then nI (ix c n x) else mI) → wp_X4_numbers_L10 K f (nI i) (t, v.2)) (by
    intro f i hi ih t e1 e2 e3
    rw [wp_X4_numbers_L10]
    unfold wp_X4_numbers_B10
    show ((t.1 0 ≤ nI i → K (t, v.2)) ∧ (¬ t.1 0 ≤ nI i → vp_in (nI i) 13 ∧ vp_in (t.2.1 1 (nI i).toNatClampNeg) 25 ∧ wp_X4_numbers_L10 K f (nI i + 1) (sA t 0 (upd (t.2.1 0) (t.2.1 1 (nI i).toNatClampNeg).toNatClampNeg (nI i)), v.2)))
    rw [e1, h0, nI_leI (by omega) (by omega), nI_clamp (by omega), e2 1 (by decide)]
    rcases Nat.lt_or_eq_of_le hi with d | d
    · have ih := ih d
      rw [nI_succ] at ih
      refine ⟨fun q => by omega, fun _ => ?_⟩
      have hci := hC.2.1 i d
      rw [hc i d, nI_clamp (by omega)]
      refine ⟨(z_in (by omega)).mpr (by omega), (z_in (by omega)).mpr hci, ih _ e1 (fun j hj => ?_) fun x hx => ?_⟩
      · rw [sA_ne hj]; exact e2 j hj
      · rw [sA_eq, mk_succ, Nat.testBit_or, Nat.testBit_two_pow]
        by_cases e : x = c i
        · subst e
          rw [upd_eq, decide_eq_true rfl, Bool.or_true, if_pos rfl, ix_self hC d]
        · rw [upd_ne e, decide_eq_false (fun h => e h.symm), Bool.or_false]
          exact e3 x hx
    · refine ⟨fun _ => ?_, fun q => by omega⟩
      rw [d] at e3
      exact hK t e1 e2 e3) fu 0 (Nat.zero_le _) (by omega)
  refine key _ (fun t e1 e2 e3 => ?_) (sA v.1 0 g) rfl (fun j hj => sA_ne hj) (fun x hx => by rw [sA_eq, mk, Nat.zero_testBit]; exact hg x hx)
  have hB : Rb (sI t 3 0) n c kd w := by
    refine ⟨?_, ?_, fun _ => e3, fun h hh => ?_, fun h hh => ?_⟩
    · rw [sI_ne (by decide), e1]; exact h0
    · rw [sI_ne (by decide), e1]; exact h4
    · show t.2.1 1 h = _
      rw [e2 1 (by decide)]; exact hc h hh
    · show t.2.1 2 h = _
      rw [e2 2 (by decide)]; exact hw h hh
  refine r_lists (v := (sI t 3 0, v.2)) hC hk hB o1 o2 hfu fun u w1 w2 g1 g2 g3 g4 g5 g6 => ?_
  refine hP u w1 w2 (hB.fr g1) g2 ?_ ?_ ?_ g3 g4 g5 g6
  · rw [g1.1 2 (by decide)]
    show (sI t 3 0).1 2 = _
    rw [sI_ne (by decide), e1]
  · rw [g1.1 3 (by decide)]; rfl
  · rw [g1.1 5 (by decide)]
    show (sI t 3 0).1 5 = _
    rw [sI_ne (by decide), e1]
/-! positions with a hole more, a hole less -/
def wd (p i : Nat) : Nat := 2 ^ (i + 1) * (p / 2 ^ i) + p % 2 ^ i
def nw (p i : Nat) : Nat := 2 ^ i * (p / 2 ^ (i + 1)) + p % 2 ^ i
theorem wd_lt {p i n : Nat} (hp : p < 2 ^ n) (hi : i ≤ n) : wd p i < 2 ^ (n + 1) := by
  unfold wd
  have h1 : p / 2 ^ i < 2 ^ (n - i) := by
    apply Nat.div_lt_of_lt_mul
    rw [← Nat.pow_add, show i + (n - i) = n by omega]; exact hp
  have h2 := Nat.mod_lt p (Nat.two_pow_pos i)
  have h3 : 2 ^ (n + 1) = 2 ^ (i + 1) * 2 ^ (n - i) := by rw [← Nat.pow_add]; congr 1; omega
  have h4 : 2 ^ (i + 1) = 2 * 2 ^ i := by rw [Nat.pow_succ, Nat.mul_comm]
  have h5 := Nat.mul_le_mul_left (2 ^ (i + 1)) (Nat.succ_le_of_lt h1)
  rw [← h3, Nat.succ_eq_add_one, Nat.mul_add, Nat.mul_one] at h5
  omega
theorem nw_lt {p i n : Nat} (hp : p < 2 ^ (n + 1)) (hi : i ≤ n) : nw p i < 2 ^ n := by
  unfold nw
  have h1 : p / 2 ^ (i + 1) < 2 ^ (n - i) := by
    apply Nat.div_lt_of_lt_mul
    rw [← Nat.pow_add, show i + 1 + (n - i) = n + 1 by omega]; exact hp
  have h2 := Nat.mod_lt p (Nat.two_pow_pos i)
  have h3 : 2 ^ n = 2 ^ i * 2 ^ (n - i) := by rw [← Nat.pow_add]; congr 1; omega
  have h5 := Nat.mul_le_mul_left (2 ^ i) (Nat.succ_le_of_lt h1)
  rw [← h3, Nat.succ_eq_add_one, Nat.mul_add, Nat.mul_one] at h5
  omega
theorem pq_le (p i j : Nat) (hp : p < 8192) (hi : i ≤ 13) (hj : j ≤ i + 1) : p / 2 ^ i * 2 ^ j < 2 ^ 30 := by
  have h1 : p / 2 ^ i * 2 ^ i ≤ p := Nat.div_mul_le_self p (2 ^ i)
  have h2 : 2 ^ j ≤ 2 ^ (i + 1) := Nat.pow_le_pow_right (by decide) hj
  have h3 : 2 ^ (i + 1) = 2 ^ i * 2 := Nat.pow_succ ..
  have h4 := Nat.mul_le_mul_left (p / 2 ^ i) h2
  rw [h3, ← Nat.mul_assoc] at h4
  omega
theorem r_wider {p i : Nat} (hp : p < 8192) (hi : i ≤ 13) {P : Int32 → Prop} : wp_X4_wider (nI p) (nI i) P ↔ P (nI (wd p i)) := by
  unfold wp_X4_wider wd
  have p0 := Nat.two_pow_pos i
  have q := pq_le p i (i + 1) hp hi (Nat.le_refl _)
  have e1 : ((1 : Int32) <<< (nI i &&& 31)) - 1 = nI (2 ^ i - 1) := by
    show (nI 1 <<< (nI i &&& nI 31)) - nI 1 = _
    rw [z_shl (by omega), pk_sub p0]
  have e2 : (nI p >>> (nI i &&& 31)) = nI (p / 2 ^ i) := z_shr (by omega) (by omega)
  have e3 : nI (p / 2 ^ i) <<< ((nI i + 1) &&& 31) = nI (p / 2 ^ i * 2 ^ (i + 1)) := by
    show nI (p / 2 ^ i) <<< ((nI i + nI 1) &&& nI 31) = _
    rw [nI_add]
    exact z_shlN (by omega) (by omega)
  have m := Nat.mod_lt p p0
  have le : 2 ^ i ≤ 2 ^ (i + 1) := Nat.pow_le_pow_right (by decide) (by omega)
  rw [e1, e2, e3, fa_and, fa_or, Nat.and_two_pow_sub_one_eq_mod, Nat.or_comm, Nat.mul_comm (p / 2 ^ i), ← Nat.two_pow_add_eq_or_of_lt (by omega)]
theorem r_narrower {p i : Nat} (hp : p < 8192) (hi : i ≤ 12) {P : Int32 → Prop} : wp_X4_narrower (nI p) (nI i) P ↔ P (nI (nw p i)) := by
  unfold wp_X4_narrower nw
  have p0 := Nat.two_pow_pos i
  have q := pq_le p (i + 1) i hp (by omega) (by omega)
  have e1 : ((1 : Int32) <<< (nI i &&& 31)) - 1 = nI (2 ^ i - 1) := by
    show (nI 1 <<< (nI i &&& nI 31)) - nI 1 = _
    rw [z_shl (by omega), pk_sub p0]
  have e2 : (nI p >>> ((nI i + 1) &&& 31)) = nI (p / 2 ^ (i + 1)) := by
    show nI p >>> ((nI i + nI 1) &&& nI 31) = _
    rw [nI_add]
    exact z_shr (by omega) (by omega)
  have e3 : nI (p / 2 ^ (i + 1)) <<< (nI i &&& 31) = nI (p / 2 ^ (i + 1) * 2 ^ i) := z_shlN (by omega) (by omega)
  have m := Nat.mod_lt p p0
  rw [e1, e2, e3, fa_and, fa_or, Nat.and_two_pow_sub_one_eq_mod, Nat.or_comm, Nat.mul_comm (p / 2 ^ (i + 1)), ← Nat.two_pow_add_eq_or_of_lt m]
/-- the class's words for them -/
theorem w_wider {p i : Nat} (hp : p < 8192) (hi : i ≤ 13) : (nI p &&& (((1 : Int32) <<< (nI i &&& 31)) - 1)) ||| ((nI p - (nI p &&& (((1 : Int32) <<< (nI i &&& 31)) - 1))) <<< ((1 : Int32) &&& 31)) = nI (wd p i) := by
  unfold wd
  have p0 := Nat.two_pow_pos i
  have q := pq_le p i (i + 1) hp hi (Nat.le_refl _)
  have e1 : ((1 : Int32) <<< (nI i &&& 31)) - 1 = nI (2 ^ i - 1) := by
    show (nI 1 <<< (nI i &&& nI 31)) - nI 1 = _
    rw [z_shl (by omega), pk_sub p0]
  have m := Nat.mod_lt p p0
  have hd := Nat.div_add_mod p (2 ^ i)
  have le : 2 ^ i ≤ 2 ^ (i + 1) := Nat.pow_le_pow_right (by decide) (by omega)
  have e4 : nI p - nI (p % 2 ^ i) = nI (2 ^ i * (p / 2 ^ i)) := by
    rw [pk_sub (Nat.mod_le _ _)]
    congr 1; omega
  have e5 : nI (2 ^ i * (p / 2 ^ i)) <<< ((1 : Int32) &&& 31) = nI (2 ^ i * (p / 2 ^ i) * 2 ^ 1) := by
    show nI (2 ^ i * (p / 2 ^ i)) <<< (nI 1 &&& nI 31) = _
    exact z_shlN (by decide) (by omega)
  have e6 : 2 ^ i * (p / 2 ^ i) * 2 ^ 1 = 2 ^ (i + 1) * (p / 2 ^ i) := by
    have e7 : 2 ^ (i + 1) = 2 ^ i * 2 := Nat.pow_succ ..
    rw [e7, Nat.pow_one, Nat.mul_assoc, Nat.mul_comm (p / 2 ^ i) 2, ← Nat.mul_assoc]
  rw [e1, fa_and, Nat.and_two_pow_sub_one_eq_mod, e4, e5, e6, fa_or, Nat.or_comm, ← Nat.two_pow_add_eq_or_of_lt (by omega)]
theorem w_narrower {p i : Nat} (hp : p < 8192) (hi : i ≤ 12) : (nI p &&& (((1 : Int32) <<< (nI i &&& 31)) - 1)) ||| ((nI p >>> ((nI i + 1) &&& 31)) <<< (nI i &&& 31)) = nI (nw p i) := by
  have := r_narrower hp hi (P := fun x => x = nI (nw p i))
  unfold wp_X4_narrower at this
  exact this.mpr rfl
theorem r_drill {v : FX} {n kd fu p : Nat} {c : Nat → Nat} {w : Nat → Int32} (hC : Cok n c) (hk : kd < 3) (hB : Rb v.1 n c kd w) (h2 : v.1.1 2 = nI p) (hp : p < 2 ^ n) (o1 : okL v.2.1) (o2 : okL v.2.2.1) (hfu : 20000 ≤ fu) {x : Int32} {P : Int32 → FX → Prop}
    (hA : okb 25 x = false → P (nI 0) (sI v.1 5 (nI 1), v.2)) (hD : ∀ j, j < 25 → x = nI j → (mk c n).testBit j = true → P (nI 0) (sI v.1 5 (nI 2), v.2)) (hF : ∀ j, j < 25 → x = nI j → (mk c n).testBit j = false → n = 13 → P (nI 0) (sI v.1 5 (nI 3), v.2))
    (hP : ∀ j, j < 25 → x = nI j → (mk c n).testBit j = false → n < 13 → ∀ u w1 w2, Rb u (n + 1) (insC c (ix c n j) j) kd (insC w (ix c n j) 0) → Rin u (lns (insC c (ix c n j) j) (n + 1) kd) → u.1 2 = nI (wd p (ix c n j)) → u.1 3 = nI 0 → u.1 5 = nI 0 → okL w1 → w1.2.2.2.2.2 = 0 → okL w2 → w2.2.2.2.2.2 = 0 → P (nI (n + 1)) (u, w1, w2, v.2.2.2.1, v.2.2.2.2)) : wp_X4_drill fu v x P := by
  have hn := hC.1
  have h8 := pow_13 hn
  have f1 : ∀ (t : Nat), 0 < t → t < 2 ^ 31 → P (nI 0) (sI v.1 5 (nI t), v.2) → wp_X4_drill_J41 fu v x P (nI t) := fun t h0 ht h => by
    unfold wp_X4_drill_J41
    rw [r_failsN h0 ht]
    exact ⟨fun e => absurd e (by decide), fun _ => h⟩
  unfold wp_X4_drill
  rw [r_in (m := 25) (by decide) (by rfl)]
  refine ⟨fun h => ?_, fun h => ?_⟩
  · have h : okb 25 x = true := by
      cases e : okb 25 x
      · rw [e] at h; exact absurd rfl h
      · rfl
    obtain ⟨j, hj, ej⟩ := (okb_iff (by decide)).mp h
    rw [ej, r_isDrilled hC hB hfu hj, ← ej]
    refine ⟨fun hb => ?_, fun hb => ?_⟩
    · have hb : (mk c n).testBit j = false := (zb_0 _).mp hb
      rw [hB.1]
      refine ⟨fun h13 => ?_, fun h13 => ?_⟩
      · have h13 : n < 13 := by
          rcases Nat.lt_or_eq_of_le hn with d | d
          · exact d
          · rw [d] at h13; exact absurd rfl h13
        have hP := hP j hj ej hb h13
        have hC' := hC.ins hj h13 hb
        have hxb := mk_bit_f.mp hb
        have hi := ix_le c n j
        unfold wp_X4_drill_J41
        show wp_X4_fails v.1 (nI 0) _
        rw [r_fails0]
        refine ⟨fun _ => ?_, fun e => absurd rfl e⟩
        show wp_X4_drill_L54 x _ fu (v.1.1 0) (sI v.1 5 (nI 0), v.2)
        rw [hB.1]
        have key := fun (K : Int32 → FX → Prop) (hK : ∀ t : SX, t.1 = (sI v.1 5 (nI 0)).1 → (∀ q, ¬ q = 1 → ¬ q = 2 → t.2.1 q = v.1.2.1 q) → (∀ h, h < ix c n j → t.2.1 1 h = nI (c h) ∧ t.2.1 2 h = w h) → (∀ h, ix c n j < h → h ≤ n → t.2.1 1 h = nI (c (h - 1)) ∧ t.2.1 2 h = w (h - 1)) → K (nI (ix c n j)) (t, v.2)) =>
            lpd (Q := fun f i => i ≤ n → ix c n j ≤ i → ∀ t : SX, t.1 = (sI v.1 5 (nI 0)).1 → (∀ q, ¬ q = 1 → ¬ q = 2 → t.2.1 q = v.1.2.1 q) → (∀ h, h < i → t.2.1 1 h = nI (c h) ∧ t.2.1 2 h = w h) → (∀ h, i < h → h ≤ n → t.2.1 1 h = nI (c (h - 1)) ∧ t.2.1 2 h = w (h - 1)) → wp_X4_drill_L54 x K f (nI i) (t, v.2)) (by
          intro f hi0 hix t e1 e2 e3 e4
          rw [wp_X4_drill_L54]
          unfold wp_X4_drill_B54
          refine ⟨fun _ => ?_, fun q => absurd (by decide) q⟩
          have : ix c n j = 0 := by omega
          rw [this] at hK
          exact hK t e1 e2 (fun h hh => by omega) e4) (by
          intro f i ih hin hix t e1 e2 e3 e4
          rw [wp_X4_drill_L54]
          unfold wp_X4_drill_B54
          have hci := hC.2.1 i (by omega)
          have pr : nI (i + 1) - 1 = nI i := nI_pred i
          have pm : nI (i + 1) + (-1) = nI i := pk_m1 i
          refine ⟨fun q => absurd q (nI_nle (by omega) (by omega)), fun _ => ?_⟩
          rw [pr, pm]
          refine ⟨(z_in (by omega)).mpr (by omega), ?_⟩
          show ((t.2.1 1 (nI i).toNatClampNeg ≤ x → _) ∧ (¬ t.2.1 1 (nI i).toNatClampNeg ≤ x → _))
          rw [nI_clamp (show i < 2 ^ 31 by omega), (e3 i (by omega)).1, ej, nI_leI (by omega) (by omega)]
          refine ⟨fun q => ?_, fun q => ?_⟩
          · have hne := hxb i (by omega)
            have : i < ix c n j := (ix_cut hC (by omega)).mpr (by omega)
            have e : i + 1 = ix c n j := by omega
            rw [e] at e3 e4 ⊢
            exact hK t e1 e2 e3 e4
          · refine ⟨(z_in (by omega)).mpr (by omega), (z_in (by omega)).mpr (by omega), (z_in (by omega)).mpr (by omega), (z_in (by omega)).mpr (by omega), ?_⟩
            rw [nI_clamp (show i + 1 < 2 ^ 31 by omega)]
            have hnot : ¬ i < ix c n j := fun h => by
              have := (ix_cut hC (by omega)).mp h; omega
            rw [← ej]
            refine ih (by omega) (by omega) _ e1 (fun q h1 h2 => ?_) (fun h hh => ?_) (fun h h1 h2 => ?_)
            · rw [sA_ne h2, sA_ne h1]; exact e2 q h1 h2
            · show upd (t.2.1 1) (i + 1) _ h = _ ∧ upd (t.2.1 2) (i + 1) _ h = _
              rw [upd_ne (by omega), upd_ne (by omega)]
              exact e3 h (by omega)
            · show upd (t.2.1 1) (i + 1) (nI (c i)) h = _ ∧ upd (t.2.1 2) (i + 1) (t.2.1 2 i) h = _
              by_cases e : h = i + 1
              · rw [e, upd_eq, upd_eq, Nat.add_sub_cancel]
                exact ⟨rfl, (e3 i (by omega)).2⟩
              · rw [upd_ne e, upd_ne e]
                exact e4 h (by omega) h2)
        refine key _ (fun t e1 e2 e3 e4 => ?_) fu n (by omega) (Nat.le_refl _) hi _ rfl (fun q _ _ => rfl) (fun h hh => ⟨hB.2.2.2.1 h hh, hB.2.2.2.2 h hh⟩) (fun h h1 h2 => by omega)
        refine ⟨(z_in (by omega)).mpr (by omega), (z_in (by omega)).mpr (by omega), ?_⟩
        show wp_X4_wider (t.1 2) _ _
        have t2 : t.1 2 = nI p := by rw [e1, sI_ne (by decide)]; exact h2
        have t0 : t.1 0 = nI n := by rw [e1, sI_ne (by decide)]; exact hB.1
        have t4 : t.1 4 = nI kd := by rw [e1, sI_ne (by decide)]; exact hB.2.1
        rw [t2, r_wider (by omega) (by omega)]
        rw [nI_clamp (by omega)]
        refine r_numbers (v := (sI (sI (sA (sA t 1 (upd (t.2.1 1) (ix c n j) x)) 2 (upd (t.2.1 2) (ix c n j) 0)) 0 (t.1 0 + 1)) 2 (nI (wd p (ix c n j))), v.2)) (n := n + 1) (c := insC c (ix c n j) j) (w := insC w (ix c n j) 0) hC' hk ?_ ?_ ?_ ?_ o1 o2 hfu fun u w1 w2 g1 g2 g3 g4 g5 g6 g7 g8 g9 => ?_
        · show (sI _ 2 _).1 0 = _
          rw [sI_ne (by decide), sI_eq, t0]; exact nI_add n 1
        · show (sI _ 2 _).1 4 = _
          rw [sI_ne (by decide), sI_ne (by decide)]; exact t4
        · intro h hh
          show upd (t.2.1 1) (ix c n j) x h = _
          rcases Nat.lt_trichotomy h (ix c n j) with d | d | d
          · rw [upd_ne (by omega), ins_lt d]; exact (e3 h d).1
          · rw [d, upd_eq, ins_eq]; exact ej
          · rw [upd_ne (by omega), ins_gt d]; exact (e4 h d (by omega)).1
        · intro h hh
          show upd (t.2.1 2) (ix c n j) 0 h = _
          rcases Nat.lt_trichotomy h (ix c n j) with d | d | d
          · rw [upd_ne (by omega), ins_lt d]; exact (e3 h d).2
          · rw [d, upd_eq, ins_eq]
          · rw [upd_ne (by omega), ins_gt d]; exact (e4 h d (by omega)).2
        · rw [g1.1]
          refine hP u w1 w2 g1 g2 (g3.trans (sI_eq _ _ _)) g4 (g5.trans ?_) g6 g7 g8 g9
          show (sI _ 2 _).1 5 = _
          rw [sI_ne (by decide), sI_ne (by decide)]
          show t.1 5 = _
          rw [e1, sI_eq]
      · have h13 : n = 13 := (nI_eq (b := 13) (by omega) (by decide)).mp h13
        exact f1 3 (by decide) (by decide) (hF j hj ej hb h13)
    · have hb : (mk c n).testBit j = true := by
        cases e : (mk c n).testBit j
        · rw [e] at hb; exact absurd rfl hb
        · rfl
      exact f1 2 (by decide) (by decide) (hD j hj ej hb)
  · have h : okb 25 x = false := (zb_0 _).mp h
    exact f1 1 (by decide) (by decide) (hA h)
