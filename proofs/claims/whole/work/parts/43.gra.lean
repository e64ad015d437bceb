/-! ===== ways, what can be come to, values: the mathematics ===== -/
/-- how many ways lead from p to e (d: at least the pegs of p) -/
def wy (L : Ln) (e : Nat) : Nat → Nat → Nat
  | 0, p => if p = e then 1 else 0
  | d + 1, p => (if p = e then 1 else 0) + fb_sm (fun k => if can L p k = true then wy L e d (nx L p k) else 0) L.length
def Wy (L : Ln) (e p : Nat) : Nat := wy L e 13 p
theorem can_pc {n : Nat} {L : Ln} (hL : Lok n L) {p k : Nat} (hk : k < L.length) (hc : can L p k = true) : 1 ≤ pc (nx L p k) ∧ pc (nx L p k) + 1 = pc p := by
  have h := nx_pc hL hk hc
  refine ⟨?_, h⟩
  have hb := nx_bit hc (lT L k)
  obtain ⟨hn, -, hh, -⟩ := hL
  obtain ⟨a1, a2, a3, d1, d2, d3⟩ := hh k hk
  rw [if_neg (Ne.symm d2), if_neg (Ne.symm d3), if_pos rfl] at hb
  unfold pc
  exact fb_ct_pos.mpr ⟨lT L k, by omega, hb⟩
theorem wy_stable {n : Nat} {L : Ln} (hL : Lok n L) (e : Nat) : ∀ d p, pc p ≤ d → wy L e (d + 1) p = wy L e d p
  | 0, p, h => by
    have z : fb_sm (fun k => if can L p k = true then wy L e 0 (nx L p k) else 0) L.length = 0 := by
      rw [fb_sm_cong (g := fun _ => 0) (fun k hk => by
        by_cases hc : can L p k = true
        · have := can_pc hL hk hc; omega
        · rw [if_neg hc]), fb_sm_const]
      omega
    show (if p = e then 1 else 0) + fb_sm _ _ = if p = e then 1 else 0
    rw [z]
    rfl
  | d + 1, p, h => by
    show (if p = e then 1 else 0) + fb_sm _ _ = (if p = e then 1 else 0) + fb_sm _ _
    congr 1
    apply fb_sm_cong
    intro k hk
    by_cases hc : can L p k = true
    · have := can_pc hL hk hc
      rw [if_pos hc, if_pos hc, wy_stable hL e d _ (by omega)]
    · rw [if_neg hc, if_neg hc]
theorem Wy_eq {n : Nat} {L : Ln} (hL : Lok n L) (e : Nat) {p : Nat} (hp : p < 2 ^ n) : Wy L e p = (if p = e then 1 else 0) + fb_sm (fun k => if can L p k = true then Wy L e (nx L p k) else 0) L.length := by
  have h := pc_le hp (by have := hL.1; omega)
  have hn := hL.1
  have := wy_stable hL e 13 p (by omega)
  unfold Wy
  rw [← this]
  rfl
theorem Wy_self {n : Nat} {L : Ln} (hL : Lok n L) {p : Nat} (hp : p < 2 ^ n) : 1 ≤ Wy L p p := by
  rw [Wy_eq hL p hp, if_pos rfl]
  omega
/-- e can be come to from p -/
def Rc (L : Ln) (p e : Nat) : Prop := 0 < Wy L e p
theorem sm_pos {f : Nat → Nat} {n : Nat} : 0 < fb_sm f n ↔ ∃ k, k < n ∧ 0 < f k := by
  constructor
  · intro h
    refine Classical.byContradiction fun q => ?_
    have : fb_sm f n = 0 := by
      rw [fb_sm_cong (g := fun _ => 0) (fun k hk => by
        rcases Nat.eq_zero_or_pos (f k) with z | z
        · exact z
        · exact absurd ⟨k, hk, z⟩ q), fb_sm_const]
      omega
    omega
  · rintro ⟨k, hk, h⟩
    have := fb_sm_part f hk
    omega
theorem Rc_iff {n : Nat} {L : Ln} (hL : Lok n L) {p e : Nat} (hp : p < 2 ^ n) : Rc L p e ↔ p = e ∨ ∃ k, k < L.length ∧ can L p k = true ∧ Rc L (nx L p k) e := by
  unfold Rc
  rw [Wy_eq hL e hp]
  constructor
  · intro h
    by_cases q : p = e
    · exact Or.inl q
    · right
      rw [if_neg q, Nat.zero_add] at h
      obtain ⟨k, hk, h⟩ := sm_pos.mp h
      by_cases hc : can L p k = true
      · rw [if_pos hc] at h
        exact ⟨k, hk, hc, h⟩
      · rw [if_neg hc] at h
        omega
  · rintro (q | ⟨k, hk, hc, h⟩)
    · rw [if_pos q]; omega
    · have := sm_pos (f := fun k => if can L p k = true then Wy L e (nx L p k) else 0) (n := L.length) |>.mpr ⟨k, hk, by simp only [hc, if_true]; exact h⟩
      omega
theorem Rc_refl {n : Nat} {L : Ln} (hL : Lok n L) {p : Nat} (hp : p < 2 ^ n) : Rc L p p := (Rc_iff hL hp).mpr (Or.inl rfl)
theorem Rc_lt {n : Nat} {L : Ln} (hL : Lok n L) : ∀ (d : Nat) {p e : Nat}, pc p ≤ d → p < 2 ^ n → Rc L p e → e < 2 ^ n ∧ (e = p ∨ pc e < pc p)
  | d, p, e, hd, hp, h => by
    rcases (Rc_iff hL hp).mp h with q | ⟨k, hk, hc, h⟩
    · subst q; exact ⟨hp, Or.inl rfl⟩
    · have h1 := can_pc hL hk hc
      match d, hd with
      | 0, hd => omega
      | d + 1, hd =>
        have h2 := Rc_lt hL d (by omega) (nx_lt hL hk hp) h
        refine ⟨h2.1, Or.inr ?_⟩
        rcases h2.2 with q | q
        · rw [q]; omega
        · omega
theorem Rc_snoc {n : Nat} {L : Ln} (hL : Lok n L) : ∀ (d : Nat) {s p k : Nat}, pc s ≤ d → s < 2 ^ n → Rc L s p → k < L.length → can L p k = true → Rc L s (nx L p k)
  | d, s, p, k, hd, hs, h, hk, hc => by
    rcases (Rc_iff hL hs).mp h with q | ⟨j, hj, hcj, h⟩
    · subst q
      exact (Rc_iff hL hs).mpr (Or.inr ⟨k, hk, hc, Rc_refl hL (nx_lt hL hk hs)⟩)
    · have h1 := can_pc hL hj hcj
      match d, hd with
      | 0, hd => omega
      | d + 1, hd =>
        exact (Rc_iff hL hs).mpr (Or.inr ⟨j, hj, hcj, Rc_snoc hL d (by omega) (nx_lt hL hj hs) h hk hc⟩)
theorem Rc_last {n : Nat} {L : Ln} (hL : Lok n L) : ∀ (d : Nat) {s q : Nat}, pc s ≤ d → s < 2 ^ n → Rc L s q → q = s ∨ ∃ p k, p < 2 ^ n ∧ Rc L s p ∧ k < L.length ∧ can L p k = true ∧ nx L p k = q
  | d, s, q, hd, hs, h => by
    rcases (Rc_iff hL hs).mp h with e | ⟨j, hj, hcj, h⟩
    · exact Or.inl e.symm
    · right
      have h1 := can_pc hL hj hcj
      match d, hd with
      | 0, hd => omega
      | d + 1, hd =>
        rcases Rc_last hL d (by omega) (nx_lt hL hj hs) h with e | ⟨p, k, a1, a2, a3, a4, a5⟩
        · exact ⟨s, j, hs, Rc_refl hL hs, hj, hcj, e.symm⟩
        · exact ⟨p, k, a1, (Rc_iff hL hs).mpr (Or.inr ⟨j, hj, hcj, a2⟩), a3, a4, a5⟩
/-! the number of ways is small -/
/-- jumps that can be made -/
def J (L : Ln) (p : Nat) : Nat := fb_ct (can L p) L.length
theorem ct_pairs (cn : Nat → Bool) (q : Nat → Nat → Bool) (f g : Nat → Nat) (A B : Nat) : ∀ m, (∀ k, k < m → cn k = true → f k < A ∧ g k < B ∧ q (f k) (g k) = true) → (∀ j k, j < k → k < m → ¬ (f j = f k ∧ g j = g k)) → fb_ct cn m ≤ fb_sm (fun a => fb_ct (q a) B) A
  | 0, _, _ => Nat.zero_le _
  | m + 1, h, h2 => by
    rw [fb_ct_succ]
    by_cases hm : cn m = true
    · have a := h m (by omega) hm
      have ih := ct_pairs cn (fun x y => if y = g m then (if x = f m then false else q x y) else q x y) f g A B m (fun k hk hck => by
        have b := h k (by omega) hck
        refine ⟨b.1, b.2.1, ?_⟩
        have c := h2 k m hk (by omega)
        by_cases e1 : g k = g m
        · by_cases e2 : f k = f m
          · exact absurd ⟨e2, e1⟩ c
          · simp only [e1, e2, if_true, if_false]; rw [← e1]; exact b.2.2
        · simp only [e1, if_false]; exact b.2.2) (fun j k hj hk => h2 j k hj (by omega))
      have u := fb_ct_upd (q (f m)) false (i := g m) (n := B) a.2.1
      have e : ∀ x, x < A → fb_ct (fun y => if y = g m then (if x = f m then false else q x y) else q x y) B = (fun x => if x = f m then fb_ct (fun k => if k = g m then false else q (f m) k) B else fb_ct (q x) B) x := by
        intro x _
        by_cases e2 : x = f m
        · subst e2; simp only [if_true]
        · simp only [if_neg e2]
          congr 1
          funext y
          by_cases e3 : y = g m
          · simp only [e3, if_true]
          · simp only [e3, if_false]
      have v := fb_sm_upd (fun x => fb_ct (q x) B) (fb_ct (fun k => if k = g m then false else q (f m) k) B) (i := f m) (n := A) a.1
      rw [fb_sm_cong e] at ih
      simp only [a.2.2, if_true, Bool.false_eq_true, if_false, Nat.add_zero] at u
      simp only [hm, if_true]
      omega
    · have ih := ct_pairs cn q f g A B m (fun k hk => h k (by omega)) (fun j k hj hk => h2 j k hj (by omega))
      simp only [hm]
      simp
      omega
theorem pc_13 {p : Nat} (hp : p < 8192) : pc p = fb_ct (fun i => p.testBit i) 13 := by
  unfold pc
  rw [show (32 : Nat) = 13 + 19 from rfl, fb_ct_split]
  have z : fb_ct (fun k => p.testBit (13 + k)) 19 = 0 := fb_ct_zero.mpr fun k _ => tb_lt (n := 13) hp (by omega)
  omega
theorem J_le {n : Nat} {L : Ln} (hL : Lok n L) {p : Nat} (hp : p < 2 ^ n) : J L p ≤ pc p * (13 - pc p) := by
  have h8 := pow_13 hL.1
  have h := ct_pairs (can L p) (fun a b => p.testBit a && !p.testBit b) (lF L) (lT L) 13 13 L.length (fun k hk hc => by
    obtain ⟨a1, a2, a3, -⟩ := hL.2.2.1 k hk
    have hn := hL.1
    unfold can at hc
    simp only [Bool.and_eq_true] at hc
    refine ⟨by omega, by omega, ?_⟩
    simp only [Bool.and_eq_true]
    exact ⟨hc.1.1, hc.2⟩) (fun j k hj hk e => by
    have := hL.2.2.2 j k (by omega) hk e.1 e.2
    omega)
  have e : fb_sm (fun a => fb_ct (fun b => p.testBit a && !p.testBit b) 13) 13 = fb_sm (fun a => if p.testBit a = true then 13 - pc p else 0) 13 := by
    apply fb_sm_cong
    intro a _
    have := fb_ct_not (fun i => p.testBit i) 13
    rw [← pc_13 (by omega)] at this
    cases p.testBit a
    · simp only [Bool.false_and, Bool.false_eq_true, if_false]
      exact fb_ct_zero.mpr fun _ _ => rfl
    · simp only [Bool.true_and, if_true]
      omega
  have e2 : ∀ (x N : Nat), fb_sm (fun a => if p.testBit a = true then x else 0) N = fb_ct (fun i => p.testBit i) N * x := by
    intro x N
    induction N with
    | zero => exact (Nat.zero_mul _).symm
    | succ N ih =>
      rw [fb_sm_succ, fb_ct_succ, ih, Nat.add_mul]
      cases p.testBit N <;> simp
  unfold J
  rw [e, e2, ← pc_13 (by omega)] at h
  exact h
def bd : Nat → Nat
  | 0 => 1
  | k + 1 => 1 + (k + 1) * (12 - k) * bd k
theorem bd_lt : ∀ k, k < 14 → bd k < 2 ^ 62 := by decide +kernel
theorem Wy_bd {n : Nat} {L : Ln} (hL : Lok n L) (e : Nat) : ∀ (d : Nat) {p : Nat}, pc p = d → p < 2 ^ n → Wy L e p ≤ bd d
  | d, p, hd, hp => by
    rw [Wy_eq hL e hp]
    have hJ := J_le hL hp
    have s : ∀ m, m ≤ L.length → fb_sm (fun k => if can L p k = true then Wy L e (nx L p k) else 0) m ≤ fb_ct (can L p) m * bd (d - 1) := by
      intro m
      induction m with
      | zero => intro _; exact Nat.zero_le _
      | succ m ih =>
        intro hm
        have ih := ih (by omega)
        rw [fb_sm_succ, fb_ct_succ]
        by_cases hc : can L p m = true
        · rw [if_pos hc, if_pos hc, Nat.add_mul, Nat.one_mul]
          have h1 := can_pc hL (by omega) hc
          match d, hd with
          | 0, hd => omega
          | d + 1, hd =>
            have := Wy_bd hL e d (p := nx L p m) (by omega) (nx_lt hL (by omega) hp)
            simp only [Nat.add_sub_cancel] at ih ⊢
            omega
        · rw [if_neg hc, if_neg hc]
          omega
    have s := s L.length (Nat.le_refl _)
    have hi : (if p = e then 1 else 0) ≤ 1 := by split <;> omega
    unfold J at hJ
    match d, hd with
    | 0, hd =>
      rw [hd, Nat.zero_mul] at hJ
      have z : fb_ct (can L p) L.length = 0 := by omega
      rw [z, Nat.zero_mul] at s
      show _ ≤ 1
      omega
    | d + 1, hd =>
      show _ ≤ 1 + (d + 1) * (12 - d) * bd d
      have hm : fb_ct (can L p) L.length * bd d ≤ (d + 1) * (12 - d) * bd d := by
        apply Nat.mul_le_mul_right
        rw [hd] at hJ
        have : 13 - (d + 1) = 12 - d := by omega
        rw [this] at hJ
        exact hJ
      simp only [Nat.add_sub_cancel] at s
      omega
theorem Wy_lt {n : Nat} {L : Ln} (hL : Lok n L) (e : Nat) {p : Nat} (hp : p < 2 ^ n) : Wy L e p < 2 ^ 62 := by
  have h := pc_le hp (by have := hL.1; omega)
  have hn := hL.1
  exact Nat.lt_of_le_of_lt (Wy_bd hL e (pc p) rfl hp) (bd_lt _ (by omega))
/-! what the first i of a row hold -/
def vis (f : Nat → Nat) : Nat → Nat → Bool
  | 0, _ => false
  | i + 1, q => vis f i q || decide (f i = q)
theorem vis_iff (f : Nat → Nat) (q : Nat) : ∀ i, vis f i q = true ↔ ∃ j, j < i ∧ f j = q
  | 0 => by simp [vis]
  | i + 1 => by
    unfold vis
    rw [Bool.or_eq_true, vis_iff f q i, decide_eq_true_iff]
    constructor
    · rintro (⟨j, h1, h2⟩ | h)
      · exact ⟨j, by omega, h2⟩
      · exact ⟨i, by omega, h⟩
    · rintro ⟨j, h1, h2⟩
      rcases Nat.lt_or_ge j i with h | h
      · exact Or.inl ⟨j, h, h2⟩
      · have : j = i := by omega
        subst this
        exact Or.inr h2
theorem vis_cong {f g : Nat → Nat} {i : Nat} (h : ∀ j, j < i → f j = g j) (q : Nat) : vis f i q = vis g i q := by
  cases e : vis g i q
  · cases e2 : vis f i q
    · rfl
    · obtain ⟨j, h1, h2⟩ := (vis_iff f q i).mp e2
      have := (vis_iff g q i).mpr ⟨j, h1, by rw [← h j h1]; exact h2⟩
      rw [e] at this
      exact absurd this (by decide)
  · obtain ⟨j, h1, h2⟩ := (vis_iff g q i).mp e
    exact (vis_iff f q i).mpr ⟨j, h1, by rw [h j h1]; exact h2⟩
theorem sm_vis (g f : Nat → Nat) (N : Nat) : ∀ i, (∀ j, j < i → f j < N) → (∀ j k, j < k → k < i → f j ≠ f k) → fb_sm (fun j => g (f j)) i = fb_sm (fun q => if vis f i q = true then g q else 0) N
  | 0, _, _ => by
    have : fb_sm (fun q => if vis f 0 q = true then g q else 0) N = 0 := by
      have := fb_sm_cong (f := fun q => if vis f 0 q = true then g q else 0) (g := fun _ => 0) (n := N) (fun q _ => rfl)
      rw [this, fb_sm_const, Nat.mul_zero]
    rw [this]
    rfl
  | i + 1, h, h2 => by
    have ih := sm_vis g f N i (fun j hj => h j (by omega)) (fun j k hj hk => h2 j k hj (by omega))
    have nv : vis f i (f i) = false := by
      cases e : vis f i (f i)
      · rfl
      · obtain ⟨j, h3, h4⟩ := (vis_iff f (f i) i).mp e
        exact absurd h4 (h2 j i h3 (by omega))
    have u := fb_sm_upd (fun q => if vis f i q = true then g q else 0) (g (f i)) (i := f i) (n := N) (h i (by omega))
    rw [fb_sm_succ, ih]
    have e : fb_sm (fun q => if vis f (i + 1) q = true then g q else 0) N = fb_sm (fun k => if k = f i then g (f i) else if vis f i k = true then g k else 0) N := by
      apply fb_sm_cong
      intro q _
      show (if (vis f i q || decide (f i = q)) = true then g q else 0) = _
      by_cases e : q = f i
      · subst e; rw [decide_eq_true rfl, Bool.or_true, if_pos rfl, if_pos rfl]
      · rw [decide_eq_false (fun h => e h.symm), Bool.or_false, if_neg e]
    rw [e]
    simp only [nv, Bool.false_eq_true, if_false, Nat.add_zero] at u
    omega
theorem ct_sm (p : Nat → Bool) : ∀ n, fb_ct p n = fb_sm (fun k => if p k = true then 1 else 0) n
  | 0 => rfl
  | n + 1 => by rw [fb_ct_succ, fb_sm_succ, ct_sm p n]
theorem ct_vis (h : Nat → Bool) (f : Nat → Nat) (N i : Nat) (h1 : ∀ j, j < i → f j < N) (h2 : ∀ j k, j < k → k < i → f j ≠ f k) : fb_ct (fun j => h (f j)) i = fb_ct (fun q => vis f i q && h q) N := by
  rw [ct_sm, ct_sm, sm_vis (fun q => if h q = true then 1 else 0) f N i h1 h2]
  apply fb_sm_cong
  intro q _
  cases vis f i q <;> simp
