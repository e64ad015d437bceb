/-! ===== the class's figures of a walk are the reference's ===== -/
theorem mnS_iff (st : Nat) (f : Nat → Nat) (x : Nat) : ∀ i, x ≤ mnS st f i ↔ x ≤ pc st ∧ ∀ j, j < i → x ≤ pc (f j)
  | 0 => ⟨fun h => ⟨h, fun j hj => by omega⟩, fun h => h.1⟩
  | i + 1 => by
    have ih := mnS_iff st f x i
    unfold mnS
    rw [Nat.le_min, ih]
    constructor
    · rintro ⟨⟨h1, h2⟩, h3⟩
      refine ⟨h1, fun j hj => ?_⟩
      rcases Nat.lt_or_eq_of_le (Nat.lt_succ_iff.mp hj) with d | d
      · exact h2 j d
      · rw [d]; exact h3
    · rintro ⟨h1, h2⟩
      exact ⟨⟨h1, fun j hj => h2 j (by omega)⟩, h2 i (by omega)⟩
theorem mnR_iff (L : Ln) (st x : Nat) : ∀ i, x ≤ mnR L st i ↔ x ≤ 13 ∧ ∀ q, q < i → rb L st q = true → x ≤ pc q
  | 0 => ⟨fun h => ⟨h, fun j hj => by omega⟩, fun h => h.1⟩
  | i + 1 => by
    have ih := mnR_iff L st x i
    unfold mnR
    by_cases hb : rb L st i = true
    · rw [if_pos hb, Nat.le_min, ih]
      constructor
      · rintro ⟨⟨h1, h2⟩, h3⟩
        refine ⟨h1, fun j hj hbj => ?_⟩
        rcases Nat.lt_or_eq_of_le (Nat.lt_succ_iff.mp hj) with d | d
        · exact h2 j d hbj
        · rw [d]; exact h3
      · rintro ⟨h1, h2⟩
        exact ⟨⟨h1, fun j hj => h2 j (by omega)⟩, h2 i (by omega) hb⟩
    · rw [if_neg hb, ih]
      constructor
      · rintro ⟨h1, h2⟩
        refine ⟨h1, fun j hj hbj => ?_⟩
        rcases Nat.lt_or_eq_of_le (Nat.lt_succ_iff.mp hj) with d | d
        · exact h2 j d hbj
        · rw [d] at hbj; exact absurd hbj hb
      · rintro ⟨h1, h2⟩
        exact ⟨h1, fun j hj => h2 j (by omega)⟩
theorem orS_bit (f : Nat → Nat) (b : Nat) : ∀ i, (orS f i).testBit b = true ↔ ∃ j, j < i ∧ (f j).testBit b = true
  | 0 => ⟨fun h => by rw [orS, Nat.zero_testBit] at h; exact absurd h (by decide), fun ⟨j, hj, _⟩ => by omega⟩
  | i + 1 => by
    have ih := orS_bit f b i
    unfold orS
    rw [Nat.testBit_or, Bool.or_eq_true, ih]
    constructor
    · rintro (⟨j, h1, h2⟩ | h)
      · exact ⟨j, by omega, h2⟩
      · exact ⟨i, by omega, h⟩
    · rintro ⟨j, h1, h2⟩
      rcases Nat.lt_or_eq_of_le (Nat.lt_succ_iff.mp h1) with d | d
      · exact Or.inl ⟨j, d, h2⟩
      · rw [d] at h2; exact Or.inr h2
theorem orR_bit (L : Ln) (st b : Nat) : ∀ i, (orR L st i).testBit b = true ↔ ∃ q, q < i ∧ rb L st q = true ∧ q.testBit b = true
  | 0 => ⟨fun h => by rw [orR, Nat.zero_testBit] at h; exact absurd h (by decide), fun ⟨j, hj, _⟩ => by omega⟩
  | i + 1 => by
    have ih := orR_bit L st b i
    unfold orR
    by_cases hb : rb L st i = true
    · rw [if_pos hb, Nat.testBit_or, Bool.or_eq_true, ih]
      constructor
      · rintro (⟨j, h1, h2⟩ | h)
        · exact ⟨j, by omega, h2⟩
        · exact ⟨i, by omega, hb, h⟩
      · rintro ⟨j, h1, h2, h3⟩
        rcases Nat.lt_or_eq_of_le (Nat.lt_succ_iff.mp h1) with d | d
        · exact Or.inl ⟨j, d, h2, h3⟩
        · rw [d] at h3; exact Or.inr h3
    · rw [if_neg hb, ih]
      constructor
      · rintro ⟨j, h1, h2⟩
        exact ⟨j, by omega, h2⟩
      · rintro ⟨j, h1, h2, h3⟩
        rcases Nat.lt_or_eq_of_le (Nat.lt_succ_iff.mp h1) with d | d
        · exact ⟨j, d, h2, h3⟩
        · rw [d] at h2; exact absurd h2 hb
theorem rwM_iff (c : Nat → Nat) (t x : Nat) : ∀ i, x ≤ rwM c t i ↔ x ≤ 5 ∧ ∀ h, h < i → t.testBit h = true → x ≤ c h / 5
  | 0 => ⟨fun h => ⟨h, fun j hj => by omega⟩, fun h => h.1⟩
  | i + 1 => by
    have ih := rwM_iff c t x i
    unfold rwM
    by_cases hb : t.testBit i = true
    · rw [if_pos hb, Nat.le_min, ih]
      constructor
      · rintro ⟨⟨h1, h2⟩, h3⟩
        refine ⟨h1, fun j hj hbj => ?_⟩
        rcases Nat.lt_or_eq_of_le (Nat.lt_succ_iff.mp hj) with d | d
        · exact h2 j d hbj
        · rw [d]; exact h3
      · rintro ⟨h1, h2⟩
        exact ⟨⟨h1, fun j hj => h2 j (by omega)⟩, h2 i (by omega) hb⟩
    · rw [if_neg hb, ih]
      constructor
      · rintro ⟨h1, h2⟩
        refine ⟨h1, fun j hj hbj => ?_⟩
        rcases Nat.lt_or_eq_of_le (Nat.lt_succ_iff.mp hj) with d | d
        · exact h2 j d hbj
        · rw [d] at hbj; exact absurd hbj hb
      · rintro ⟨h1, h2⟩
        exact ⟨h1, fun j hj => h2 j (by omega)⟩
theorem Ws.out {σ : SX} {n : Nat} {L : Ln} {st : Nat} (hL : Lok n L) (h : Ws σ n L st) : σ.1 7 = nI (fb_ct (rb L st) (2 ^ n)) ∧ σ.1 9 = nI (fb_ct (fun q => rb L st q && decide (J L q = 0)) (2 ^ n)) ∧ σ.1 10 = nI (mnR L st (2 ^ n)) ∧ σ.1 11 = nI (orR L st (2 ^ n)) ∧ σ.1 12 = nI (fb_sm (fun q => if rb L st q = true then J L q else 0) (2 ^ n)) ∧ ∀ q, q < 2 ^ n → σ.2.2 q = lN (Wy L q st) := by
  obtain ⟨sz, f, hz, ⟨d1, d2, d3, d4, d5, d6, d7, d8, d9, d10⟩, -⟩ := h
  have hv : ∀ q, q < 2 ^ n → vis f sz q = rb L st q := fun q hq => by
    cases hb : rb L st q
    · cases hv : vis f sz q
      · rfl
      · have := (rb_iff _ _ _).mpr ((d6 q hq).mpr ((vis_iff f q sz).mp hv))
        rw [hb] at this; cases this
    · exact (vis_iff f q sz).mpr ((d6 q hq).mp ((rb_iff _ _ _).mp hb))
  have hinj : ∀ j k, j < k → k < sz → f j ≠ f k := fun j k hj hk => (d4 j k hj hk).1
  have hst13 : pc st ≤ 13 := by
    have := pc_le d1 (by have := hL.1; omega)
    have := hL.1
    omega
  have hrs : rb L st st = true := (rb_iff _ _ _).mpr (Rc_refl hL d1)
  refine ⟨?_, ?_, ?_, ?_, ?_, d5⟩
  · rw [hz.1]
    congr 1
    have := ct_vis (fun _ => true) f (2 ^ n) sz d3 hinj
    rw [fb_ct_all.mpr (fun _ _ => rfl)] at this
    rw [this]
    exact fb_ct_cong fun q hq => by rw [hv q hq, Bool.and_true]
  · rw [d7]
    congr 1
    rw [ct_vis (fun q => decide (J L q = 0)) f (2 ^ n) sz d3 hinj]
    exact fb_ct_cong fun q hq => by rw [hv q hq]
  · rw [d8]
    congr 1
    have key : ∀ x, x ≤ mnS st f sz ↔ x ≤ mnR L st (2 ^ n) := by
      intro x
      rw [mnS_iff, mnR_iff]
      constructor
      · rintro ⟨h1, h2⟩
        refine ⟨by omega, fun q hq hb => ?_⟩
        obtain ⟨j, hj, e⟩ := (d6 q hq).mp ((rb_iff _ _ _).mp hb)
        rw [← e]; exact h2 j hj
      · rintro ⟨h1, h2⟩
        exact ⟨h2 st d1 hrs, fun j hj => h2 (f j) (d3 j hj) ((rb_iff _ _ _).mpr ((d6 _ (d3 j hj)).mpr ⟨j, hj, rfl⟩))⟩
    have a := (key (mnS st f sz)).mp (Nat.le_refl _)
    have b := (key (mnR L st (2 ^ n))).mpr (Nat.le_refl _)
    omega
  · rw [d9]
    congr 1
    apply Nat.eq_of_testBit_eq
    intro b
    have key : (orS f sz).testBit b = true ↔ (orR L st (2 ^ n)).testBit b = true := by
      rw [orS_bit, orR_bit]
      constructor
      · rintro ⟨j, hj, h⟩
        exact ⟨f j, d3 j hj, (rb_iff _ _ _).mpr ((d6 _ (d3 j hj)).mpr ⟨j, hj, rfl⟩), h⟩
      · rintro ⟨q, hq, hb, h⟩
        obtain ⟨j, hj, e⟩ := (d6 q hq).mp ((rb_iff _ _ _).mp hb)
        exact ⟨j, hj, by rw [e]; exact h⟩
    cases h1 : (orS f sz).testBit b <;> cases h2 : (orR L st (2 ^ n)).testBit b
    · rfl
    · rw [h1, h2] at key; exact absurd (key.mpr rfl) (by decide)
    · rw [h1, h2] at key; exact absurd (key.mp rfl) (by decide)
    · rfl
  · rw [d10]
    congr 1
    rw [sm_vis (J L) f (2 ^ n) sz d3 hinj]
    exact fb_sm_cong fun q hq => by rw [hv q hq]
theorem Wl.fig {σ : SX} {n : Nat} {L : Ln} {st e : Nat} (h : Wl σ n L st e) {q : Nat} (hq : q < 2 ^ n) (hr : Rc L st q) : σ.2.1 7 q = zb (rb L q e) := by
  obtain ⟨sz, f, hz, hd, -, -, hf⟩ := h
  obtain ⟨j, hj, e⟩ := (hd.2.2.2.2.2.1 q hq).mp hr
  rw [← e]; exact hf j hj
theorem Wv.fig {σ : SX} {n : Nat} {L : Ln} {st : Nat} (h : Wv σ n L st) {q : Nat} (hq : q < 2 ^ n) (hr : Rc L st q) : σ.2.1 7 q = nI (Gv L q) := by
  obtain ⟨sz, f, hz, hd, -, hf⟩ := h
  obtain ⟨j, hj, e⟩ := (hd.2.2.2.2.2.1 q hq).mp hr
  rw [← e]; exact hf j hj
