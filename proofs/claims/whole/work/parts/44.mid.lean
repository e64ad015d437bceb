/-! ===== a walk half done: the mathematics ===== -/
/-- sums of a walk: positions behind us count where they are the end, those ahead by the ways on from them -/
def trm (L : Ln) (e : Nat) (f wn : Nat → Nat) (i q : Nat) : Nat := if vis f i q = true then (if q = e then wn q else 0) else wn q * Wy L e q
def trx (L : Ln) (e : Nat) (f wn : Nat → Nat) (i p q : Nat) : Nat := if q = p then 0 else trm L e f wn i q
def pfx (L : Ln) (e p k : Nat) : Nat := fb_sm (fun k => if can L p k = true then Wy L e (nx L p k) else 0) k
/-- the row of what was found -/
def Fnd (n sz : Nat) (f wn : Nat → Nat) : Prop := (∀ j, j < sz → f j < 2 ^ n) ∧ (∀ j k, j < k → k < sz → f j ≠ f k ∧ pc (f k) ≤ pc (f j)) ∧ (∀ q, wn q = 0 ↔ ∀ j, j < sz → f j ≠ q)
def MidP (n : Nat) (L : Ln) (st i sz : Nat) (f wn : Nat → Nat) : Prop := i ≤ sz ∧ Fnd n sz f wn ∧ (i < sz → ∀ j, j < sz → pc (f i) ≤ pc (f j) + 1) ∧ ∀ e, e < 2 ^ n → fb_sm (trm L e f wn i) (2 ^ n) = Wy L e st
def MidV (n : Nat) (L : Ln) (st i sz : Nat) (f wn : Nat → Nat) (k : Nat) : Prop := i < sz ∧ Fnd n sz f wn ∧ (∀ j, j < sz → pc (f i) ≤ pc (f j) + 1) ∧ ∀ e, e < 2 ^ n → fb_sm (trx L e f wn i (f i)) (2 ^ n) + wn (f i) * Wy L e (f i) = Wy L e st + wn (f i) * pfx L e (f i) k
theorem Fnd_sz {n sz : Nat} {f wn : Nat → Nat} (h : Fnd n sz f wn) : sz ≤ 2 ^ n := fb_holes (2 ^ n) sz f h.1 (fun j k hj hk => (h.2.1 j k hj hk).1)
theorem Fnd_nvis {n sz : Nat} {f wn : Nat → Nat} (h : Fnd n sz f wn) {i q : Nat} (hi : i < sz) (hq : pc q < pc (f i)) : vis f i q = false := by
  cases e : vis f i q
  · rfl
  · obtain ⟨j, h1, h2⟩ := (vis_iff f q i).mp e
    have := (h.2.1 j i h1 hi).2
    rw [h2] at this
    omega
theorem Fnd_nvis_self {n sz : Nat} {f wn : Nat → Nat} (h : Fnd n sz f wn) {i : Nat} (hi : i < sz) : vis f i (f i) = false := by
  cases e : vis f i (f i)
  · rfl
  · obtain ⟨j, h1, h2⟩ := (vis_iff f (f i) i).mp e
    exact absurd h2 (h.2.1 j i h1 hi).1
theorem MidP_V {n : Nat} {L : Ln} {st i sz : Nat} {f wn : Nat → Nat} (h : MidP n L st i sz f wn) (hi : i < sz) : MidV n L st i sz f wn 0 := by
  obtain ⟨h1, hF, h3, h4⟩ := h
  refine ⟨hi, hF, h3 hi, fun e he => ?_⟩
  have h4 := h4 e he
  have hfi := hF.1 i hi
  have hv := Fnd_nvis_self hF hi
  have u := fb_sm_upd (trm L e f wn i) 0 (i := f i) (n := 2 ^ n) hfi
  have e2 : trm L e f wn i (f i) = wn (f i) * Wy L e (f i) := by unfold trm; rw [hv]; rfl
  have e3 : fb_sm (trx L e f wn i (f i)) (2 ^ n) = fb_sm (fun k => if k = f i then 0 else trm L e f wn i k) (2 ^ n) := rfl
  have e4 : pfx L e (f i) 0 = 0 := rfl
  rw [e4, Nat.mul_zero, e3]
  omega
theorem MidV_le {n : Nat} {L : Ln} (hL : Lok n L) {st i sz k : Nat} {f wn : Nat → Nat} (h : MidV n L st i sz f wn k) (hk : k ≤ L.length) {q : Nat} (hq : q < 2 ^ n) (hq2 : pc q < pc (f i)) : wn q ≤ Wy L q st := by
  obtain ⟨h1, hF, h3, h4⟩ := h
  have h4 := h4 q hq
  have hv := Fnd_nvis hF h1 hq2
  have hne : q ≠ f i := fun e => by rw [e] at hq2; omega
  have hp := fb_sm_part (trx L q f wn i (f i)) hq
  have e1 : trx L q f wn i (f i) q = wn q * Wy L q q := by unfold trx trm; rw [if_neg hne, hv]; rfl
  have hs := Wy_self hL hq
  have hm : wn q * 1 ≤ wn q * Wy L q q := Nat.mul_le_mul_left _ hs
  have hx : pfx L q (f i) k ≤ Wy L q (f i) := by
    rw [Wy_eq hL q (hF.1 i h1)]
    unfold pfx
    obtain ⟨d, hd⟩ : ∃ d, L.length = k + d := ⟨L.length - k, by omega⟩
    have := fb_sm_mono (fun k => if can L (f i) k = true then Wy L q (nx L (f i) k) else 0) k d
    rw [← hd] at this
    omega
  have hx2 := Nat.mul_le_mul_left (wn (f i)) hx
  omega
theorem MidV_no {n : Nat} {L : Ln} {st i sz k : Nat} {f wn : Nat → Nat} (h : MidV n L st i sz f wn k) (hc : ¬ can L (f i) k = true) : MidV n L st i sz f wn (k + 1) := by
  obtain ⟨h1, hF, h3, h4⟩ := h
  refine ⟨h1, hF, h3, fun e he => ?_⟩
  rw [h4 e he]
  unfold pfx
  rw [fb_sm_succ, if_neg hc]
  rfl
theorem MidV_yes {n : Nat} {L : Ln} (hL : Lok n L) {st i sz k : Nat} {f wn : Nat → Nat} (h : MidV n L st i sz f wn k) (hk : k < L.length) (hc : can L (f i) k = true) :
    MidV n L st i (if wn (nx L (f i) k) = 0 then sz + 1 else sz) (if wn (nx L (f i) k) = 0 then upN f sz (nx L (f i) k) else f) (upN wn (nx L (f i) k) (wn (nx L (f i) k) + wn (f i))) (k + 1) := by
  have h0 := h
  obtain ⟨h1, hF, h3, h4⟩ := h
  have hfi := hF.1 i h1
  have hp := can_pc hL hk hc
  have hq := nx_lt hL hk hfi
  revert hp hq
  generalize hqd : nx L (f i) k = q
  intro hp hq
  have hne : q ≠ f i := fun e => by rw [e] at hp; omega
  have hwi : 0 < wn (f i) := Nat.pos_of_ne_zero fun e => (hF.2.2 (f i)).mp e i h1 rfl
  have hfi2 : (if wn q = 0 then upN f sz q else f) i = f i := by
    split
    · exact if_neg (by omega)
    · rfl
  have hvis : ∀ x, vis (if wn q = 0 then upN f sz q else f) i x = vis f i x := fun x => vis_cong (fun j hj => by
    split
    · exact if_neg (by omega)
    · rfl) x
  refine ⟨by split <;> omega, ?_, ?_, ?_⟩
  · by_cases hz : wn q = 0
    · have hno := (hF.2.2 q).mp hz
      simp only [hz, if_true]
      refine ⟨fun j hj => ?_, fun j k hj hk => ?_, fun x => ?_⟩
      · unfold upN
        split
        · exact hq
        · exact hF.1 j (by omega)
      · unfold upN
        rw [if_neg (show ¬ j = sz by omega)]
        split
        · refine ⟨hno j (by omega), ?_⟩
          have := h3 j (by omega)
          omega
        · exact hF.2.1 j k hj (by omega)
      · unfold upN
        by_cases hx : x = q
        · subst hx
          rw [if_pos rfl]
          constructor
          · intro e; omega
          · intro e
            have := e sz (by omega)
            rw [if_pos rfl] at this
            exact absurd rfl this
        · rw [if_neg hx, hF.2.2 x]
          constructor
          · intro e j hj
            split
            · exact fun e => hx e.symm
            · exact e j (by omega)
          · intro e j hj
            have := e j (by omega)
            rw [if_neg (show ¬ j = sz by omega)] at this
            exact this
    · simp only [hz, if_false]
      refine ⟨hF.1, hF.2.1, fun x => ?_⟩
      unfold upN
      by_cases hx : x = q
      · subst hx
        rw [if_pos rfl]
        constructor
        · intro e; omega
        · intro e; exact absurd ((hF.2.2 x).mpr e) hz
      · rw [if_neg hx]; exact hF.2.2 x
  · intro j hj
    rw [hfi2]
    by_cases hz : wn q = 0
    · simp only [hz, if_true] at hj ⊢
      unfold upN
      split
      · omega
      · exact h3 j (by omega)
    · simp only [hz, if_false] at hj ⊢
      exact h3 j hj
  · intro e he
    rw [hfi2]
    have h4 := h4 e he
    have hv := Fnd_nvis hF h1 (q := q) (by omega)
    have u := fb_sm_upd (trx L e f wn i (f i)) ((wn q + wn (f i)) * Wy L e q) (i := q) (n := 2 ^ n) hq
    have e1 : trx L e f wn i (f i) q = wn q * Wy L e q := by unfold trx trm; rw [if_neg hne, hv]; rfl
    have e2 : fb_sm (trx L e (if wn q = 0 then upN f sz q else f) (upN wn q (wn q + wn (f i))) i (f i)) (2 ^ n) = fb_sm (fun k => if k = q then (wn q + wn (f i)) * Wy L e q else trx L e f wn i (f i) k) (2 ^ n) := by
      apply fb_sm_cong
      intro x _
      unfold trx trm
      rw [hvis x]
      unfold upN
      by_cases hx : x = q
      · subst hx
        rw [if_neg hne, hv, if_pos rfl, if_pos rfl]
        rfl
      · rw [if_neg hx, if_neg hx]
    have e3 : upN wn q (wn q + wn (f i)) (f i) = wn (f i) := if_neg (Ne.symm hne)
    have e4 : pfx L e (f i) (k + 1) = pfx L e (f i) k + Wy L e q := by unfold pfx; rw [fb_sm_succ, if_pos hc, hqd]
    rw [e2, e3, e4, Nat.mul_add]
    have am := Nat.add_mul (wn q) (wn (f i)) (Wy L e q)
    omega
theorem MidV_end {n : Nat} {L : Ln} (hL : Lok n L) {st i sz : Nat} {f wn : Nat → Nat} (h : MidV n L st i sz f wn L.length) : MidP n L st (i + 1) sz f wn := by
  obtain ⟨h1, hF, h3, h4⟩ := h
  refine ⟨h1, hF, fun hi j hj => ?_, fun e he => ?_⟩
  · have := h3 j hj
    have := (hF.2.1 i (i + 1) (by omega) hi).2
    omega
  · have h4 := h4 e he
    have hfi := hF.1 i h1
    have hW := Wy_eq hL e hfi
    have hpf : pfx L e (f i) L.length = fb_sm (fun k => if can L (f i) k = true then Wy L e (nx L (f i) k) else 0) L.length := rfl
    have u := fb_sm_upd (trx L e f wn i (f i)) (if f i = e then wn (f i) else 0) (i := f i) (n := 2 ^ n) hfi
    have e1 : trx L e f wn i (f i) (f i) = 0 := if_pos rfl
    have e2 : fb_sm (trm L e f wn (i + 1)) (2 ^ n) = fb_sm (fun k => if k = f i then (if f i = e then wn (f i) else 0) else trx L e f wn i (f i) k) (2 ^ n) := by
      apply fb_sm_cong
      intro x _
      unfold trx trm
      by_cases hx : x = f i
      · subst hx
        have : vis f (i + 1) (f i) = true := (vis_iff f (f i) (i + 1)).mpr ⟨i, by omega, rfl⟩
        rw [this, if_pos rfl, if_pos rfl]
      · have : vis f (i + 1) x = vis f i x := by
          show (vis f i x || decide (f i = x)) = vis f i x
          have : ¬ f i = x := fun h => hx h.symm
          simp [this]
        rw [this, if_neg hx, if_neg hx]
    rw [e2]
    rw [e1] at u
    have hm : wn (f i) * Wy L e (f i) = wn (f i) * (if f i = e then 1 else 0) + wn (f i) * pfx L e (f i) L.length := by rw [hW, hpf, Nat.mul_add]
    have hm2 : wn (f i) * (if f i = e then 1 else 0) = if f i = e then wn (f i) else 0 := by split <;> simp
    omega
theorem MidP_start {n : Nat} {L : Ln} {st : Nat} (hst : st < 2 ^ n) : MidP n L st 0 1 (fun _ => st) (upN (fun _ => 0) st 1) := by
  refine ⟨by omega, ⟨fun _ _ => hst, fun j k hj hk => by omega, fun q => ?_⟩, fun _ j _ => by show pc st ≤ pc st + 1; omega, fun e he => ?_⟩
  · unfold upN
    by_cases hq : q = st
    · subst hq
      rw [if_pos rfl]
      constructor
      · intro e; omega
      · intro e; exact absurd rfl (e 0 (by omega))
    · rw [if_neg hq]
      exact ⟨fun _ _ _ e => hq e.symm, fun _ => rfl⟩
  · have u := fb_sm_upd (fun _ => 0) (Wy L e st) (i := st) (n := 2 ^ n) hst
    have e2 : fb_sm (trm L e (fun _ => st) (upN (fun _ => 0) st 1) 0) (2 ^ n) = fb_sm (fun k => if k = st then Wy L e st else 0) (2 ^ n) := by
      apply fb_sm_cong
      intro x _
      unfold trm upN vis
      by_cases hx : x = st
      · subst hx; simp
      · simp [hx]
    rw [e2]
    rw [fb_sm_const] at u
    omega
theorem MidP_end {n : Nat} {L : Ln} {st sz : Nat} {f wn : Nat → Nat} (h : MidP n L st sz sz f wn) : ∀ e, e < 2 ^ n → wn e = Wy L e st := by
  obtain ⟨h1, hF, h3, h4⟩ := h
  intro e he
  have h4 := h4 e he
  have u := fb_sm_upd (fun _ => 0) (wn e) (i := e) (n := 2 ^ n) he
  have e2 : fb_sm (trm L e f wn sz) (2 ^ n) = fb_sm (fun k => if k = e then wn e else 0) (2 ^ n) := by
    apply fb_sm_cong
    intro x _
    unfold trm
    by_cases hv : vis f sz x = true
    · rw [if_pos hv]
      by_cases hx : x = e
      · subst hx; simp
      · simp [hx]
    · rw [if_neg hv]
      have z : wn x = 0 := (hF.2.2 x).mpr fun j hj e => hv ((vis_iff f x sz).mpr ⟨j, hj, e⟩)
      rw [z, Nat.zero_mul]
      by_cases hx : x = e
      · subst hx; simp [z]
      · simp [hx]
  rw [e2] at h4
  rw [fb_sm_const] at u
  omega
