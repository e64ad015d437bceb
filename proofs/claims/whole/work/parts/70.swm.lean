/-! ===== least sweeps: the mathematics ===== -/
def dl (L : Ln) (k l : Nat) : Nat := if lF L k = l then 0 else 1
/-- d jumps lead from p, where the last ended at l, to q, where the last ended at l', in c sweeps -/
def go (L : Ln) (q l' : Nat) : Nat → Nat → Nat → Nat → Prop
  | 0, p, l, c => p = q ∧ l = l' ∧ c = 0
  | d + 1, p, l, c => ∃ k c', k < L.length ∧ can L p k = true ∧ go L q l' d (nx L p k) (lT L k) c' ∧ c = c' + dl L k l
theorem go_snoc {L : Ln} {r lr k : Nat} (hk : k < L.length) (hc : can L r k = true) : ∀ {d p l c : Nat}, go L r lr d p l c → go L (nx L r k) (lT L k) (d + 1) p l (c + dl L k lr)
  | 0, p, l, c, h => by
    obtain ⟨rfl, rfl, rfl⟩ := h
    exact ⟨k, 0, hk, hc, ⟨rfl, rfl, rfl⟩, rfl⟩
  | d + 1, p, l, c, h => by
    obtain ⟨j, c', h1, h2, h3, h4⟩ := h
    exact ⟨j, c' + dl L k lr, h1, h2, go_snoc hk hc h3, by omega⟩
theorem go_last {L : Ln} {n q l' : Nat} (hL : Lok n L) : ∀ {d p l c : Nat}, p < 2 ^ n → go L q l' (d + 1) p l c → ∃ r lr k c', r < 2 ^ n ∧ k < L.length ∧ can L r k = true ∧ nx L r k = q ∧ lT L k = l' ∧ go L r lr d p l c' ∧ c = c' + dl L k lr
  | 0, p, l, c, hp, h => by
    obtain ⟨k, c', h1, h2, ⟨h3, h4, h5⟩, h6⟩ := h
    exact ⟨p, l, k, 0, hp, h1, h2, h3, h4, ⟨rfl, rfl, rfl⟩, by omega⟩
  | d + 1, p, l, c, hp, h => by
    obtain ⟨j, c', h1, h2, h3, h4⟩ := h
    obtain ⟨r, lr, k, c2, g1, g2, g3, g4, g5, g6, g7⟩ := go_last hL (nx_lt hL h1 hp) h3
    exact ⟨r, lr, k, c2 + dl L j l, g1, g2, g3, g4, g5, ⟨j, c2, h1, h2, g6, rfl⟩, by omega⟩
theorem go_rc {L : Ln} {n q l' : Nat} (hL : Lok n L) : ∀ {d p l c : Nat}, p < 2 ^ n → go L q l' d p l c → Rc L p q
  | 0, p, l, c, hp, h => by rw [← h.1]; exact Rc_refl hL hp
  | d + 1, p, l, c, hp, h => by
    obtain ⟨k, c', h1, h2, h3, h4⟩ := h
    exact (Rc_iff hL hp).mpr (Or.inr ⟨k, h1, h2, go_rc hL (nx_lt hL h1 hp) h3⟩)
theorem go_le {L : Ln} {n q l' : Nat} (hL : Lok n L) : ∀ {d p l c : Nat}, p < 2 ^ n → go L q l' d p l c → c ≤ d ∧ d + pc q = pc p
  | 0, p, l, c, hp, h => ⟨by have h3 : c = 0 := h.2.2; omega, by rw [h.1]; omega⟩
  | d + 1, p, l, c, hp, h => by
    obtain ⟨k, c', h1, h2, h3, h4⟩ := h
    obtain ⟨g1, g2⟩ := go_le hL (nx_lt hL h1 hp) h3
    have := can_pc hL h1 h2
    have : dl L k l ≤ 1 := by unfold dl; split <;> omega
    omega
theorem rc_go {L : Ln} {n q : Nat} (hL : Lok n L) : ∀ (d : Nat) {p l : Nat}, pc p ≤ d → p < 2 ^ n → Rc L p q → ∃ d l' c, go L q l' d p l c
  | d, p, l, hd, hp, h => by
    rcases (Rc_iff hL hp).mp h with e | ⟨k, h1, h2, h3⟩
    · exact ⟨0, l, 0, e, rfl, rfl⟩
    · have := can_pc hL h1 h2
      match d, hd with
      | 0, hd => omega
      | d + 1, hd =>
        obtain ⟨d', l', c, g⟩ := rc_go hL d (l := lT L k) (by omega) (nx_lt hL h1 hp) h3
        exact ⟨d' + 1, l', c + dl L k l, k, c, h1, h2, g, rfl⟩
theorem mnT_at (b : Nat) (sy : Nat → Bool) (v : Nat → Nat) : ∀ i, mnT b sy v i = b ∨ ∃ t, t < i ∧ sy t = true ∧ mnT b sy v i = v t
  | 0 => Or.inl rfl
  | i + 1 => by
    have ih := mnT_at b sy v i
    unfold mnT
    by_cases h : sy i = true
    · rw [if_pos h]
      rcases Nat.le_total (mnT b sy v i) (v i) with c | c
      · rw [Nat.min_eq_left c]
        rcases ih with e | ⟨t, t1, t2, t3⟩
        · exact Or.inl e
        · exact Or.inr ⟨t, by omega, t2, t3⟩
      · rw [Nat.min_eq_right c]
        exact Or.inr ⟨i, by omega, h, rfl⟩
    · rw [if_neg h]
      rcases ih with e | ⟨t, t1, t2, t3⟩
      · exact Or.inl e
      · exact Or.inr ⟨t, by omega, t2, t3⟩
theorem mnT_cong {b : Nat} {sy : Nat → Bool} {v w : Nat → Nat} : ∀ {i : Nat}, (∀ t, t < i → sy t = true → v t = w t) → mnT b sy v i = mnT b sy w i
  | 0, _ => rfl
  | i + 1, h => by
    unfold mnT
    rw [mnT_cong fun t ht hs => h t (by omega) hs]
    by_cases c : sy i = true
    · rw [if_pos c, if_pos c, h i (by omega) c]
    · rw [if_neg c, if_neg c]
/-- the reference's table -/
def rS (L : Ln) (e : Nat) : Nat → Nat → Nat → Nat
  | 0, p, _ => if p = e then 0 else 1000
  | d + 1, p, l => mnT (if p = e then 0 else 1000) (can L p) (fun k => rS L e d (nx L p k) (lT L k) + dl L k l) L.length
def RS (L : Ln) (e p l : Nat) : Nat := rS L e 13 p l
theorem rS_succ (L : Ln) (e d p l : Nat) : rS L e (d + 1) p l = mnT (if p = e then 0 else 1000) (can L p) (fun k => rS L e d (nx L p k) (lT L k) + dl L k l) L.length := rfl
theorem mnT_no {b : Nat} {sy : Nat → Bool} {v : Nat → Nat} {m : Nat} (h : ∀ t, t < m → ¬ sy t = true) : mnT b sy v m = b := by
  rcases mnT_at b sy v m with e | ⟨t, t1, t2, -⟩
  · exact e
  · exact absurd t2 (h t t1)
theorem rS_stable {n : Nat} {L : Ln} (hL : Lok n L) (e d : Nat) : ∀ p l, pc p ≤ d → rS L e (d + 1) p l = rS L e d p l := by
  induction d with
  | zero =>
    intro p l h
    rw [rS_succ L e 0 p l, mnT_no fun t ht hc => by have := can_pc hL ht hc; omega]
    rfl
  | succ d ih =>
    intro p l h
    rw [rS_succ L e (d + 1) p l, rS_succ L e d p l]
    apply mnT_cong
    intro k hk hc
    have := can_pc hL hk hc
    rw [ih (nx L p k) (lT L k) (by omega)]
theorem RS_eq {n : Nat} {L : Ln} (hL : Lok n L) (e : Nat) {p : Nat} (hp : p < 2 ^ n) (l : Nat) : RS L e p l = mnT (if p = e then 0 else 1000) (can L p) (fun k => RS L e (nx L p k) (lT L k) + dl L k l) L.length := by
  have h := pc_le hp (by have := hL.1; omega)
  have hn := hL.1
  have := rS_stable hL e 13 p l (by omega)
  unfold RS
  rw [← this, rS_succ L e 13 p l]
theorem RS_le {n : Nat} {L : Ln} (hL : Lok n L) (e : Nat) {p : Nat} (hp : p < 2 ^ n) (l : Nat) : RS L e p l ≤ 1000 := by
  rw [RS_eq hL e hp l]
  refine Nat.le_trans (mnT_le _ _ _ _) ?_
  split <;> omega
theorem RS_low {n : Nat} {L : Ln} (hL : Lok n L) {e l' : Nat} : ∀ {d p l c : Nat}, p < 2 ^ n → go L e l' d p l c → RS L e p l ≤ c
  | 0, p, l, c, hp, h => by
    rw [RS_eq hL e hp l]
    refine Nat.le_trans (mnT_le _ _ _ _) ?_
    rw [if_pos h.1]; omega
  | d + 1, p, l, c, hp, h => by
    obtain ⟨k, c', h1, h2, h3, h4⟩ := h
    have ih := RS_low hL (nx_lt hL h1 hp) h3
    rw [RS_eq hL e hp l]
    have := ((mnT_iff (if p = e then 0 else 1000) (can L p) (fun k => RS L e (nx L p k) (lT L k) + dl L k l) _ L.length).mp (Nat.le_refl _)).2 k h1 h2
    omega
theorem RS_at {n : Nat} {L : Ln} (hL : Lok n L) {e : Nat} : ∀ (d : Nat) {p l : Nat}, pc p ≤ d → p < 2 ^ n → RS L e p l < 1000 → ∃ d l', go L e l' d p l (RS L e p l)
  | d, p, l, hd, hp, h => by
    rcases mnT_at (if p = e then 0 else 1000) (can L p) (fun k => RS L e (nx L p k) (lT L k) + dl L k l) L.length with g | ⟨k, k1, k2, k3⟩
    · rw [← RS_eq hL e hp l] at g
      by_cases c : p = e
      · rw [if_pos c] at g
        exact ⟨0, l, c, rfl, g⟩
      · rw [if_neg c] at g; omega
    · rw [← RS_eq hL e hp l] at k3
      have k3 : RS L e p l = RS L e (nx L p k) (lT L k) + dl L k l := k3
      have := can_pc hL k1 k2
      match d, hd with
      | 0, hd => omega
      | d + 1, hd =>
        obtain ⟨d', l', g⟩ := RS_at hL (e := e) d (l := lT L k) (by omega) (nx_lt hL k1 hp) (by omega)
        exact ⟨d' + 1, l', k, _, k1, k2, g, k3⟩
/-! the class's table half done: what stands for arrivals is one, and arrivals out of the first i are in -/
def SwS (L : Ln) (st sz : Nat) (f : Nat → Nat) (fg : Nat → Nat → Nat) : Prop := ∀ j h, j < sz → h < 10 → fg (f j) h ≤ 1000 ∧ (fg (f j) h < 1000 → ∃ d, go L (f j) h d st 10 (fg (f j) h))
def SwC (L : Ln) (st : Nat) (p : Nat) (m : Nat) (fg : Nat → Nat → Nat) : Prop := ∀ k lr d c, k < m → can L p k = true → go L p lr d st 10 c → fg (nx L p k) (lT L k) ≤ c + dl L k lr
def lsA (st p : Nat) (fg : Nat → Nat → Nat) : Nat := mnT (if p = st then 0 else 1000) (fun _ => true) (fg p) 10
/-- at a position all whose arrivals are in -/
theorem lsA_ok {n : Nat} {L : Ln} (hL : Lok n L) (hn : n ≤ 10) {st sz i : Nat} {f : Nat → Nat} {fg : Nat → Nat → Nat} (hst : st < 2 ^ n) (hi : i < sz) (hf : ∀ j, j < sz → f j < 2 ^ n) (hsort : ∀ j k, j < k → k < sz → f j ≠ f k ∧ pc (f k) ≤ pc (f j)) (hrc : ∀ q, q < 2 ^ n → (Rc L st q ↔ ∃ j, j < sz ∧ f j = q)) (hS : SwS L st sz f fg) (hC : ∀ j, j < i → SwC L st (f j) L.length fg) :
    (∀ l d c, go L (f i) l d st 10 c → lsA st (f i) fg ≤ c ∧ (l < 10 → fg (f i) l ≤ c)) ∧ ∃ l d, go L (f i) l d st 10 (lsA st (f i) fg) ∧ lsA st (f i) fg < 1000 := by
  have hm := (mnT_iff (if f i = st then 0 else 1000) (fun _ => true) (fg (f i)) (lsA st (f i) fg) 10).mp (Nat.le_refl _)
  have h13 := pc_le hst (by omega)
  have low : ∀ l d c, go L (f i) l d st 10 c → lsA st (f i) fg ≤ c ∧ (l < 10 → fg (f i) l ≤ c) := by
    intro l d c h
    match d, h with
    | 0, h =>
      obtain ⟨h1, h2, h3⟩ := h
      rw [if_pos h1.symm] at hm
      exact ⟨by omega, fun g => by omega⟩
    | d + 1, h =>
      obtain ⟨r, lr, k, c', g1, g2, g3, g4, g5, g6, g7⟩ := go_last hL hst h
      obtain ⟨j, hj, ej⟩ := (hrc r g1).mp (go_rc hL hst g6)
      have hpc := can_pc hL g2 g3
      have hji : j < i := by
        rcases Nat.lt_trichotomy j i with a | a | a
        · exact a
        · rw [a] at ej; rw [g4, ej] at hpc; omega
        · have := (hsort i j a hj).2
          rw [ej] at this; rw [g4] at hpc; omega
      have := hC j hji k lr d c' g2 (by rw [ej]; exact g3) (by rw [ej]; exact g6)
      rw [ej, g4, g5, ← g7] at this
      have hl : l < 10 := by
        obtain ⟨-, -, a3, -⟩ := hL.2.2.1 k g2
        omega
      exact ⟨Nat.le_trans (hm.2 l hl rfl) this, fun _ => this⟩
  refine ⟨low, ?_⟩
  have hr : Rc L st (f i) := (hrc _ (hf i hi)).mpr ⟨i, hi, rfl⟩
  obtain ⟨d, l, c, g⟩ := rc_go hL (pc st) (l := 10) (Nat.le_refl _) hst hr
  have h1 := (low _ _ _ g).1
  have h2 := go_le hL hst g
  have hlt : lsA st (f i) fg < 1000 := by omega
  rcases mnT_at (if f i = st then 0 else 1000) (fun _ => true) (fg (f i)) 10 with q | ⟨h, q1, q2, q3⟩
  · have q : lsA st (f i) fg = (if f i = st then 0 else 1000) := q
    by_cases e : f i = st
    · rw [if_pos e] at q
      exact ⟨10, 0, ⟨e.symm, rfl, q⟩, hlt⟩
    · rw [if_neg e] at q; omega
  · have q3 : lsA st (f i) fg = fg (f i) h := q3
    obtain ⟨d', g'⟩ := (hS i h hi q1).2 (by omega)
    exact ⟨h, d', by rw [q3]; exact g', hlt⟩
def upG (fg : Nat → Nat → Nat) (q h x : Nat) : Nat → Nat → Nat := fun a b => if a = q ∧ b = h then x else fg a b
/-- one jump more of a position -/
theorem sw_step {n : Nat} {L : Ln} (hL : Lok n L) (hn : n ≤ 10) {st sz i k : Nat} {f : Nat → Nat} {fg fg0 : Nat → Nat → Nat} (hk : k < L.length) (hc : can L (f i) k = true) (hS : SwS L st sz f fg) (hC : ∀ j, j < i → SwC L st (f j) L.length fg) (hCi : SwC L st (f i) k fg) (hi : i < sz) (he : ∀ h, fg (f i) h = fg0 (f i) h)
    (hlow : ∀ l d c, go L (f i) l d st 10 c → lsA st (f i) fg0 ≤ c ∧ (l < 10 → fg0 (f i) l ≤ c)) (hat : ∃ l d, go L (f i) l d st 10 (lsA st (f i) fg0) ∧ lsA st (f i) fg0 < 1000) :
    SwS L st sz f (upG fg (nx L (f i) k) (lT L k) (min (min (lsA st (f i) fg0 + 1) (fg0 (f i) (lF L k))) (fg (nx L (f i) k) (lT L k)))) ∧ (∀ j, j < i → SwC L st (f j) L.length (upG fg (nx L (f i) k) (lT L k) (min (min (lsA st (f i) fg0 + 1) (fg0 (f i) (lF L k))) (fg (nx L (f i) k) (lT L k))))) ∧ SwC L st (f i) (k + 1) (upG fg (nx L (f i) k) (lT L k) (min (min (lsA st (f i) fg0 + 1) (fg0 (f i) (lF L k))) (fg (nx L (f i) k) (lT L k)))) ∧ ∀ h, upG fg (nx L (f i) k) (lT L k) (min (min (lsA st (f i) fg0 + 1) (fg0 (f i) (lF L k))) (fg (nx L (f i) k) (lT L k))) (f i) h = fg0 (f i) h := by
  obtain ⟨a1, a2, a3, -⟩ := hL.2.2.1 k hk
  have hpc := can_pc hL hk hc
  have hne : ¬ f i = nx L (f i) k := fun e => by rw [← e] at hpc; omega
  have dec : ∀ a b, upG fg (nx L (f i) k) (lT L k) (min (min (lsA st (f i) fg0 + 1) (fg0 (f i) (lF L k))) (fg (nx L (f i) k) (lT L k))) a b ≤ fg a b := by
    intro a b
    unfold upG
    by_cases e : a = nx L (f i) k ∧ b = lT L k
    · rw [if_pos e, e.1, e.2]; exact Nat.min_le_right _ _
    · rw [if_neg e]; exact Nat.le_refl _
  refine ⟨fun j h hj hh => ?_, fun j hj k' lr d c h1 h2 h3 => ?_, fun k' lr d c h1 h2 h3 => ?_, fun h => ?_⟩
  · have hs := hS j h hj hh
    refine ⟨Nat.le_trans (dec _ _) hs.1, fun hlt => ?_⟩
    unfold upG at hlt ⊢
    by_cases e : f j = nx L (f i) k ∧ h = lT L k
    · rw [if_pos e] at hlt ⊢
      rcases Nat.le_total (min (lsA st (f i) fg0 + 1) (fg0 (f i) (lF L k))) (fg (nx L (f i) k) (lT L k)) with c1 | c1
      · rw [Nat.min_eq_left c1] at hlt ⊢
        rcases Nat.lt_or_ge (lsA st (f i) fg0 + 1) (fg0 (f i) (lF L k)) with c2 | c2
        · rw [Nat.min_eq_left (by omega)] at hlt ⊢
          obtain ⟨l, d, g, -⟩ := hat
          have hll : ¬ lF L k = l := fun q => by
            have := (hlow l d _ g).2 (by omega)
            rw [← q] at this; omega
          refine ⟨d + 1, ?_⟩
          have := go_snoc hk hc g
          unfold dl at this
          rw [if_neg hll] at this
          rw [e.1, e.2]; exact this
        · rw [Nat.min_eq_right c2] at hlt ⊢
          have hs2 := hS i (lF L k) hi (by omega)
          rw [he] at hs2
          obtain ⟨d, g⟩ := hs2.2 hlt
          refine ⟨d + 1, ?_⟩
          have := go_snoc hk hc g
          unfold dl at this
          rw [if_pos rfl] at this
          rw [e.1, e.2]; exact this
      · rw [Nat.min_eq_right c1] at hlt ⊢
        rw [← e.1, ← e.2] at hlt ⊢
        exact hs.2 hlt
    · rw [if_neg e] at hlt ⊢
      exact hs.2 hlt
  · exact Nat.le_trans (dec _ _) (hC j hj k' lr d c h1 h2 h3)
  · rcases Nat.lt_or_eq_of_le (Nat.lt_succ_iff.mp h1) with q | q
    · exact Nat.le_trans (dec _ _) (hCi k' lr d c q h2 h3)
    · subst q
      unfold upG
      rw [if_pos ⟨rfl, rfl⟩]
      have hl := hlow lr d c h3
      unfold dl
      by_cases e : lF L k' = lr
      · rw [if_pos e]
        have := hl.2 (by omega)
        rw [← e] at this
        omega
      · rw [if_neg e]; omega
  · unfold upG
    rw [if_neg (fun q => hne q.1)]
    exact he h
