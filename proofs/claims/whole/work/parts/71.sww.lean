/-! ===== least sweeps: both sides ===== -/
section SWEEPS
variable {σ : SX} {u : FX} {fu : Nat} {f : Nat → Int64} {K : SX → (Nat → Int64) → FX → Prop}
def Tb (s : SX) (sz : Nat) (f : Nat → Nat) (fg : Nat → Nat → Nat) : Prop := ∀ j h, j < sz → h < 10 → s.2.1 7 (f j * 10 + h) = nI (fg (f j) h)
def Sf (s σ : SX) : Prop := Fw s σ ∧ (∀ j, j < 13 → s.1 j = σ.1 j) ∧ s.1 13 = nI 0 ∧ s.2.1 6 = σ.2.1 6 ∧ s.2.2 = σ.2.2
theorem Sf.a {s : SX} (h : Sf s σ) (g : Nat → Int32) : Sf (sA s 7 g) σ := ⟨h.1.a (by decide), h.2.1, h.2.2.1, (sA_ne (by decide)).trans h.2.2.2.1, h.2.2.2.2⟩
theorem w_lsAt {s : SX} {st p : Nat} {g : Nat → Nat} (hfu : 20000 ≤ fu) (h8 : s.1 8 = nI st) (hst : st < 8192) (hp : p < 1024) (hg : ∀ h, h < 10 → s.2.1 7 (p * 10 + h) = nI (g h) ∧ g h ≤ 1000) {P : Int32 → Prop} (hP : P (nI (mnT (if p = st then 0 else 1000) (fun _ => true) g 10))) : wp_X2_leastSweepsAt fu s (nI p) P := by
  have key := fun (b : Nat) (hb : b ≤ 1000) (hP : P (nI (mnT b (fun _ => true) g 10))) => lp (m := 10) (Q := fun f i => wp_X2_leastSweepsAt_L18 s (nI p) P f (nI i) (nI (mnT b (fun _ => true) g i))) (by
    intro f i hi ih
    rw [wp_X2_leastSweepsAt_L18]
    unfold wp_X2_leastSweepsAt_B18
    have e10 : ((10 : Int32) ≤ nI i) ↔ 10 ≤ i := nI_leI (a := 10) (by decide) (by omega)
    rw [e10]
    rcases Nat.lt_or_eq_of_le hi with d | d
    · have ih := ih d
      unfold mnT at ih
      rw [if_pos rfl, nI_succ] at ih
      refine ⟨fun q => by omega, fun _ => ?_⟩
      have ei : nI p * 10 + nI i = nI (p * 10 + i) := by
        show nI p * nI 10 + nI i = _
        rw [pk_mul, nI_add]
      have hmn := mnT_le b (fun _ => true) g i
      obtain ⟨g1, g2⟩ := hg i d
      rw [ei]
      refine (w_figureAt (by omega)).mpr ?_
      rw [g1, z_min (by omega) (by omega)]
      exact ih
    · refine ⟨fun _ => ?_, fun q => by omega⟩
      rw [d]; exact hP) fu 0 (Nat.zero_le _) (by omega)
  unfold wp_X2_leastSweepsAt wp_X2_leastSweepsAt_J15
  rw [h8, nI_eq (by omega) (by omega)]
  refine ⟨fun h => ?_, fun h => ?_⟩
  · rw [if_neg h] at hP; exact key 1000 (by decide) hP
  · rw [if_pos h] at hP; exact key 0 (by decide) hP
theorem ix10 {a b c d : Nat} (hb : b < 10) (hd : d < 10) : a * 10 + b = c * 10 + d ↔ a = c ∧ b = d := by
  constructor
  · intro h; omega
  · rintro ⟨rfl, rfl⟩; rfl
theorem w_sweepOn {L : Ln} {n st sz i : Nat} {f : Nat → Nat} (hl : Lin σ L) (hL : Lok n L) (hn : n ≤ 10) (hfu : 20000 ≤ fu) (hd : Wdn σ n L st sz f) {s : SX} (hs : Sf s σ) {fg : Nat → Nat → Nat} (hT : Tb s sz f fg) (hS : SwS L st sz f fg) (hC : ∀ j, j < i → SwC L st (f j) L.length fg) (hi : i < sz)
    {P : SX → Prop} (hP : ∀ s fg, Sf s σ → Tb s sz f fg → SwS L st sz f fg → (∀ j, j < i + 1 → SwC L st (f j) L.length fg) → P s) : wp_X2_sweepOn fu s (nI (f i)) (nI (lsA st (f i) fg)) P := by
  have hd0 := hd
  obtain ⟨d1, d2, d3, d4, d5, d6, -⟩ := hd
  have hn13 := hL.1
  have h8 : 2 ^ n ≤ 1024 := Nat.pow_le_pow_right (n := 2) (by decide) hn
  have hm := hL.2.1
  obtain ⟨hlow, hat⟩ := lsA_ok hL hn d1 hi d3 d4 d6 hS hC
  have hfi := d3 i hi
  have hat1000 : lsA st (f i) fg < 1000 := by
    obtain ⟨_, _, _, q⟩ := hat; exact q
  have key := lp (m := L.length) (Q := fun g k => ∀ s fg1, Sf s σ → Tb s sz f fg1 → SwS L st sz f fg1 → (∀ j, j < i → SwC L st (f j) L.length fg1) → SwC L st (f i) k fg1 → (∀ h, fg1 (f i) h = fg (f i) h) → wp_X2_sweepOn_L2 (nI (f i)) (nI (lsA st (f i) fg)) P g (nI k) s) (by
    intro g k hk ih s fg1 hs hT hS hC hCi he
    rw [wp_X2_sweepOn_L2]
    unfold wp_X2_sweepOn_B2 wp_X2_sweepOn_J102
    have hls := hl.fw hs.1
    refine (w_lineCount hls).mpr ?_
    rw [nI_leI (by omega) (by omega)]
    rcases Nat.lt_or_eq_of_le hk with c | c
    · have ih := ih c
      rw [nI_succ] at ih
      obtain ⟨a1, a2, a3, -⟩ := hL.2.2.1 k c
      refine ⟨fun q => by omega, fun _ => ?_⟩
      refine (w_behind hls hL (by omega) c).mpr ?_
      by_cases hc : can L (f i) k = true
      · have hx := nx_lt hL c hfi
        obtain ⟨j, hij, hjs, ej⟩ := hd0.next hL hi c hc
        rw [if_pos hc]
        refine ⟨fun q => absurd q fun q => (z_em (a := nx L (f i) k) (by omega)).mp q, fun _ => ?_⟩
        refine (w_codeOf hls hL c).mpr ?_
        refine (w_codeOf hls hL c).mpr ?_
        rw [code_rem (by omega) (by omega), code_div (by omega) (by omega)]
        have e1 : ∀ a b, nI a * 10 + nI b = nI (a * 10 + b) := fun a b => by
          show nI a * nI 10 + nI b = _
          rw [pk_mul, nI_add]
        rw [e1, e1]
        refine (w_figureAt (by omega)).mpr ?_
        refine (w_figureAt (by omega)).mpr ?_
        refine (w_changeFigure (by omega)).mpr ?_
        have t1 := hT i (lF L k) hi (by omega)
        have t2 := hT j (lT L k) hjs (by omega)
        rw [ej] at t2
        have s1 := (hS i (lF L k) hi (by omega)).1
        have s2 := (hS j (lT L k) hjs (by omega)).1
        rw [ej] at s2
        have el : nI (lsA st (f i) fg) + 1 = nI (lsA st (f i) fg + 1) := nI_1 _
        rw [t1, t2, el, z_min (by omega) (by omega), z_min (by omega) (by omega), he (lF L k)]
        obtain ⟨b1, b2, b3, b4⟩ := sw_step hL hn c hc hS hC hCi hi he hlow hat
        refine ih _ _ (hs.a _) (fun j' h hj' hh => ?_) b1 b2 b3 b4
        rw [sA_eq]
        unfold upG
        by_cases e : f j' = nx L (f i) k ∧ h = lT L k
        · rw [if_pos e, e.1, e.2, upd_eq]
        · rw [if_neg e, upd_ne (fun q => e ((ix10 hh (by omega)).mp q))]
          exact hT j' h hj' hh
      · rw [if_neg hc]
        refine ⟨fun _ => ih s fg1 hs hT hS hC (fun k' lr d cc h1 h2 h3 => ?_) he, fun q => absurd rfl q⟩
        rcases Nat.lt_or_eq_of_le (Nat.lt_succ_iff.mp h1) with q | q
        · exact hCi k' lr d cc q h2 h3
        · rw [q] at h2; exact absurd h2 hc
    · refine ⟨fun _ => ?_, fun q => by omega⟩
      rw [c] at hCi
      refine hP s fg1 hs hT hS fun j hj => ?_
      rcases Nat.lt_or_eq_of_le (Nat.lt_succ_iff.mp hj) with q | q
      · exact hC j q
      · rw [q]; exact hCi) fu 0 (Nat.zero_le _) (by omega)
  unfold wp_X2_sweepOn
  exact key s fg hs hT hS hC (fun k' lr d cc h1 _ _ => absurd h1 (Nat.not_lt_zero _)) (fun _ => rfl)
theorem w_leastSweepsTo {L : Ln} {n st e : Nat} (hl : Lin σ L) (hL : Lok n L) (hn : n ≤ 10) (hfu : 20000 ≤ fu) (he : e < 2 ^ n) (hW : Ws σ n L st) {P : Int32 → SX → Prop} (hP : ∀ s, Fw s σ → Ws s n L st → P (nI (RS L e st 10)) s) : wp_X2_leastSweepsTo fu σ (nI e) P := by
  have h8 : 2 ^ n ≤ 1024 := Nat.pow_le_pow_right (n := 2) (by decide) hn
  obtain ⟨sz, f, hz, hd, -⟩ := hW
  have hd0 := hd
  obtain ⟨d1, d2, d3, d4, d5, d6, -⟩ := hd
  have hsz2 : sz ≤ 2 ^ n := fb_holes (2 ^ n) sz f d3 (fun j k hj hk => (d4 j k hj hk).1)
  have back : ∀ s, Sf s σ → Fw s σ ∧ Ws s n L st := fun s hs => ⟨hs.1, sz, f, hz.fig (hs.2.1 7 (by decide)) hs.2.2.2.1 hs.2.2.2.2, hd0.fig hs.2.1 hs.2.2.2.2, Or.inl hs.2.2.1⟩
  have row : ∀ s, Sf s σ → ∀ j, j < sz → s.2.1 6 j = nI (f j) := fun s hs j hj => by rw [hs.2.2.2.1]; exact (hz.2.2.1 j hj).2
  have seven : ∀ s, Sf s σ → s.1 7 = nI sz := fun s hs => (hs.2.1 7 (by decide)).trans hz.1
  -- the walk over the row
  have main := lp (m := sz) (Q := fun g i => ∀ s fg, Sf s σ → Tb s sz f fg → SwS L st sz f fg → (∀ j, j < i → SwC L st (f j) L.length fg) → (∀ j, j < i → f j ≠ e) → wp_X2_leastSweepsTo_L64 fu (nI e) P (fun (s_121 : SX) => (P 1000 s_121)) g (nI i) s) (by
    intro g i hi ih s fg hs hT hS hC hne
    rw [wp_X2_leastSweepsTo_L64]
    unfold wp_X2_leastSweepsTo_B64
    rw [seven s hs, nI_leI (by omega) (by omega)]
    rcases Nat.lt_or_eq_of_le hi with c | c
    · have ih := ih c
      rw [nI_succ] at ih
      have hfi := d3 i c
      have e8 : ((8192 : Int32) ≤ nI i) ↔ 8192 ≤ i := nI_leI (a := 8192) (by decide) (by omega)
      refine ⟨fun q => by omega, fun _ => ⟨fun q => by rw [e8] at q; omega, fun _ => ⟨(z_in (by omega)).mpr (by omega), ?_⟩⟩⟩
      rw [nI_clamp (by omega), row s hs i c]
      have hst8 : s.1 8 = nI st := (hs.2.1 8 (by decide)).trans d2
      refine w_lsAt (g := fg (f i)) hfu hst8 (by omega) (by omega) (fun h hh => ⟨hT i h c hh, (hS i h c hh).1⟩) ⟨(z_in (by omega)).mpr (by omega), ?_⟩
      show ((¬ nI (f i) = nI e → _) ∧ (nI (f i) = nI e → P (nI (lsA st (f i) fg)) s))
      rw [nI_eq (by omega) (by omega)]
      refine ⟨fun hfe => ⟨(z_in (by omega)).mpr (by omega), ?_⟩, fun hfe => ?_⟩
      · refine w_sweepOn hl hL hn hfu hd0 hs hT hS hC c fun s' fg' b1 b2 b3 b4 => ih s' fg' b1 b2 b3 b4 fun j hj => ?_
        rcases Nat.lt_or_eq_of_le (Nat.lt_succ_iff.mp hj) with q | q
        · exact hne j q
        · rw [q]; exact hfe
      · obtain ⟨hlow, l, d, hg, hlt⟩ := lsA_ok hL hn d1 c d3 d4 d6 hS hC
        rw [hfe] at hlow hg hlt
        rw [hfe]
        have h1 := RS_low hL d1 hg
        obtain ⟨d', l', hg'⟩ := RS_at hL (e := e) (l := 10) (pc st) (Nat.le_refl _) d1 (by omega)
        have h2 := (hlow l' d' _ hg').1
        have e3 : lsA st e fg = RS L e st 10 := by omega
        rw [e3]
        obtain ⟨y1, y2⟩ := back s hs
        exact hP s y1 y2
    · refine ⟨fun _ => ?_, fun q => by omega⟩
      rw [c] at hne
      have hno : ¬ Rc L st e := fun h => by
        obtain ⟨j, hj, ej⟩ := (d6 e he).mp h
        exact hne j hj ej
      have hle := RS_le hL e d1 10
      have e3 : RS L e st 10 = 1000 := by
        refine Nat.le_antisymm hle (Nat.le_of_not_lt fun h => ?_)
        obtain ⟨d', l', hg'⟩ := RS_at hL (e := e) (l := 10) (pc st) (Nat.le_refl _) d1 h
        exact hno (go_rc hL d1 hg')
      obtain ⟨y1, y2⟩ := back s hs
      have := hP s y1 y2
      rw [e3] at this
      exact this) fu 0 (Nat.zero_le _) (by omega)
  -- the table begun
  have inner := fun (i : Nat) (hi : i < sz) (KK : SX → Prop) => lp (m := 10) (Q := fun g h0 => ∀ s, Sf s σ → (∀ j h, j < i → h < 10 → s.2.1 7 (f j * 10 + h) = nI 1000) → (∀ h, h < h0 → s.2.1 7 (f i * 10 + h) = nI 1000) → (∀ s, Sf s σ → (∀ j h, j < i + 1 → h < 10 → s.2.1 7 (f j * 10 + h) = nI 1000) → KK s) → wp_X2_leastSweepsTo_L26 (nI i) KK g (nI h0) s) (by
    intro g h0 hh0 ih s hs t1 t2 hKK
    rw [wp_X2_leastSweepsTo_L26]
    unfold wp_X2_leastSweepsTo_B26
    have e10 : ((10 : Int32) ≤ nI h0) ↔ 10 ≤ h0 := nI_leI (a := 10) (by decide) (by omega)
    have hfi := d3 i hi
    rw [e10]
    rcases Nat.lt_or_eq_of_le hh0 with c | c
    · have ih := ih c
      refine ⟨fun q => by omega, fun _ => ⟨(z_in (by omega)).mpr (by omega), ?_⟩⟩
      rw [nI_clamp (by omega), row s hs i hi]
      have e1 : nI (f i) * 10 + nI h0 = nI (f i * 10 + h0) := by
        show nI (f i) * nI 10 + nI h0 = _
        rw [pk_mul, nI_add]
      rw [e1]
      refine (w_changeFigure (by omega)).mpr ?_
      rw [← nI_succ h0]
      refine ih _ (hs.a _) (fun j h hj hh => ?_) (fun h hh => ?_) hKK
      · rw [sA_eq, upd_ne (fun q => (d4 j i hj hi).1 ((ix10 hh (by omega)).mp q).1)]
        exact t1 j h hj hh
      · rw [sA_eq]
        by_cases e : h = h0
        · rw [e, upd_eq]; rfl
        · rw [upd_ne (fun q => e ((ix10 (by omega) (by omega)).mp q).2)]
          exact t2 h (by omega)
    · refine ⟨fun _ => hKK s hs fun j h hj hh => ?_, fun q => by omega⟩
      rcases Nat.lt_or_eq_of_le (Nat.lt_succ_iff.mp hj) with q | q
      · exact t1 j h q hh
      · rw [q]; exact t2 h (by omega)) fu 0 (Nat.zero_le _) (by omega)
  have init := lp (m := sz) (Q := fun g i => ∀ s, Sf s σ → (∀ j h, j < i → h < 10 → s.2.1 7 (f j * 10 + h) = nI 1000) → wp_X2_leastSweepsTo_L7 fu (fun (s_62 : SX) => (wp_X2_leastSweepsTo_L64 fu (nI e) P (fun (s_121 : SX) => (P 1000 s_121)) fu 0 s_62)) g (nI i) s) (by
    intro g i hi ih s hs t1
    rw [wp_X2_leastSweepsTo_L7]
    unfold wp_X2_leastSweepsTo_B7
    rw [seven s hs, nI_leI (by omega) (by omega)]
    rcases Nat.lt_or_eq_of_le hi with c | c
    · have ih := ih c
      have e8 : ((8192 : Int32) ≤ nI i) ↔ 8192 ≤ i := nI_leI (a := 8192) (by decide) (by omega)
      refine ⟨fun q => by omega, fun _ => ⟨fun q => by rw [e8] at q; omega, fun _ => ?_⟩⟩
      exact inner i c _ s hs t1 (fun h hh => absurd hh (Nat.not_lt_zero h)) (fun s' b1 b2 => by rw [← nI_succ i]; exact ih s' b1 b2)
    · refine ⟨fun _ => ?_, fun q => by omega⟩
      rw [c] at t1
      exact main s (fun _ _ => 1000) hs t1 (fun j h _ _ => ⟨Nat.le_refl _, fun q => absurd q (Nat.lt_irrefl _)⟩) (fun j hj => absurd hj (Nat.not_lt_zero j)) (fun j hj => absurd hj (Nat.not_lt_zero j))) fu 0 (Nat.zero_le _) (by omega)
  unfold wp_X2_leastSweepsTo
  exact init _ ⟨(Fw.refl σ).i (by decide), fun j hj => sI_ne (by omega), rfl, rfl, rfl⟩ (fun j h hj => absurd hj (Nat.not_lt_zero j))
/-! the reference's table -/
theorem upS_eq (sw : Nat → Nat → Int32) (k j : Nat) (x : Int32) : upS sw k j x k j = x := by
  unfold upS
  rw [if_pos rfl, upd_eq]
theorem upS_ne {sw : Nat → Nat → Int32} {k j a b : Nat} {x : Int32} (h : ¬ (a = k ∧ b = j)) : upS sw k j x a b = sw a b := by
  unfold upS
  by_cases e : a = k
  · rw [if_pos e, e, upd_ne (fun q => h ⟨e, q⟩)]
  · rw [if_neg e]
theorem mnT_succ (b : Nat) (sy : Nat → Bool) (v : Nat → Nat) (t : Nat) : mnT b sy v (t + 1) = if sy t = true then min (mnT b sy v t) (v t) else mnT b sy v t := rfl
def Pr (v i l p q : Nat) : Prop := pc p < v ∨ (pc p = v ∧ (p < i ∨ (p = i ∧ q < l)))
theorem r_sweep {L : Ln} {n e : Nat} (hR : Rin u.1 L) (hL : Lok n L) (hn : n ≤ 10) (hfu : 20000 ≤ fu) (he : e < 2 ^ n) (h0 : u.1.1 0 = nI n) (h3 : u.1.1 3 = nI e) {P : FX → Prop} (hP : ∀ sw : Nat → Nat → Int32, (∀ p q, p < 2 ^ n → q ≤ 10 → sw p q = nI (RS L e p q)) → P (u.1, u.2.1, u.2.2.1, u.2.2.2.1, sw)) : wp_X4_sweep fu u P := by
  have h8 : 2 ^ n ≤ 1024 := Nat.pow_le_pow_right (n := 2) (by decide) hn
  have hm := hL.2.1
  have line := fun (v i l : Nat) (hi : i < 2 ^ n) (hl : l ≤ 10) (hv : pc i = v) (KK : FX → Prop) => lp (m := L.length) (Q := fun g k => ∀ sw : Nat → Nat → Int32, (∀ p q, p < 2 ^ n → q ≤ 10 → Pr v i l p q → sw p q = nI (RS L e p q)) → sw i l = nI (mnT (if i = e then 0 else 1000) (can L i) (fun k => RS L e (nx L i k) (lT L k) + dl L k l) k) →
      (∀ sw : Nat → Nat → Int32, (∀ p q, p < 2 ^ n → q ≤ 10 → Pr v i (l + 1) p q → sw p q = nI (RS L e p q)) → KK (u.1, u.2.1, u.2.2.1, u.2.2.2.1, sw)) → wp_X4_sweep_L67 (nI i) (nI l) KK g (nI k) (u.1, u.2.1, u.2.2.1, u.2.2.2.1, sw)) (by
    intro g k hk ih sw hT hil hKK
    rw [wp_X4_sweep_L67]
    unfold wp_X4_sweep_B67
    show ((u.1.1 1 ≤ nI k → KK (u.1, u.2.1, u.2.2.1, u.2.2.2.1, sw)) ∧ (¬ u.1.1 1 ≤ nI k → wp_X4_can u.1 (nI i) (nI k) _))
    rw [hR.1, nI_leI (by omega) (by omega)]
    rcases Nat.lt_or_eq_of_le hk with c | c
    · have ih := ih c
      have hx := nx_lt hL c hi
      obtain ⟨a1, a2, a3, -⟩ := hL.2.2.1 k c
      obtain ⟨r3, r4, r5⟩ := hR.2 k c
      have vi : ∀ m, m < 1024 → vp_in (nI m) 1024 := fun m hm => (z_in (by omega)).mpr hm
      have vl : vp_in (nI l) 11 := (z_in (by omega)).mpr (by omega)
      have vk : vp_in (nI k) 104 := (z_in (by omega)).mpr (by omega)
      refine ⟨fun q => by omega, fun _ => (r_can hR hL (by omega) c).mpr ⟨fun hc => ?_, fun hc => ?_⟩⟩
      · have hc : can L i k = false := (zb_0 _).mp hc
        unfold wp_X4_sweep_J142
        rw [← nI_succ]
        refine ih sw hT ?_ hKK
        rw [mnT_succ, if_neg (by rw [hc]; decide)]
        exact hil
      · have hc := zb_ne hc
        have hpc := can_pc hL c hc
        refine ⟨vi i (by omega), vi i (by omega), ⟨vi i (by omega), vl⟩, ?_⟩
        refine (r_behind hR hL c).mpr ⟨vi _ (by omega), vk, ?_⟩
        show (vp_in (nI (nx L i k)) 1024 ∧ vp_in (u.1.2.1 5 (nI k).toNatClampNeg) 11) ∧ vp_in (nI k) 104 ∧ ((¬ u.1.2.1 3 (nI k).toNatClampNeg = nI l → _) ∧ (u.1.2.1 3 (nI k).toNatClampNeg = nI l → _))
        have hRx := RS_le hL e hx (lT L k)
        have hmn := mnT_le (if i = e then 0 else 1000) (can L i) (fun k => RS L e (nx L i k) (lT L k) + dl L k l) k
        have hbase : (if i = e then 0 else 1000) ≤ 1000 := by split <;> omega
        have step : ∀ t : Nat, t = dl L k l → wp_X4_sweep_J137 (nI i) (nI l) (wp_X4_sweep_L67 (nI i) (nI l) KK g) (nI k) (u.1, u.2.1, u.2.2.1, u.2.2.2.1, sw) (nI (nx L i k)) (nI t) := fun t ht => by
          unfold wp_X4_sweep_J137 wp_X4_sweep_J142
          refine ⟨⟨vi i (by omega), vl⟩, ?_⟩
          show wp_X4_sweep_L67 (nI i) (nI l) KK g (nI k + 1) (u.1, u.2.1, u.2.2.1, u.2.2.2.1, upS sw (nI i).toNatClampNeg (nI l).toNatClampNeg (jmin (sw (nI i).toNatClampNeg (nI l).toNatClampNeg) (sw (nI (nx L i k)).toNatClampNeg (u.1.2.1 5 (nI k).toNatClampNeg).toNatClampNeg + nI t)))
          rw [nI_clamp (show i < 2 ^ 31 by omega), nI_clamp (show l < 2 ^ 31 by omega), nI_clamp (show nx L i k < 2 ^ 31 by omega), nI_clamp (show k < 2 ^ 31 by omega), r5, nI_clamp (show lT L k < 2 ^ 31 by omega), hil, hT _ _ hx (by omega) (Or.inl (by omega)), nI_add]
          have ht1 : t ≤ 1 := by rw [ht]; unfold dl; split <;> omega
          rw [z_min (by omega) (by omega), ← nI_succ]
          refine ih _ (fun p q hp hq hpr => ?_) ?_ hKK
          · rw [upS_ne]
            · exact hT p q hp hq hpr
            · rintro ⟨rfl, rfl⟩
              unfold Pr at hpr; omega
          · rw [upS_eq, mnT_succ, if_pos hc, ht]
        rw [nI_clamp (by omega), r5, r3, nI_eq (by omega) (by omega)]
        refine ⟨⟨vi _ (by omega), (z_in (by omega)).mpr (by omega)⟩, vk, fun q => ?_, fun q => ?_⟩
        · exact step 1 (by unfold dl; rw [if_neg q])
        · exact step 0 (by unfold dl; rw [if_pos q])
    · refine ⟨fun _ => hKK sw fun p q hp hq hpr => ?_, fun q => by omega⟩
      by_cases e2 : p = i ∧ q = l
      · obtain ⟨rfl, rfl⟩ := e2
        rw [hil, c, ← RS_eq hL e hi q]
      · refine hT p q hp hq ?_
        unfold Pr at hpr ⊢
        omega) fu 0 (Nat.zero_le _) (by omega)
  have lasts := fun (v i : Nat) (hi : i < 2 ^ n) (hvn : v ≤ n) (KK : FX → Prop) => lp (m := 11) (Q := fun g l => ∀ sw : Nat → Nat → Int32, (∀ p q, p < 2 ^ n → q ≤ 10 → Pr v i l p q → sw p q = nI (RS L e p q)) → (∀ sw : Nat → Nat → Int32, (∀ p q, p < 2 ^ n → q ≤ 10 → Pr v (i + 1) 0 p q → sw p q = nI (RS L e p q)) → KK (u.1, u.2.1, u.2.2.1, u.2.2.2.1, sw)) → wp_X4_sweep_L24 fu (nI v) (nI i) KK g (nI l) (u.1, u.2.1, u.2.2.1, u.2.2.2.1, sw)) (by
    intro g l hl ih sw hT hKK
    rw [wp_X4_sweep_L24]
    unfold wp_X4_sweep_B24
    have e10 : ((10 : Int32) < nI l) ↔ 10 < l := nI_ltI (a := 10) (by decide) (by omega)
    rw [e10]
    have hpi := pc_le hi (by omega)
    rcases Nat.lt_or_eq_of_le hl with c | c
    · have ih := ih c
      rw [nI_succ] at ih
      have vi : vp_in (nI i) 1024 := (z_in (by omega)).mpr (by omega)
      have vl : vp_in (nI l) 11 := (z_in (by omega)).mpr (by omega)
      refine ⟨fun q => by omega, fun _ => (bc_pc (by omega) _).mpr ⟨fun hv => ⟨vi, ?_⟩, fun hv => ?_⟩⟩
      · have hv := (nI_eq (by omega) (by omega)).mp hv
        have go2 : ∀ t : Nat, t = (if i = e then 0 else 1000) → wp_X4_sweep_J63 fu (nI i) (wp_X4_sweep_L24 fu (nI v) (nI i) KK g) (nI l) (u.1, u.2.1, u.2.2.1, u.2.2.2.1, sw) (nI t) := fun t ht => by
          unfold wp_X4_sweep_J63
          refine ⟨⟨vi, vl⟩, ?_⟩
          show wp_X4_sweep_L67 (nI i) (nI l) _ fu (nI 0) (u.1, u.2.1, u.2.2.1, u.2.2.2.1, upS sw (nI i).toNatClampNeg (nI l).toNatClampNeg (nI t))
          rw [nI_clamp (show i < 2 ^ 31 by omega), nI_clamp (show l < 2 ^ 31 by omega)]
          refine line v i l hi (by omega) hv _ _ (fun p q hp hq hpr => ?_) ?_ (fun sw' hsw' => ?_)
          · rw [upS_ne]
            · exact hT p q hp hq hpr
            · rintro ⟨rfl, rfl⟩
              unfold Pr at hpr; omega
          · rw [upS_eq, ht]; rfl
          · unfold wp_X4_sweep_J148
            exact ih sw' hsw' hKK
        show ((¬ nI i = u.1.1 3 → _) ∧ (nI i = u.1.1 3 → _))
        rw [h3, nI_eq (by omega) (by omega)]
        exact ⟨fun q => go2 1000 (by rw [if_neg q]), fun q => go2 0 (by rw [if_pos q])⟩
      · have hv : ¬ pc i = v := fun q => hv (by rw [q])
        unfold wp_X4_sweep_J148
        refine ih sw (fun p q hp hq hpr => hT p q hp hq ?_) hKK
        unfold Pr at hpr ⊢
        rcases hpr with h | ⟨h1, h2 | ⟨h2, h3⟩⟩
        · exact Or.inl h
        · exact Or.inr ⟨h1, Or.inl h2⟩
        · rw [h2] at h1; exact absurd h1 hv
    · refine ⟨fun _ => hKK sw fun p q hp hq hpr => hT p q hp hq ?_, fun q => by omega⟩
      unfold Pr at hpr ⊢
      omega) fu 0 (Nat.zero_le _) (by omega)
  have pegs := fun (v : Nat) (hvn : v ≤ n) (KK : FX → Prop) => lp (m := 2 ^ n) (Q := fun g i => ∀ sw : Nat → Nat → Int32, (∀ p q, p < 2 ^ n → q ≤ 10 → Pr v i 0 p q → sw p q = nI (RS L e p q)) → (∀ sw : Nat → Nat → Int32, (∀ p q, p < 2 ^ n → q ≤ 10 → pc p < v + 1 → sw p q = nI (RS L e p q)) → KK (u.1, u.2.1, u.2.2.1, u.2.2.2.1, sw)) → wp_X4_sweep_L12 fu (nI v) KK g (nI i) (u.1, u.2.1, u.2.2.1, u.2.2.2.1, sw)) (by
    intro g i hi ih sw hT hKK
    rw [wp_X4_sweep_L12]
    unfold wp_X4_sweep_B12
    show ((((1 : Int32) <<< ((u.1.1 0) &&& 31)) ≤ nI i → KK (u.1, u.2.1, u.2.2.1, u.2.2.2.1, sw)) ∧ (¬ ((1 : Int32) <<< ((u.1.1 0) &&& 31)) ≤ nI i → _))
    have es : ((1 : Int32) <<< ((u.1.1 0) &&& 31)) = nI (2 ^ n) := by rw [h0]; exact z_shl (by omega)
    rw [es, nI_leI (by omega) (by omega)]
    rcases Nat.lt_or_eq_of_le hi with c | c
    · have ih := ih c
      rw [nI_succ] at ih
      refine ⟨fun q => by omega, fun _ => lasts v i c hvn _ sw hT fun sw' hsw' => ih sw' hsw' hKK⟩
    · refine ⟨fun _ => hKK sw fun p q hp hq hpr => hT p q hp hq ?_, fun q => by omega⟩
      unfold Pr
      omega) fu 0 (Nat.zero_le _) (by omega)
  have key := lp (m := n + 1) (Q := fun g v => ∀ sw : Nat → Nat → Int32, (∀ p q, p < 2 ^ n → q ≤ 10 → pc p < v → sw p q = nI (RS L e p q)) → wp_X4_sweep_L2 fu P g (nI v) (u.1, u.2.1, u.2.2.1, u.2.2.2.1, sw)) (by
    intro g v hv ih sw hT
    rw [wp_X4_sweep_L2]
    unfold wp_X4_sweep_B2
    show ((u.1.1 0 < nI v → P (u.1, u.2.1, u.2.2.1, u.2.2.2.1, sw)) ∧ (¬ u.1.1 0 < nI v → _))
    rw [h0, nI_ltI (by omega) (by omega)]
    rcases Nat.lt_or_eq_of_le hv with c | c
    · have ih := ih c
      rw [nI_succ] at ih
      refine ⟨fun q => by omega, fun _ => pegs v (by omega) _ sw (fun p q hp hq hpr => hT p q hp hq ?_) fun sw' hsw' => ih sw' hsw'⟩
      unfold Pr at hpr; omega
    · refine ⟨fun _ => hP sw fun p q hp hq => hT p q hp hq ?_, fun q => by omega⟩
      have := pc_le hp (by omega)
      omega) fu 0 (Nat.zero_le _) (by omega)
  exact key u.2.2.2.2 (fun p q _ _ h => absurd h (Nat.not_lt_zero _))
theorem c_25 (hfu : 20000 ≤ fu) (hI : Inv σ u) (hK : ∀ σ' f' u', Inv σ' u' → K σ' f' u') : wp_case25 fu σ f u K := by
  obtain ⟨n, kd, p, e, mdn, tdn, c, md, td, w, hA, hH, hR⟩ := hI
  have hL := lns_ok hA.1 hA.2.1
  have hn13 := hA.1.1
  have hp := hA.2.2.1
  have he := hA.2.2.2.1
  have fin2 : ∀ s v f' sw, Hs s n kd p e mdn tdn c md td w → K s f' (sI (sI u.1 5 0) 5 v, u.2.1, u.2.2.1, u.2.2.2.1, sw) := fun s v f' sw hs => hK _ _ _ ⟨n, kd, p, e, mdn, tdn, c, md, td, w, hA, hs, (hR.code 0).code (u := (sI u.1 5 0, u.2)) v⟩
  have fin1 : ∀ v f', K σ f' (sI u.1 5 v, u.2) := fun v f' => hK _ _ _ ⟨n, kd, p, e, mdn, tdn, c, md, td, w, hA, hH, hR.code _⟩
  unfold wp_case25 wp_L_leastSweeps wp_X3_leastSweeps wp_X0_holes wp_X1_size
  rw [hH.1.1.2.2.1]
  have e10 : nI n ≤ 10 ↔ n ≤ 10 := nI_leI (b := 10) (by omega) (by decide)
  show ((nI n ≤ 10 → _) ∧ (¬ nI n ≤ 10 → _))
  rw [e10]
  refine ⟨fun hn => ?_, fun hn => Or.inl ⟨rfl, ?_⟩⟩
  · have h8 : 2 ^ n ≤ 1024 := Nat.pow_le_pow_right (n := 2) (by decide) hn
    rw [hH.2.2.1]
    refine w_begin hH.1.2.1 hL hfu hp hH.2.1 fun s g1 g2 => ?_
    have hH' := hH.walk g1 g2.wk
    rw [hH.2.2.2.1]
    refine w_leastSweepsTo hH'.1.2.1 hL hn hfu he g2.mg fun s2 g3 g4 => ?_
    have hH2 := hH'.walk g3 g4.wk
    have hle := RS_le hL e hp 10
    have e1000 : nI (RS (lns c n kd) e p 10) < 1000 ↔ RS (lns c n kd) e p 10 < 1000 := nI_ltI (b := 1000) (by omega) (by decide)
    have rf : ∀ Q : Int32 → FX → Prop, (RS (lns c n kd) e p 10 < 1000 → ∀ sw, Q (nI (RS (lns c n kd) e p 10)) (sI (sI u.1 5 0) 5 0, u.2.1, u.2.2.1, u.2.2.2.1, sw)) → (¬ RS (lns c n kd) e p 10 < 1000 → ∀ sw, Q 0 (sI (sI u.1 5 0) 5 2, u.2.1, u.2.2.1, u.2.2.2.1, sw)) → wp_X4_leastSweeps fu u Q := fun Q q1 q2 => by
      unfold wp_X4_leastSweeps wp_X4_leastSweeps_J15
      rw [hR.1.1, e10]
      refine ⟨fun _ => r_ok.mpr ⟨fun _ => ?_, fun q => absurd rfl q⟩, fun q => absurd hn q⟩
      refine r_sweep (u := (sI u.1 5 0, u.2)) hR.2.1 hL hn hfu he hR.1.1 hR.2.2.2.1 fun sw hsw => ?_
      have e2 : (sI u.1 5 0).1 2 = nI p := hR.2.2.1
      show vp_in ((sI u.1 5 0).1 2) 1024 ∧ (vp_in ((sI u.1 5 0).1 2) 1024 ∧ vp_in 10 11) ∧ ((sw ((sI u.1 5 0).1 2).toNatClampNeg 10 < 1000 → _) ∧ (¬ sw ((sI u.1 5 0).1 2).toNatClampNeg 10 < 1000 → _))
      have vp : vp_in (nI p) 1024 := (z_in (by omega)).mpr (by omega)
      have v10 : vp_in 10 11 := (z_in (a := 10) (by decide)).mpr (by decide)
      rw [e2, nI_clamp (by omega), hsw p 10 hp (Nat.le_refl _), e1000]
      refine ⟨vp, ⟨vp, v10⟩, fun h => ?_, fun h => ?_⟩
      · unfold wp_X4_leastSweeps_J51
        refine r_ok.mpr ⟨fun _ => ?_, fun q => absurd rfl q⟩
        have e3 : (sI (sI u.1 5 0) 5 0).1 2 = nI p := hR.2.2.1
        show vp_in ((sI (sI u.1 5 0) 5 0).1 2) 1024 ∧ (vp_in ((sI (sI u.1 5 0) 5 0).1 2) 1024 ∧ vp_in 10 11) ∧ Q (sw ((sI (sI u.1 5 0) 5 0).1 2).toNatClampNeg 10) _
        rw [e3, nI_clamp (by omega), hsw p 10 hp (Nat.le_refl _)]
        exact ⟨vp, ⟨vp, v10⟩, q1 h sw⟩
      · unfold wp_X4_leastSweeps_J51
        exact r_no2.mpr ⟨fun q => absurd q (by decide), fun _ => q2 h sw⟩
    rw [e1000]
    refine ⟨fun h => ?_, fun h => Or.inr ⟨rfl, ?_⟩⟩
    · exact rf _ (fun _ sw => finI rfl rfl (fin2 _ _ _ _ hH2)) (fun q => absurd h q)
    · exact rf _ (fun q => absurd q h) (fun _ sw => finX rfl (by decide) (fin2 _ _ _ _ hH2))
  · unfold wp_X4_leastSweeps wp_X4_leastSweeps_J15
    rw [hR.1.1, e10]
    exact ⟨fun q => absurd q hn, fun _ => r_no1.mpr ⟨fun q => absurd q (by decide), fun _ => finX rfl (by decide) (fin1 _ _)⟩⟩
end SWEEPS
