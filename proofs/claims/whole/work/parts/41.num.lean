/-! ===== plain numbers of Layer 2 ===== -/
def mI : Int32 := -1
theorem zm1 : (-1 : Int32) = mI := rfl
theorem z0 : (0 : Int32) = nI 0 := rfl
theorem z1 : (1 : Int32) = nI 1 := rfl
theorem z2 : (2 : Int32) = nI 2 := rfl
theorem z3 : (3 : Int32) = nI 3 := rfl
theorem z4 : (4 : Int32) = nI 4 := rfl
theorem z5 : (5 : Int32) = nI 5 := rfl
theorem z8 : (8 : Int32) = nI 8 := rfl
theorem z10 : (10 : Int32) = nI 10 := rfl
theorem z12 : (12 : Int32) = nI 12 := rfl
theorem z13 : (13 : Int32) = nI 13 := rfl
theorem z24 : (24 : Int32) = nI 24 := rfl
theorem z25 : (25 : Int32) = nI 25 := rfl
theorem z31 : (31 : Int32) = nI 31 := rfl
theorem z99 : (99 : Int32) = nI 99 := rfl
theorem z100 : (100 : Int32) = nI 100 := rfl
theorem z104 : (104 : Int32) = nI 104 := rfl
theorem z115 : (115 : Int32) = nI 115 := rfl
theorem z116 : (116 : Int32) = nI 116 := rfl
theorem z1000 : (1000 : Int32) = nI 1000 := rfl
theorem z8192 : (8192 : Int32) = nI 8192 := rfl
theorem z10240 : (10240 : Int32) = nI 10240 := rfl
theorem z_cap (n : Nat) : Int32.ofNat n = nI n := rfl
theorem z_mT : mI.toInt = -1 := by decide
theorem z_em {a : Nat} (h : a < 2 ^ 31) : nI a = mI ↔ False := ⟨fun e => by
  have := congrArg Int32.toInt e
  rw [nI_toInt h, z_mT] at this
  omega, False.elim⟩
theorem z_me {a : Nat} (h : a < 2 ^ 31) : mI = nI a ↔ False := ⟨fun e => (z_em h).mp e.symm, False.elim⟩
theorem z_mlt {a : Nat} (h : a < 2 ^ 31) : mI < nI a ↔ True := ⟨fun _ => trivial, fun _ => by rw [Int32.lt_iff_toInt_lt, z_mT, nI_toInt h]; omega⟩
theorem z_nmlt {a : Nat} (h : a < 2 ^ 31) : nI a < mI ↔ False := ⟨fun e => by rw [Int32.lt_iff_toInt_lt, z_mT, nI_toInt h] at e; omega, False.elim⟩
theorem z_mle {a : Nat} (h : a < 2 ^ 31) : mI ≤ nI a ↔ True := ⟨fun _ => trivial, fun _ => by rw [Int32.le_iff_toInt_le, z_mT, nI_toInt h]; omega⟩
theorem z_nmle {a : Nat} (h : a < 2 ^ 31) : nI a ≤ mI ↔ False := ⟨fun e => by rw [Int32.le_iff_toInt_le, z_mT, nI_toInt h] at e; omega, False.elim⟩
theorem z_in {a N : Nat} (h : a < 2 ^ 31) : vp_in (nI a) N ↔ a < N := by
  unfold vp_in
  rw [nI_clamp h]
  have := nI_pos h
  constructor
  · intro q
    exact Nat.lt_of_not_le fun e => q (Or.inr e)
  · intro q e
    rcases e with e | e
    · exact this e
    · omega
theorem z_inl {N : Nat} (h : 0 < N) : vp_in 0 N := (z_in (a := 0) (by decide)).mpr h
theorem z_pred {n : Nat} (h : 0 < n) : nI n - nI 1 = nI (n - 1) := pk_sub h
theorem z_predm {n : Nat} (h : 0 < n) : nI n + mI = nI (n - 1) := by
  obtain ⟨k, rfl⟩ : ∃ k, n = k + 1 := ⟨n - 1, by omega⟩
  exact pk_m1 k
theorem z_sm : ∀ h, h < 32 → ((nI (h &&& 31)).toBitVec.smod 32).toNat = h := by decide +kernel
theorem z_sm2 : ∀ h, h < 32 → ((nI h &&& nI 31).toBitVec.smod 32).toNat = h := by decide +kernel
theorem z_shl {h : Nat} (hh : h < 31) : nI 1 <<< (nI h &&& nI 31) = nI (2 ^ h) := by
  have := pk_shlN (n := 1) (nI h &&& nI 31) h (z_sm2 h (by omega)) (by
    have := Nat.pow_lt_pow_right (a := 2) (by decide) (show h < 32 by omega)
    omega)
  rw [this, Nat.one_mul]
theorem z_shr {p h : Nat} (hp : p < 2 ^ 31) (hh : h < 32) : nI p >>> (nI h &&& nI 31) = nI (p / 2 ^ h) := pk_shrN hp _ h (z_sm2 h hh)
theorem z_shlN {p h : Nat} (hh : h < 32) (hp : p * 2 ^ h < 2 ^ 32) : nI p <<< (nI h &&& nI 31) = nI (p * 2 ^ h) := pk_shlN _ h (z_sm2 h hh) hp
theorem z_and1 (p : Nat) : nI p &&& nI 1 = nI (p % 2) := fa_mask p 1
theorem z_bv {p h : Nat} (hp : p < 2 ^ 31) (hh : h < 32) : (nI p >>> (nI h &&& nI 31)) &&& nI 1 = nI (p.testBit h).toNat := by
  rw [z_shr hp hh, z_and1, Nat.testBit_eq_decide_div_mod_eq]
  congr 1
  have : p / 2 ^ h % 2 = 0 ∨ p / 2 ^ h % 2 = 1 := by omega
  rcases this with e | e <;> simp [e]
theorem z_bit1 {p h : Nat} (hp : p < 2 ^ 31) (hh : h < 32) : (nI p >>> (nI h &&& nI 31)) &&& nI 1 = nI 1 ↔ p.testBit h = true := by
  rw [z_bv hp hh]
  cases p.testBit h
  · simp [nI_eq]
  · simp
theorem z_bit0 {p h : Nat} (hp : p < 2 ^ 31) (hh : h < 32) : (nI p >>> (nI h &&& nI 31)) &&& nI 1 = nI 0 ↔ p.testBit h = false := by
  rw [z_bv hp hh]
  cases p.testBit h
  · simp
  · simp [nI_eq]
/-- a yes or no as an int -/
def zb (b : Bool) : Int32 := bif b then nI 1 else nI 0
theorem zb_t : zb true = nI 1 := rfl
theorem zb_f : zb false = nI 0 := rfl
theorem zb_0 (b : Bool) : zb b = nI 0 ↔ b = false := by cases b <;> simp [zb, nI_eq]
theorem zb_1 (b : Bool) : zb b = nI 1 ↔ b = true := by cases b <;> simp [zb, nI_eq]
theorem zb_nar (b : Bool) : narrow .boolean (.int (zb b)) = .int (zb b) := by cases b <;> rfl
theorem zb_and (a b : Bool) : zb a &&& zb b = zb (a && b) := by cases a <;> cases b <;> rfl
theorem zb_or (a b : Bool) : zb a ||| zb b = zb (a || b) := by cases a <;> cases b <;> rfl
/-- a loop by a rising counter -/
theorem lp {m : Nat} {Q : Nat → Nat → Prop} (h : ∀ f i, i ≤ m → (i < m → Q f (i + 1)) → Q (f + 1) i) : ∀ f i, i ≤ m → m < f + i → Q f i
  | 0, i, h1, h2 => absurd h2 (by omega)
  | f + 1, i, h1, h2 => h f i h1 (fun q => lp h f (i + 1) q (by omega))
/-- a loop by a falling counter: i stands for i + 1 places -/
theorem lpd {Q : Nat → Nat → Prop} (h0 : ∀ f, Q (f + 1) 0) (h : ∀ f i, Q f i → Q (f + 1) (i + 1)) : ∀ f i, i < f → Q f i
  | 0, i, h1 => absurd h1 (by omega)
  | f + 1, 0, h1 => h0 f
  | f + 1, i + 1, h1 => h f i (lpd h0 h f i (by omega))
theorem beq_ff {j k : Nat} (h : ¬ j = k) : Nat.beq j k = false := by
  cases e : Nat.beq j k
  · rfl
  · exact absurd (Nat.eq_of_beq_eq_true e) h
theorem sI_eq (σ : SX) (k : Nat) (v : Int32) : (sI σ k v).1 k = v := by unfold sI; simp
theorem sI_ne {σ : SX} {k j : Nat} {v : Int32} (h : ¬ j = k) : (sI σ k v).1 j = σ.1 j := by show (bif Nat.beq j k then v else σ.1 j) = _; rw [beq_ff h]; rfl
theorem sI_row (σ : SX) (k : Nat) (v : Int32) : (sI σ k v).2.1 = σ.2.1 := rfl
theorem sI_way (σ : SX) (k : Nat) (v : Int32) : (sI σ k v).2.2 = σ.2.2 := rfl
theorem sA_eq (σ : SX) (k : Nat) (f : Nat → Int32) : (sA σ k f).2.1 k = f := by unfold sA; simp
theorem sA_ne {σ : SX} {k j : Nat} {f : Nat → Int32} (h : ¬ j = k) : (sA σ k f).2.1 j = σ.2.1 j := by show (bif Nat.beq j k then f else σ.2.1 j) = _; rw [beq_ff h]; rfl
theorem sA_sc (σ : SX) (k : Nat) (f : Nat → Int32) : (sA σ k f).1 = σ.1 := rfl
theorem sA_way (σ : SX) (k : Nat) (f : Nat → Int32) : (sA σ k f).2.2 = σ.2.2 := rfl
theorem sJ_sc (σ : SX) (f : Nat → Int64) : (sJ σ f).1 = σ.1 := rfl
theorem sJ_row (σ : SX) (f : Nat → Int64) : (sJ σ f).2.1 = σ.2.1 := rfl
theorem sJ_way (σ : SX) (f : Nat → Int64) : (sJ σ f).2.2 = f := rfl
theorem upd_eq (f : Nat → Int32) (k : Nat) (x : Int32) : upd f k x k = x := if_pos rfl
theorem upd_ne {f : Nat → Int32} {k j : Nat} {x : Int32} (h : ¬ j = k) : upd f k x j = f j := if_neg h
/-! ===== the number of bits ===== -/
theorem an_k (x y k : Nat) : x &&& y = ((x % 2 ^ k) &&& (y % 2 ^ k)) + 2 ^ k * ((x / 2 ^ k) &&& (y / 2 ^ k)) := by
  rw [← Nat.and_mod_two_pow, ← Nat.and_div_two_pow]
  exact (Nat.mod_add_div _ _).symm
def pcN (x : Nat) : Nat :=
  let a := x - (x / 2 &&& 1431655765)
  let b := (a &&& 858993459) + (a / 4 &&& 858993459)
  let c := (b + b / 16) &&& 252645135
  let d := c + c / 256
  let e := d + d / 65536
  e &&& 63
def pc1 (b : Nat) : Nat := b - (b / 2 &&& 85)
def pc2 (b : Nat) : Nat := (pc1 b &&& 51) + (pc1 b / 4 &&& 51)
def pc3 (b : Nat) : Nat := (pc2 b + pc2 b / 16) &&& 15
theorem pc_b1 : ∀ b, b < 256 → (b / 2 &&& 85) ≤ b ∧ pc1 b ≤ 170 ∧ ((b / 2 + 128) &&& 85) = (b / 2 &&& 85) := by decide +kernel
theorem pc_b2 : ∀ b, b < 256 → pc2 b ≤ 68 ∧ pc2 b % 16 ≤ 4 ∧ (∀ j, j < 4 → ((pc1 b / 4 + 64 * j) &&& 51) = (pc1 b / 4 &&& 51)) := by decide +kernel
theorem pc_b3 : ∀ b, b < 256 → pc3 b ≤ 8 ∧ (∀ j, j < 16 → ((pc2 b + (pc2 b / 16 + 16 * j)) &&& 15) = pc3 b) := by decide +kernel
theorem pc_b4 : ∀ b, b < 256 → pc3 b = fb_ct (fun i => b.testBit i) 8 := by decide +kernel
/-- the formula over one more byte ahead -/
theorem an_8 {x m : Nat} (u v m0 m1 : Nat) (hu : u < 256) (hx : x = u + 256 * v) (hm : m = m0 + 256 * m1) (h0 : m0 < 256) : x &&& m = (u &&& m0) + 256 * (v &&& m1) := by
  have h := an_k x m 8
  have e1 : x % 2 ^ 8 = u := by omega
  have e2 : x / 2 ^ 8 = v := by omega
  have e3 : m % 2 ^ 8 = m0 := by omega
  have e4 : m / 2 ^ 8 = m1 := by omega
  rw [e1, e2, e3, e4] at h
  exact h
theorem pc_sum {p0 p1 p2 p3 : Nat} (h0 : p0 ≤ 8) (h1 : p1 ≤ 8) (h2 : p2 ≤ 8) (h3 : p3 ≤ 8) : (p0 + 256 * (p1 + 256 * (p2 + 256 * p3)) + (p0 + 256 * (p1 + 256 * (p2 + 256 * p3))) / 256 + (p0 + 256 * (p1 + 256 * (p2 + 256 * p3)) + (p0 + 256 * (p1 + 256 * (p2 + 256 * p3))) / 256) / 65536) % 64 = p0 + p1 + p2 + p3 := by
  have e1 : (p0 + 256 * (p1 + 256 * (p2 + 256 * p3))) / 256 = p1 + 256 * (p2 + 256 * p3) := by omega
  rw [e1]
  have e2 : (p0 + 256 * (p1 + 256 * (p2 + 256 * p3)) + (p1 + 256 * (p2 + 256 * p3))) / 65536 = p2 + p3 + 256 * p3 := by omega
  rw [e2]
  omega
theorem pcN_eq {b0 b1 b2 b3 : Nat} (h0 : b0 < 256) (h1 : b1 < 256) (h2 : b2 < 256) (h3 : b3 < 256) :
    pcN (b0 + 256 * (b1 + 256 * (b2 + 256 * b3))) = pc3 b0 + pc3 b1 + pc3 b2 + pc3 b3 := by
  have p0 := pc_b1 b0 h0
  have p1 := pc_b1 b1 h1
  have p2 := pc_b1 b2 h2
  have p3 := pc_b1 b3 h3
  have q0 := pc_b2 b0 h0
  have q1 := pc_b2 b1 h1
  have q2 := pc_b2 b2 h2
  have q3 := pc_b2 b3 h3
  have r0 := pc_b3 b0 h0
  have r1 := pc_b3 b1 h1
  have r2 := pc_b3 b2 h2
  have r3 := pc_b3 b3 h3
  have hf : ∀ b j, b < 256 → j < 2 → ((b / 2 + 128 * j) &&& 85) = (b / 2 &&& 85) := by
    intro b j hb hj
    rcases (show j = 0 ∨ j = 1 by omega) with rfl | rfl
    · rfl
    · exact (pc_b1 b hb).2.2
  have A : (b0 + 256 * (b1 + 256 * (b2 + 256 * b3))) - ((b0 + 256 * (b1 + 256 * (b2 + 256 * b3))) / 2 &&& 1431655765) = pc1 b0 + 256 * (pc1 b1 + 256 * (pc1 b2 + 256 * pc1 b3)) := by
    rw [an_8 (b0 / 2 + 128 * (b1 % 2)) (b1 / 2 + 128 * (b2 % 2) + 256 * (b2 / 2 + 128 * (b3 % 2) + 256 * (b3 / 2))) 85 5592405 (by omega) (by omega) (by decide) (by decide)]
    rw [an_8 (x := b1 / 2 + 128 * (b2 % 2) + 256 * (b2 / 2 + 128 * (b3 % 2) + 256 * (b3 / 2))) (b1 / 2 + 128 * (b2 % 2)) (b2 / 2 + 128 * (b3 % 2) + 256 * (b3 / 2)) 85 21845 (by omega) rfl (by decide) (by decide)]
    rw [an_8 (x := b2 / 2 + 128 * (b3 % 2) + 256 * (b3 / 2)) (b2 / 2 + 128 * (b3 % 2)) (b3 / 2) 85 85 (by omega) rfl (by decide) (by decide)]
    rw [hf b0 _ h0 (by omega), hf b1 _ h1 (by omega), hf b2 _ h2 (by omega)]
    unfold pc1 at *
    omega
  have B : ((pc1 b0 + 256 * (pc1 b1 + 256 * (pc1 b2 + 256 * pc1 b3))) &&& 858993459) + ((pc1 b0 + 256 * (pc1 b1 + 256 * (pc1 b2 + 256 * pc1 b3))) / 4 &&& 858993459) = pc2 b0 + 256 * (pc2 b1 + 256 * (pc2 b2 + 256 * pc2 b3)) := by
    rw [an_8 (pc1 b0) (pc1 b1 + 256 * (pc1 b2 + 256 * pc1 b3)) 51 3355443 (by omega) rfl (by decide) (by decide)]
    rw [an_8 (x := pc1 b1 + 256 * (pc1 b2 + 256 * pc1 b3)) (pc1 b1) (pc1 b2 + 256 * pc1 b3) 51 13107 (by omega) rfl (by decide) (by decide)]
    rw [an_8 (x := pc1 b2 + 256 * pc1 b3) (pc1 b2) (pc1 b3) 51 51 (by omega) rfl (by decide) (by decide)]
    rw [an_8 (x := (pc1 b0 + 256 * (pc1 b1 + 256 * (pc1 b2 + 256 * pc1 b3))) / 4) (pc1 b0 / 4 + 64 * (pc1 b1 % 4)) (pc1 b1 / 4 + 64 * (pc1 b2 % 4) + 256 * (pc1 b2 / 4 + 64 * (pc1 b3 % 4) + 256 * (pc1 b3 / 4))) 51 3355443 (by omega) (by omega) (by decide) (by decide)]
    rw [an_8 (x := pc1 b1 / 4 + 64 * (pc1 b2 % 4) + 256 * (pc1 b2 / 4 + 64 * (pc1 b3 % 4) + 256 * (pc1 b3 / 4))) (pc1 b1 / 4 + 64 * (pc1 b2 % 4)) (pc1 b2 / 4 + 64 * (pc1 b3 % 4) + 256 * (pc1 b3 / 4)) 51 13107 (by omega) rfl (by decide) (by decide)]
    rw [an_8 (x := pc1 b2 / 4 + 64 * (pc1 b3 % 4) + 256 * (pc1 b3 / 4)) (pc1 b2 / 4 + 64 * (pc1 b3 % 4)) (pc1 b3 / 4) 51 51 (by omega) rfl (by decide) (by decide)]
    rw [q0.2.2 _ (by omega), q1.2.2 _ (by omega), q2.2.2 _ (by omega)]
    unfold pc2
    omega
  have C : ((pc2 b0 + 256 * (pc2 b1 + 256 * (pc2 b2 + 256 * pc2 b3))) + (pc2 b0 + 256 * (pc2 b1 + 256 * (pc2 b2 + 256 * pc2 b3))) / 16) &&& 252645135 = pc3 b0 + 256 * (pc3 b1 + 256 * (pc3 b2 + 256 * pc3 b3)) := by
    rw [an_8 (pc2 b0 + (pc2 b0 / 16 + 16 * (pc2 b1 % 16))) (pc2 b1 + (pc2 b1 / 16 + 16 * (pc2 b2 % 16)) + 256 * (pc2 b2 + (pc2 b2 / 16 + 16 * (pc2 b3 % 16)) + 256 * (pc2 b3 + pc2 b3 / 16))) 15 986895 (by omega) (by omega) (by decide) (by decide)]
    rw [an_8 (x := pc2 b1 + (pc2 b1 / 16 + 16 * (pc2 b2 % 16)) + 256 * (pc2 b2 + (pc2 b2 / 16 + 16 * (pc2 b3 % 16)) + 256 * (pc2 b3 + pc2 b3 / 16))) (pc2 b1 + (pc2 b1 / 16 + 16 * (pc2 b2 % 16))) (pc2 b2 + (pc2 b2 / 16 + 16 * (pc2 b3 % 16)) + 256 * (pc2 b3 + pc2 b3 / 16)) 15 3855 (by omega) rfl (by decide) (by decide)]
    rw [an_8 (x := pc2 b2 + (pc2 b2 / 16 + 16 * (pc2 b3 % 16)) + 256 * (pc2 b3 + pc2 b3 / 16)) (pc2 b2 + (pc2 b2 / 16 + 16 * (pc2 b3 % 16))) (pc2 b3 + pc2 b3 / 16) 15 15 (by omega) rfl (by decide) (by decide)]
    rw [r0.2 _ (by omega), r1.2 _ (by omega), r2.2 _ (by omega)]
    rfl
  unfold pcN
  simp only [A, B, C]
  have m63 : ∀ y, y &&& 63 = y % 64 := fun y => Nat.and_two_pow_sub_one_eq_mod y 6
  rw [m63]
  exact pc_sum r0.1 r1.1 r2.1 r3.1
/-- how many bits -/
def pc (x : Nat) : Nat := fb_ct (fun i => x.testBit i) 32
theorem pcN_pc {x : Nat} (hx : x < 2 ^ 32) : pcN x = pc x := by
  have e : x = x % 256 + 256 * (x / 256 % 256 + 256 * (x / 65536 % 256 + 256 * (x / 16777216))) := by omega
  have h := pcN_eq (b0 := x % 256) (b1 := x / 256 % 256) (b2 := x / 65536 % 256) (b3 := x / 16777216) (by omega) (by omega) (by omega) (by omega)
  rw [← e] at h
  rw [h, pc_b4 _ (by omega), pc_b4 _ (by omega), pc_b4 _ (by omega), pc_b4 _ (by omega)]
  unfold pc
  rw [show (32 : Nat) = 8 + (8 + (8 + 8)) from rfl, fb_ct_split, fb_ct_split, fb_ct_split]
  have t : ∀ y i k, i < 8 → (y / 2 ^ k % 256).testBit i = y.testBit (k + i) := by
    intro y i k hi
    rw [show (256 : Nat) = 2 ^ 8 from rfl, Nat.testBit_mod_two_pow, Nat.testBit_div_two_pow]
    simp [hi, Nat.add_comm]
  have t3 : ∀ i, i < 8 → (x / 16777216).testBit i = x.testBit (24 + i) := by
    intro i hi
    rw [show (16777216 : Nat) = 2 ^ 24 from rfl, Nat.testBit_div_two_pow, Nat.add_comm]
  rw [fb_ct_cong (fun i hi => t3 i hi), fb_ct_cong (p := fun i => (x / 65536 % 256).testBit i) (fun i hi => t x i 16 hi), fb_ct_cong (p := fun i => (x / 256 % 256).testBit i) (fun i hi => t x i 8 hi),
    fb_ct_cong (p := fun i => (x % 256).testBit i) (q := fun i => x.testBit i) (fun i hi => by have := t x i 0 hi; simpa using this)]
  rw [Nat.add_assoc, Nat.add_assoc]
  rfl
theorem bc_pc {x : Nat} (hx : x < 2 ^ 31) (P : Int32 → Prop) : wp_J6_bitCount_0f7a4 (nI x) P ↔ P (nI (pc x)) := by
  unfold wp_J6_bitCount_0f7a4
  have u1 : ∀ n, n < 2 ^ 32 → ((nI n).toUInt32 >>> ((1 : Int32).toUInt32 &&& Int32.toUInt32 31)).toInt32 = nI (n / 2) := fun n hn => pk_ushrN hn 1 1 (by decide +kernel)
  have u2 : ∀ n, n < 2 ^ 32 → ((nI n).toUInt32 >>> ((2 : Int32).toUInt32 &&& Int32.toUInt32 31)).toInt32 = nI (n / 4) := fun n hn => pk_ushrN hn 2 2 (by decide +kernel)
  have u4 : ∀ n, n < 2 ^ 32 → ((nI n).toUInt32 >>> ((4 : Int32).toUInt32 &&& Int32.toUInt32 31)).toInt32 = nI (n / 16) := fun n hn => pk_ushrN hn 4 4 (by decide +kernel)
  have u8 : ∀ n, n < 2 ^ 32 → ((nI n).toUInt32 >>> ((8 : Int32).toUInt32 &&& Int32.toUInt32 31)).toInt32 = nI (n / 256) := fun n hn => pk_ushrN hn 8 8 (by decide +kernel)
  have u16 : ∀ n, n < 2 ^ 32 → ((nI n).toUInt32 >>> ((16 : Int32).toUInt32 &&& Int32.toUInt32 31)).toInt32 = nI (n / 65536) := fun n hn => pk_ushrN hn 16 16 (by decide +kernel)
  have l1 : (1431655765 : Int32) = nI 1431655765 := rfl
  have l2 : (858993459 : Int32) = nI 858993459 := rfl
  have l3 : (252645135 : Int32) = nI 252645135 := rfl
  have l4 : (63 : Int32) = nI 63 := rfl
  have a1 : (x / 2 &&& 1431655765) ≤ x / 2 := Nat.and_le_left
  have a2 : ∀ y, (y &&& 858993459) ≤ 858993459 := fun y => Nat.and_le_right
  have a3 : ∀ y, (y &&& 252645135) ≤ 252645135 := fun y => Nat.and_le_right
  have s1 : nI x - nI (x / 2 &&& 1431655765) = nI (x - (x / 2 &&& 1431655765)) := pk_sub (by omega)
  rw [u1 x (by omega), l1, fa_and, s1, u2 _ (by omega), l2, fa_and, fa_and, nI_add]
  have b1 := a2 (x - (x / 2 &&& 1431655765))
  have b2 := a2 ((x - (x / 2 &&& 1431655765)) / 4)
  rw [u4 _ (by omega), nI_add, l3, fa_and]
  have c1 := a3 ((x - (x / 2 &&& 1431655765) &&& 858993459) + ((x - (x / 2 &&& 1431655765)) / 4 &&& 858993459) + ((x - (x / 2 &&& 1431655765) &&& 858993459) + ((x - (x / 2 &&& 1431655765)) / 4 &&& 858993459)) / 16)
  rw [u8 _ (by omega), nI_add, u16 _ (by omega), nI_add, l4, fa_and]
  have h := pcN_pc (x := x) (by omega)
  unfold pcN at h
  simp only at h
  rw [h]
