/-! ===== the mean of jumps ===== -/
theorem dd_nan {a b : Nat} (ha : a < 2 ^ 31) (hb : b < 2 ^ 31) (h0 : 0 < b) : Jvm.FP.Core.val64 (FP.ddiv (FP.i2d (nI a)) (FP.i2d (nI b))) ≠ .nan := by
  have h := Jvm.FP.Core.val64_ddiv (FP.i2d (nI a)) (FP.i2d (nI b))
  have ia := Jvm.FP.Core.i2d_int (nI a)
  have ib := Jvm.FP.Core.i2d_int (nI b)
  intro e
  have e : Jvm.FP.Core.val64 (Jvm.FP.Core.ddiv (Jvm.FP.Core.i2d (nI a)) (Jvm.FP.Core.i2d (nI b))) = .nan := e
  rw [Jvm.FP.Core.val64_ddiv] at e
  unfold Jvm.FP.Core.DInt at ia ib
  revert e ia ib
  generalize Jvm.FP.Core.val64 (Jvm.FP.Core.i2d (nI a)) = x
  generalize Jvm.FP.Core.val64 (Jvm.FP.Core.i2d (nI b)) = y
  intro ia ib e
  cases x with
  | nan => exact ia
  | inf s => exact ia
  | fin s c q =>
    cases y with
    | nan => exact ib
    | inf t => exact ib
    | fin t d r =>
      have hd : ¬ d = 0 := fun z => by
        have := (Jvm.FP.Core.whole_zero ib).mp z
        rw [nI_toInt hb] at this
        omega
      unfold Jvm.FP.Core.quotient at e
      simp only [hd, if_false] at e
      unfold Jvm.FP.Core.roundRatio at e
      split at e
      · cases e
      · unfold Jvm.FP.Core.roundAt Jvm.FP.Core.settle Jvm.FP.Core.bound at e
        split at e <;> split at e <;> cases e
theorem dd_self {a b : Nat} (ha : a < 2 ^ 31) (hb : b < 2 ^ 31) (h0 : 0 < b) : FP.dcmp (FP.ddiv (FP.i2d (nI a)) (FP.i2d (nI b))) (FP.ddiv (FP.i2d (nI a)) (FP.i2d (nI b))) = some .eq := Jvm.FP.Core.dcmp_self (dd_nan ha hb h0)
theorem dd_n64 {a : UInt64} (h : Jvm.FP.Core.val64 a ≠ .nan) : vf_n64 a := by
  unfold vf_n64
  rw [UInt64.le_iff_toNat_le, UInt64.toNat_and]
  show a.toNat &&& (2 ^ 63 - 1) ≤ 9218868437227405312
  rw [Nat.and_two_pow_sub_one_eq_mod]
  exact (Jvm.FP.Core.ne_nan a).mp h
