/-! pure: bits of longs -/
def b6 (x : Int64) (i : Nat) : Bool := x.toBitVec.getLsbD i
theorem b6_ext {x y : Int64} (h : ∀ i, i < 64 → b6 x i = b6 y i) : x = y := Int64.toBitVec_inj.mp (BitVec.eq_of_getLsbD_eq (fun i hi => h i hi))
theorem b6_0 (i : Nat) : b6 0 i = false := BitVec.getLsbD_zero
theorem b6_one : ∀ n, n < 64 → ((1 : Int64) <<< ((nI n).toInt64 &&& 63)).toBitVec = BitVec.twoPow 64 n := by decide +kernel
theorem b6_set (x : Int64) {n i : Nat} (hn : n < 64) : b6 (x ||| ((1 : Int64) <<< ((nI n).toInt64 &&& 63))) i = (b6 x i || decide (i = n)) := by
  unfold b6
  rw [Int64.toBitVec_or, BitVec.getLsbD_or, b6_one n hn, BitVec.getLsbD_twoPow]
  congr 1
  by_cases e : i = n
  · rw [e]; simp [hn]
  · rw [decide_eq_false e, decide_eq_false (show ¬ n = i from fun z => e z.symm), Bool.and_false]
theorem b6_sh : ∀ n, n < 64 → (((nI n).toInt64.toUInt64 &&& Int64.toUInt64 63)).toBitVec.toNat % 64 = n := by decide +kernel
theorem b6_and1 (w : Int64) : (w &&& 1 = 1) ↔ b6 w 0 = true := by
  unfold b6
  constructor
  · intro h
    have := congrArg (fun z : Int64 => z.toBitVec.getLsbD 0) h
    rw [Int64.toBitVec_and, BitVec.getLsbD_and] at this
    have h1 : (1 : Int64).toBitVec.getLsbD 0 = true := by decide
    rw [h1, Bool.and_true] at this
    exact this
  · intro h
    refine Int64.toBitVec_inj.mp (BitVec.eq_of_getLsbD_eq (fun i hi => ?_))
    rw [Int64.toBitVec_and, BitVec.getLsbD_and]
    by_cases e : i = 0
    · rw [e, h, Bool.true_and]
    · have h1 : (1 : Int64).toBitVec.getLsbD i = false := by
        show (1#64).getLsbD i = false
        rw [BitVec.getLsbD_one]
        simp [Ne.symm e, e]
      rw [h1, Bool.and_false]
theorem b6_test (x : Int64) {n : Nat} (hn : n < 64) : (((x.toUInt64 >>> ((nI n).toInt64.toUInt64 &&& Int64.toUInt64 63)).toInt64) &&& 1 = 1) ↔ b6 x n = true := by
  rw [b6_and1]
  unfold b6
  have e : ((x.toUInt64 >>> ((nI n).toInt64.toUInt64 &&& Int64.toUInt64 63)).toInt64).toBitVec = x.toBitVec >>> n := by
    show (x.toUInt64 >>> ((nI n).toInt64.toUInt64 &&& Int64.toUInt64 63)).toBitVec = x.toBitVec >>> n
    rw [UInt64.toBitVec_shiftRight]
    have h1 := b6_sh n hn
    show x.toBitVec >>> (((nI n).toInt64.toUInt64 &&& Int64.toUInt64 63).toBitVec % 64).toNat = x.toBitVec >>> n
    rw [show (((nI n).toInt64.toUInt64 &&& Int64.toUInt64 63).toBitVec % 64).toNat = n from h1]
  rw [e, BitVec.getLsbD_ushiftRight, Nat.add_zero]
theorem lg_0 (a b : Int64) : lg_cmp a b = 0 ↔ a = b := by
  unfold lg_cmp
  constructor
  · intro h
    split at h
    · cases h
    · split at h
      · assumption
      · cases h
  · intro h
    subst h
    simp
