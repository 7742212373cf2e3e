theorem sh_u : ∀ k, k < 16 → ((2 * nI k).toInt64.toUInt64 &&& Int64.toUInt64 63).toNat % 64 = 2 * k := by decide +kernel
theorem sh_s : ∀ k, k < 16 → (((2 * nI k).toInt64 &&& 63).toBitVec.smod 64).toNat = 2 * k := by decide +kernel
/-- two bits of a long: by an unsigned shift and by a signed one -/
theorem part_bits {bits : Int64} {k : Nat} (hk : k < 16) : pPart bits k = mBits bits k := by
  unfold pPart mBits
  apply Int32.toBitVec_inj.mp
  apply BitVec.eq_of_getLsbD_eq
  intro i hi
  rw [Int32.toBitVec_and, BitVec.getLsbD_and, Int64.toBitVec_toInt32, Int64.toBitVec_toInt32, BitVec.getLsbD_signExtend, BitVec.getLsbD_signExtend, if_pos (show i < 64 by omega), if_pos (show i < 64 by omega), decide_eq_true hi, Bool.true_and, Bool.true_and, Int64.toBitVec_and, BitVec.getLsbD_and]
  have h3 : ∀ i < 32, (3 : Int32).toBitVec.getLsbD i = decide (i < 2) := by decide
  have h3' : ∀ i < 64, (3 : Int64).toBitVec.getLsbD i = decide (i < 2) := by decide
  rw [h3 i hi, h3' i (by omega)]
  rcases Nat.lt_or_ge i 2 with q | q
  · have e1 : (bits.toUInt64 >>> ((2 * nI k).toInt64.toUInt64 &&& Int64.toUInt64 63)).toInt64.toBitVec.getLsbD i = bits.toBitVec.getLsbD (2 * k + i) := by
      show (bits.toUInt64 >>> ((2 * nI k).toInt64.toUInt64 &&& Int64.toUInt64 63)).toBitVec.getLsbD i = bits.toUInt64.toBitVec.getLsbD (2 * k + i)
      rw [UInt64.toBitVec_shiftRight]
      show (bits.toUInt64.toBitVec >>> (((2 * nI k).toInt64.toUInt64 &&& Int64.toUInt64 63).toBitVec % 64).toNat).getLsbD i = _
      rw [show (((2 * nI k).toInt64.toUInt64 &&& Int64.toUInt64 63).toBitVec % 64).toNat = 2 * k from by rw [BitVec.toNat_umod]; exact sh_u k hk, BitVec.getLsbD_ushiftRight]
    have e2 : (bits >>> ((2 * nI k).toInt64 &&& 63)).toBitVec.getLsbD i = bits.toBitVec.getLsbD (2 * k + i) := by
      rw [Int64.toBitVec_shiftRight]
      show (bits.toBitVec.sshiftRight (((2 * nI k).toInt64 &&& 63).toBitVec.smod 64).toNat).getLsbD i = _
      rw [sh_s k hk, BitVec.getLsbD_sshiftRight]
      simp [show i < 64 by omega, show 2 * k + i < 64 by omega]
    rw [e1, e2]
  · simp [show ¬ i < 2 by omega]
theorem part_all : ∀ k, k < 16 → pPart 6148914691236517205 k = 1 := by decide +kernel
/-! the rotten bits -/
theorem sh_r : ∀ t, t < 40 → ((nI t).toInt64.toUInt64 &&& Int64.toUInt64 63).toNat % 64 = t := by decide +kernel
theorem and1 {y : Int64} : (y &&& 1 = 0) ↔ y.toBitVec.getLsbD 0 = false := by
  have h1 : ∀ i < 64, (1 : Int64).toBitVec.getLsbD i = decide (i = 0) := by decide
  constructor
  · intro h
    have h2 : (y &&& 1).toBitVec.getLsbD 0 = false := by rw [h]; rfl
    rw [Int64.toBitVec_and, BitVec.getLsbD_and, h1 0 (by omega)] at h2
    simpa using h2
  · intro h
    apply Int64.toBitVec_inj.mp
    apply BitVec.eq_of_getLsbD_eq
    intro i hi
    rw [Int64.toBitVec_and, BitVec.getLsbD_and, h1 i hi]
    rcases Nat.eq_zero_or_pos i with rfl | q
    · rw [h]; rfl
    · rw [decide_eq_false (by omega), Bool.and_false]
      show false = (0 : BitVec 64).getLsbD i
      simp
theorem rb {x : Int64} {t : Nat} (ht : t < 40) : rBit x (nI t) = x.toBitVec.getLsbD t := by
  have e1 : (x.toUInt64 >>> ((nI t).toInt64.toUInt64 &&& Int64.toUInt64 63)).toInt64.toBitVec.getLsbD 0 = x.toBitVec.getLsbD t := by
    show (x.toUInt64 >>> ((nI t).toInt64.toUInt64 &&& Int64.toUInt64 63)).toBitVec.getLsbD 0 = x.toUInt64.toBitVec.getLsbD t
    rw [UInt64.toBitVec_shiftRight]
    show (x.toUInt64.toBitVec >>> (((nI t).toInt64.toUInt64 &&& Int64.toUInt64 63).toBitVec % 64).toNat).getLsbD 0 = _
    rw [show (((nI t).toInt64.toUInt64 &&& Int64.toUInt64 63).toBitVec % 64).toNat = t from by rw [BitVec.toNat_umod]; exact sh_r t ht, BitVec.getLsbD_ushiftRight]
    rfl
  unfold rBit
  cases hb : x.toBitVec.getLsbD t with
  | true =>
    rw [decide_eq_false (fun h => by rw [and1, e1, hb] at h; cases h)]; rfl
  | false =>
    rw [decide_eq_true (and1.mpr (by rw [e1, hb]))]; rfl
theorem bit1 : ∀ t, t < 40 → ∀ s, s < 40 → ((1 : Int64) <<< ((nI t).toInt64 &&& 63)).toBitVec.getLsbD s = decide (s = t) := by decide +kernel
theorem bitm : ∀ s, s < 40 → (-1 : Int64).toBitVec.getLsbD s = true := by decide +kernel
theorem rb_0 {t : Nat} (ht : t < 40) : rBit 0 (nI t) = false := by
  rw [rb ht]
  show (0 : BitVec 64).getLsbD t = false
  simp
theorem rb_or {x : Int64} {t s : Nat} (ht : t < 40) (hs : s < 40) : rBit (x ||| (1 <<< ((nI t).toInt64 &&& 63))) (nI s) = (rBit x (nI s) || decide (s = t)) := by
  rw [rb hs, rb hs, Int64.toBitVec_or, BitVec.getLsbD_or, bit1 t ht s hs]
theorem rb_and {x : Int64} {t s : Nat} (ht : t < 40) (hs : s < 40) : rBit (x &&& ((1 <<< ((nI t).toInt64 &&& 63)) ^^^ (-1))) (nI s) = (rBit x (nI s) && !decide (s = t)) := by
  rw [rb hs, rb hs, Int64.toBitVec_and, BitVec.getLsbD_and, Int64.toBitVec_xor, BitVec.getLsbD_xor, bit1 t ht s hs, bitm s hs]
  simp
