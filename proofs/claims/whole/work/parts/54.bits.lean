/-! ===== BITS ===== -/
def fb (a : Int32) (j : Nat) : Int32 := (a >>> (((8 : Int32) * nI j) &&& 31)) &&& (255 : Int32)
theorem fb_b (x : Int32) : 0 ≤ (x &&& 255).toInt ∧ (x &&& 255).toInt ≤ 255 := by
  have h : (x &&& 255).toBitVec.toNat ≤ 255 := by
    rw [Int32.toBitVec_and, BitVec.toNat_and]
    exact Nat.and_le_right
  have e : (x &&& 255).toInt = (x &&& 255).toBitVec.toInt := rfl
  rw [e, BitVec.toInt_eq_toNat_of_lt (by omega)]
  omega
theorem l255 : ∀ i, i < 32 → 8 ≤ i → (255#32).getLsbD i = false := by decide
theorem fb_s (x : BitVec 32) {i s : Nat} (hi : i < 32) (hs : s ≤ 24) : (x.getLsbD (s + i) && (255#32).getLsbD i) = ((x.sshiftRight s).getLsbD i && (255#32).getLsbD i) := by
  by_cases h8 : i < 8
  · rw [BitVec.getLsbD_sshiftRight, if_pos (by omega), decide_eq_false (by omega), Bool.not_false, Bool.true_and]
  · rw [l255 i hi (by omega), Bool.and_false, Bool.and_false]
theorem fb_u (a : Int32) : ∀ j, j < 4 → ((a.toUInt32 >>> (((8 : Int32) * nI j).toUInt32 &&& Int32.toUInt32 31)).toInt32) &&& (255 : Int32) = fb a j := by
  intro j hj
  unfold fb
  apply Int32.toBitVec_inj.mp
  rcases (by omega : j = 0 ∨ j = 1 ∨ j = 2 ∨ j = 3) with rfl | rfl | rfl | rfl
  · have e1 : ((8 : Int32) * nI 0).toUInt32 &&& Int32.toUInt32 31 = 0 := by decide
    have e2 : (((8 : Int32) * nI 0) &&& 31) = 0 := by decide
    rw [e1, e2]
    simp
  · have e1 : ((8 : Int32) * nI 1).toUInt32 &&& Int32.toUInt32 31 = 8 := by decide
    have e2 : (((8 : Int32) * nI 1) &&& 31) = 8 := by decide
    rw [e1, e2]
    apply BitVec.eq_of_getLsbD_eq
    intro i hi
    simp
    exact fb_s _ hi (by decide)
  · have e1 : ((8 : Int32) * nI 2).toUInt32 &&& Int32.toUInt32 31 = 16 := by decide
    have e2 : (((8 : Int32) * nI 2) &&& 31) = 16 := by decide
    rw [e1, e2]
    apply BitVec.eq_of_getLsbD_eq
    intro i hi
    simp
    exact fb_s _ hi (by decide)
  · have e1 : ((8 : Int32) * nI 3).toUInt32 &&& Int32.toUInt32 31 = 24 := by decide
    have e2 : (((8 : Int32) * nI 3) &&& 31) = 24 := by decide
    rw [e1, e2]
    apply BitVec.eq_of_getLsbD_eq
    intro i hi
    simp
    exact fb_s _ hi (by decide)
theorem nr_8 (x : Int64) : ((x.toInt32).toInt8.toInt32).toInt64 = (x <<< ((56 : Int32).toInt64 &&& 63)) >>> ((56 : Int32).toInt64 &&& 63) := by
  have e2 : ((56 : Int32).toInt64 &&& 63) = 56 := by decide
  rw [e2]
  apply Int64.toBitVec_inj.mp
  apply BitVec.eq_of_getLsbD_eq
  intro i hi
  simp
  rw [BitVec.getLsbD_sshiftRight, BitVec.getLsbD_signExtend, BitVec.getLsbD_signExtend, BitVec.msb_eq_getLsbD_last, BitVec.msb_eq_getLsbD_last, BitVec.getLsbD_signExtend, decide_eq_false (show ¬ 64 ≤ i by omega), decide_eq_true hi]
  by_cases h : i < 8
  · rw [if_pos h, if_pos (by omega), if_pos (by omega), decide_eq_true h, BitVec.getLsbD_shiftLeft, show 56 + i - 56 = i by omega, decide_eq_true (show 56 + i < 64 by omega), decide_eq_false (show ¬ 56 + i < 56 by omega)]
    simp
  · rw [if_neg h, if_neg (show ¬ 56 + i < 64 by omega)]
    simp [BitVec.getLsbD_shiftLeft]
    rfl
theorem nr_16 (x : Int64) : ((x.toInt32).toInt16.toInt32).toInt64 = (x <<< ((48 : Int32).toInt64 &&& 63)) >>> ((48 : Int32).toInt64 &&& 63) := by
  have e2 : ((48 : Int32).toInt64 &&& 63) = 48 := by decide
  rw [e2]
  apply Int64.toBitVec_inj.mp
  apply BitVec.eq_of_getLsbD_eq
  intro i hi
  simp
  rw [BitVec.getLsbD_sshiftRight, BitVec.getLsbD_signExtend, BitVec.getLsbD_signExtend, BitVec.msb_eq_getLsbD_last, BitVec.msb_eq_getLsbD_last, BitVec.getLsbD_signExtend, decide_eq_false (show ¬ 64 ≤ i by omega), decide_eq_true hi]
  by_cases h : i < 16
  · rw [if_pos h, if_pos (by omega), if_pos (by omega), decide_eq_true h, BitVec.getLsbD_shiftLeft, show 48 + i - 48 = i by omega, decide_eq_true (show 48 + i < 64 by omega), decide_eq_false (show ¬ 48 + i < 48 by omega)]
    simp
  · rw [if_neg h, if_neg (show ¬ 48 + i < 64 by omega)]
    simp [BitVec.getLsbD_shiftLeft]
    rfl
