/-! ===== bytes as bits ===== -/
theorem b255 : ∀ i, i < 32 → (255#32).getLsbD i = decide (i < 8) := by decide
theorem b255' : ∀ i, i < 64 → (255#64).getLsbD i = decide (i < 8) := by decide
theorem nar_and (x : Int32) : (vp_nar .byte (x.toInt8.toInt32)) &&& (255 : Int32) = x &&& 255 := by
  rw [vp_nar_byte]
  apply Int32.toBitVec_inj.mp
  rw [Int32.toBitVec_and, Int32.toBitVec_and]
  apply BitVec.eq_of_getLsbD_eq
  intro i hi
  rw [BitVec.getLsbD_and, BitVec.getLsbD_and, show (255 : Int32).toBitVec = 255#32 from rfl, b255 i hi]
  by_cases h8 : i < 8
  · simp only [h8, decide_true, Bool.and_true]
    rw [Int8.toBitVec_toInt32, Int32.toBitVec_toInt8, Int8.toBitVec_toInt32, Int32.toBitVec_toInt8]
    rw [BitVec.getLsbD_signExtend, if_pos h8, BitVec.getLsbD_signExtend, if_pos hi, BitVec.getLsbD_signExtend, if_pos h8, BitVec.getLsbD_signExtend, if_pos hi]
    simp [hi, h8]
  · simp only [h8, decide_false, Bool.and_false]
/-- the byte that the class feeds -/
def fbc (w : Int64) (j : Nat) : Int32 := ((((w.toUInt64 >>> (((8 : Int32) * zi j).toInt64.toUInt64 &&& Int64.toUInt64 63)).toInt64).toInt32) &&& (255 : Int32))
theorem fbc_eq {w : Int64} {j : Nat} (hj : j < 8) : fbc w j = fb w j := by
  unfold fbc fb
  apply Int32.toBitVec_inj.mp
  apply BitVec.eq_of_getLsbD_eq
  intro i hi
  rw [Int32.toBitVec_and, BitVec.getLsbD_and, show (255 : Int32).toBitVec = 255#32 from rfl, b255 i hi]
  have e1 : (Int64.toInt32 ((w >>> ((8 * zi j).toInt64 &&& 63)) &&& 255)).toBitVec.getLsbD i = ((w >>> ((8 * zi j).toInt64 &&& 63)).toBitVec.getLsbD i && decide (i < 8)) := by
    rw [Int64.toBitVec_toInt32, BitVec.getLsbD_signExtend, if_pos (by omega), Int64.toBitVec_and, BitVec.getLsbD_and, show (255 : Int64).toBitVec = 255#64 from rfl, b255' i (by omega)]
    simp [hi]
  rw [e1]
  by_cases h8 : i < 8
  · simp only [h8, decide_true, Bool.and_true]
    rw [Int64.toBitVec_toInt32, BitVec.getLsbD_signExtend, if_pos (by omega)]
    simp only [hi, decide_true, Bool.true_and]
    have key : ∀ n : Nat, n ≤ 56 → ((w.toUInt64 >>> ((8 * zi j).toInt64.toUInt64 &&& Int64.toUInt64 63)).toInt64).toBitVec = w.toBitVec >>> n → (w >>> ((8 * zi j).toInt64 &&& 63)).toBitVec = w.toBitVec.sshiftRight n → ((w.toUInt64 >>> ((8 * zi j).toInt64.toUInt64 &&& Int64.toUInt64 63)).toInt64).toBitVec.getLsbD i = (w >>> ((8 * zi j).toInt64 &&& 63)).toBitVec.getLsbD i := by
      intro n hn e1 e2
      rw [e1, e2, BitVec.getLsbD_ushiftRight, BitVec.getLsbD_sshiftRight, if_pos (by omega)]
      simp
      omega
    have : j = 0 ∨ j = 1 ∨ j = 2 ∨ j = 3 ∨ j = 4 ∨ j = 5 ∨ j = 6 ∨ j = 7 := by omega
    rcases this with rfl | rfl | rfl | rfl | rfl | rfl | rfl | rfl
    · exact key 0 (by decide) rfl rfl
    · exact key 8 (by decide) rfl rfl
    · exact key 16 (by decide) rfl rfl
    · exact key 24 (by decide) rfl rfl
    · exact key 32 (by decide) rfl rfl
    · exact key 40 (by decide) rfl rfl
    · exact key 48 (by decide) rfl rfl
    · exact key 56 (by decide) rfl rfl
  · simp only [h8, decide_false, Bool.and_false]
