/-! ===== sets as bits ===== -/
def tb (x : Int32) (i : Nat) : Bool := x.toBitVec.getLsbD i
theorem tb_ext {x y : Int32} (h : ∀ i, i < 32 → tb x i = tb y i) : x = y := by
  apply Int32.toBitVec_inj.mp
  apply BitVec.eq_of_getLsbD_eq
  exact h
set_option maxRecDepth 100000 in
theorem sh_amt : ∀ p, p < 31 → ((zi p &&& 31).toBitVec.smod 32#32).toNat = p := by decide
theorem shr_bv {x : Int32} {p : Nat} (hp : p < 31) : (x >>> (zi p &&& 31)).toBitVec = x.toBitVec.sshiftRight p := by
  rw [Int32.toBitVec_shiftRight]
  show x.toBitVec.sshiftRight ((zi p &&& 31).toBitVec.smod 32#32).toNat = _
  rw [sh_amt p hp]
theorem b1 : ∀ i, i < 32 → (1#32).getLsbD i = decide (i = 0) := by decide
theorem tb_shr {x : Int32} {p : Nat} (hp : p < 31) : ((x >>> (zi p &&& 31)) &&& (1 : Int32)) = (if tb x p = true then 1 else 0) := by
  apply tb_ext
  intro i hi
  unfold tb
  rw [Int32.toBitVec_and, BitVec.getLsbD_and, shr_bv hp, show (1 : Int32).toBitVec = 1#32 from rfl, b1 i hi]
  by_cases h0 : i = 0
  · subst h0
    rw [BitVec.getLsbD_sshiftRight, if_pos (by omega), Nat.add_zero]
    by_cases h : x.toBitVec.getLsbD p = true
    · rw [if_pos h]
      simp [h]
    · rw [if_neg h]
      simp at h
      simp [h]
  · by_cases h : x.toBitVec.getLsbD p = true
    · rw [if_pos h, show (1 : Int32).toBitVec = 1#32 from rfl, b1 i hi]
      simp [h0]
    · rw [if_neg h]
      simp [h0]
set_option maxRecDepth 100000 in
theorem shl_bit : ∀ p, p < 32 → ∀ i, i < 32 → tb ((1 : Int32) <<< (zi p &&& 31)) i = decide (i = p) := by decide
theorem tb_or {x : Int32} {p i : Nat} (hp : p < 32) (hi : i < 32) : tb (x ||| ((1 : Int32) <<< (zi p &&& 31))) i = (tb x i || decide (i = p)) := by
  rw [← shl_bit p hp i hi]
  unfold tb
  rw [Int32.toBitVec_or, BitVec.getLsbD_or]
set_option maxRecDepth 100000 in
theorem all_bit : ∀ n, n < 21 → ∀ i, i < 32 → tb (((1 : Int32) <<< ((zi n + 1) &&& 31)) - 1) i = decide (i ≤ n) := by decide
theorem tb_and {x y : Int32} {i : Nat} : tb (x &&& y) i = (tb x i && tb y i) := by
  unfold tb
  rw [Int32.toBitVec_and, BitVec.getLsbD_and]
theorem tb_0 {i : Nat} : tb 0 i = false := by
  unfold tb
  exact BitVec.getLsbD_zero
/-- a place that is reached stays so behind a star -/
theorem tb_star {x : Int32} {i : Nat} (hi : i < 32) : tb (x ||| (-x)) i = decide (∃ j, j ≤ i ∧ tb x j = true) := by
  unfold tb
  rw [Int32.toBitVec_or, Int32.toBitVec_neg, BitVec.getLsbD_or, BitVec.getLsbD_neg]
  by_cases h : x.toBitVec.getLsbD i = true
  · rw [h, Bool.true_or, eq_comm, decide_eq_true_eq]
    exact ⟨i, Nat.le_refl _, h⟩
  · simp only [Bool.not_eq_true] at h
    rw [h, Bool.false_or, Bool.false_xor]
    simp only [hi, decide_true, Bool.true_and]
    refine decide_eq_decide.mpr ?_
    constructor
    · rintro ⟨j, h1, h2⟩
      exact ⟨j, by omega, h2⟩
    · rintro ⟨j, h1, h2⟩
      refine ⟨j, ?_, h2⟩
      rcases Nat.lt_or_ge j i with q | q
      · exact q
      · rw [show j = i by omega, h] at h2
        cases h2
theorem tb_ne {x : Int32} : x = 0 ↔ ∀ i, i < 32 → tb x i = false := by
  constructor
  · rintro rfl i _
    exact tb_0
  · intro h
    apply tb_ext
    intro i hi
    rw [h i hi, tb_0]
