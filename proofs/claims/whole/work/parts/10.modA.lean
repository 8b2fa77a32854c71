/-! ===== the reference, method by method ===== -/
theorem X12_in {h : ZH} {x l u : Int32} : f_X12_in h x.toInt64 l.toInt64 u.toInt64 = some (b01 (l ≤ x ∧ x ≤ u)) := by
  unfold f_X12_in
  simp only [lg_cmp_lt, lg_cmp_gt, Int32.toInt64_lt]
  by_cases h1 : x < l
  · rw [if_pos h1, b01_f]
    intro h2
    rw [Int32.lt_iff_toInt_lt] at h1
    have := Int32.le_iff_toInt_le.mp h2.1
    omega
  · rw [if_neg h1]
    by_cases h2 : u < x
    · rw [if_pos h2, b01_f]
      intro h3
      rw [Int32.lt_iff_toInt_lt] at h2
      have := Int32.le_iff_toInt_le.mp h3.2
      omega
    · rw [if_neg h2, b01_t]
      rw [Int32.lt_iff_toInt_lt] at h1 h2
      rw [Int32.le_iff_toInt_le, Int32.le_iff_toInt_le]
      omega
section
variable {h : ZH} {x : Int32}
theorem in_m1_7 : f_X12_in h x.toInt64 (-1 : Int64) (7 : Int64) = some (b01 ((-1 : Int32) ≤ x ∧ x ≤ 7)) := X12_in (l := -1) (u := 7)
theorem in_m1000 : f_X12_in h x.toInt64 (-1000 : Int64) (1000 : Int64) = some (b01 ((-1000 : Int32) ≤ x ∧ x ≤ 1000)) := X12_in (l := -1000) (u := 1000)
theorem in_0_11 : f_X12_in h x.toInt64 (0 : Int64) (11 : Int64) = some (b01 ((0 : Int32) ≤ x ∧ x ≤ 11)) := X12_in (l := 0) (u := 11)
theorem in_0_2 : f_X12_in h x.toInt64 (0 : Int64) (2 : Int64) = some (b01 ((0 : Int32) ≤ x ∧ x ≤ 2)) := X12_in (l := 0) (u := 2)
theorem in_0_3 : f_X12_in h x.toInt64 (0 : Int64) (3 : Int64) = some (b01 ((0 : Int32) ≤ x ∧ x ≤ 3)) := X12_in (l := 0) (u := 3)
theorem in_0_60 : f_X12_in h x.toInt64 (0 : Int64) (60 : Int64) = some (b01 ((0 : Int32) ≤ x ∧ x ≤ 60)) := X12_in (l := 0) (u := 60)
theorem in_0_7 : f_X12_in h x.toInt64 (0 : Int64) (7 : Int64) = some (b01 ((0 : Int32) ≤ x ∧ x ≤ 7)) := X12_in (l := 0) (u := 7)
theorem in_1_100 : f_X12_in h x.toInt64 (1 : Int64) (100 : Int64) = some (b01 ((1 : Int32) ≤ x ∧ x ≤ 100)) := X12_in (l := 1) (u := 100)
theorem in_1_4 : f_X12_in h x.toInt64 (1 : Int64) (4 : Int64) = some (b01 ((1 : Int32) ≤ x ∧ x ≤ 4)) := X12_in (l := 1) (u := 4)
theorem in_1_6 : f_X12_in h x.toInt64 (1 : Int64) (6 : Int64) = some (b01 ((1 : Int32) ≤ x ∧ x ≤ 6)) := X12_in (l := 1) (u := 6)
theorem in_1_8 : f_X12_in h x.toInt64 (1 : Int64) (8 : Int64) = some (b01 ((1 : Int32) ≤ x ∧ x ≤ 8)) := X12_in (l := 1) (u := 8)
theorem in_1_9 : f_X12_in h x.toInt64 (1 : Int64) (9 : Int64) = some (b01 ((1 : Int32) ≤ x ∧ x ≤ 9)) := X12_in (l := 1) (u := 9)
theorem in_32_126 : f_X12_in h x.toInt64 (32 : Int64) (126 : Int64) = some (b01 ((32 : Int32) ≤ x ∧ x ≤ 126)) := X12_in (l := 32) (u := 126)
theorem in_48_55 : f_X12_in h x.toInt64 (48 : Int64) (55 : Int64) = some (b01 ((48 : Int32) ≤ x ∧ x ≤ 55)) := X12_in (l := 48) (u := 55)
theorem in_48_57 : f_X12_in h x.toInt64 (48 : Int64) (57 : Int64) = some (b01 ((48 : Int32) ≤ x ∧ x ≤ 57)) := X12_in (l := 48) (u := 57)
theorem in_97_122 : f_X12_in h x.toInt64 (97 : Int64) (122 : Int64) = some (b01 ((97 : Int32) ≤ x ∧ x ≤ 122)) := X12_in (l := 97) (u := 122)
theorem in_0_v {u : Int32} : f_X12_in h x.toInt64 (0 : Int64) u.toInt64 = some (b01 ((0 : Int32) ≤ x ∧ x ≤ u)) := X12_in (l := 0)
theorem in_m1_v {u : Int32} : f_X12_in h x.toInt64 (-1 : Int64) u.toInt64 = some (b01 ((-1 : Int32) ≤ x ∧ x ≤ u)) := X12_in (l := -1)
theorem X12_isLetter : f_X12_isLetter h x = some (b01 ((97 : Int32) ≤ x ∧ x ≤ 122)) := by
  unfold f_X12_isLetter
  rw [in_97_122, Option.bind_some, b01_ok]
theorem X12_isSign : f_X12_isSign h x = some (b01 ((32 : Int32) ≤ x ∧ x ≤ 126)) := by
  unfold f_X12_isSign
  rw [in_32_126, Option.bind_some, b01_ok]
end
section
variable {m : Nat} {S : Nat → Int32} {V : Nat → Nat → Int32} {g : ZH}
/-- the model's byte at a place of the tape of t bytes -/
def mb (T : Nat → Int32) (t k : Nat) : Int32 := if k < t then T k else 10
theorem X12_byteAt {t k : Nat} (ht : S 2 = zi t) (h6 : t ≤ 600) (hk : k < 2147483648) : f_X12_byteAt (Rm m S V g) m (zi k) = some (mb (V 1) t k) := by
  unfold f_X12_byteAt mb
  simp only [rO, rgI_0, rp_0, rgR_1, rgI_2, rp_2, rgI_3, rp_3, rgI_4, rp_4, rgR_5, rgR_6, rgI_7, rp_7, rgR_8, rgR_9, rgI_10, rp_10, rgR_11, rgR_12, rgR_13, rgR_14, rgR_15, rgR_16, rgR_17, rgR_18, rgR_19, rgR_20, rgR_21, rgR_22, rgR_23, rgR_24, rgI_25, rp_25, rgI_26, rp_26, rgI_27, rp_27, rgR_28, rgR_29, rgI_30, rp_30, rgR_31, rgR_32, rgR_33, rgR_34, rgI_35, rp_35, rgI_36, rp_36, rgI_37, rp_37, rgR_38, rgI_39, rp_39, Option.bind_some, ht]
  by_cases h : k < t
  · rw [if_neg (by rw [zi_le (by omega) hk]; omega), rl_1 (by omega), Option.bind_some, if_pos h]
  · rw [if_pos (by rw [zi_le (by omega) hk]; omega), if_neg h]
/-- the byte that feed takes -/
def fb (w : Int64) (j : Nat) : Int32 := ((w >>> ((8 * zi j).toInt64 &&& 63)) &&& 255).toInt32
theorem X12_feed_loop {t n : Nat} {w : Int64} {a2 : Int32} {h : ZH} (ht : S 2 = zi t) (hn : 1 ≤ n) (hn8 : n ≤ 8) (h6 : t + n ≤ 600) :
    zz_loop (fun st : (Int32 × ZH) => f_X12_feed_L40 h m w a2 (st.1) (st.2)) (zi (n - 1), Rm m S V g) = some (zi (t + n), Rm m (va_up S 2 (zi (t + n))) (va_up V 1 (bw (V 1) t n (fun i => fb w (n - 1 - i)))) g) := by
  have key := loop_seq (b := fun st : (Int32 × ZH) => f_X12_feed_L40 h m w a2 (st.1) (st.2)) n (fun i => ((if i < n then zi (n - 1 - i) else -1), Rm m (va_up S 2 (zi (t + i))) (va_up V 1 (bw (V 1) t i (fun i => fb w (n - 1 - i)))) g))
    (zi (t + n), Rm m (va_up S 2 (zi (t + n))) (va_up V 1 (bw (V 1) t n (fun i => fb w (n - 1 - i)))) g) ?_ ?_
  · simp only [bw_0, up_id, Nat.add_zero, Nat.sub_zero, ← ht] at key
    rw [if_pos (by omega)] at key
    exact key
  · intro i hi
    have e1 : (if i < n then zi (n - 1 - i) else (-1 : Int32)) = zi (n - 1 - i) := if_pos hi
    have e2 : zi (n - 1 - i) + (-1 : Int32) = (if i + 1 < n then zi (n - 1 - (i + 1)) else (-1 : Int32)) := by
      by_cases h1 : i + 1 < n
      · rw [if_pos h1, zi_dec (by omega)]
        exact congrArg zi (by omega)
      · rw [if_neg h1, show n - 1 - i = 0 by omega]
        rfl
    show f_X12_feed_L40 h m w a2 (if i < n then zi (n - 1 - i) else (-1 : Int32)) _ = _
    rw [e1]
    unfold f_X12_feed_L40
    rw [if_neg (zi_neg (by omega))]
    simp only [rO, rgI_0, rp_0, rgR_1, rgI_2, rp_2, rgI_3, rp_3, rgI_4, rp_4, rgR_5, rgR_6, rgI_7, rp_7, rgR_8, rgR_9, rgI_10, rp_10, rgR_11, rgR_12, rgR_13, rgR_14, rgR_15, rgR_16, rgR_17, rgR_18, rgR_19, rgR_20, rgR_21, rgR_22, rgR_23, rgR_24, rgI_25, rp_25, rgI_26, rp_26, rgI_27, rp_27, rgR_28, rgR_29, rgI_30, rp_30, rgR_31, rgR_32, rgR_33, rgR_34, rgI_35, rp_35, rgI_36, rp_36, rgI_37, rp_37, rgR_38, rgI_39, rp_39, Option.bind_some, up_self, rs_1 (i := t + i) _ (by omega : t + i < 600), up_up, zi_one]
    rw [show ((w >>> ((8 * zi (n - 1 - i)).toInt64 &&& 63)) &&& 255).toInt32 = (fun i => fb w (n - 1 - i)) i from rfl, bw_up, e2]
    rfl
  · have e1 : (if n < n then zi (n - 1 - n) else (-1 : Int32)) = -1 := if_neg (by omega)
    show f_X12_feed_L40 h m w a2 (if n < n then zi (n - 1 - n) else (-1 : Int32)) _ = _
    rw [e1]
    unfold f_X12_feed_L40
    rw [if_pos (by decide)]
    simp only [rO, rgI_0, rp_0, rgR_1, rgI_2, rp_2, rgI_3, rp_3, rgI_4, rp_4, rgR_5, rgR_6, rgI_7, rp_7, rgR_8, rgR_9, rgI_10, rp_10, rgR_11, rgR_12, rgR_13, rgR_14, rgR_15, rgR_16, rgR_17, rgR_18, rgR_19, rgR_20, rgR_21, rgR_22, rgR_23, rgR_24, rgI_25, rp_25, rgI_26, rp_26, rgI_27, rp_27, rgR_28, rgR_29, rgI_30, rp_30, rgR_31, rgR_32, rgR_33, rgR_34, rgI_35, rp_35, rgI_36, rp_36, rgI_37, rp_37, rgR_38, rgI_39, rp_39, Option.bind_some, up_self, Option.map_some]
theorem X12_feed {t : Nat} {w : Int64} {x : Int32} (ht : S 2 = zi t) (h6 : t ≤ 600) : f_X12_feed (Rm m S V g) m w x = some
    (if 1 ≤ x ∧ x ≤ 8 then (if t + x.toNatClampNeg ≤ 600 then (zi (t + x.toNatClampNeg), Rm m (va_up (va_up S 0 0) 2 (zi (t + x.toNatClampNeg))) (va_up V 1 (bw (V 1) t x.toNatClampNeg (fun i => fb w (x.toNatClampNeg - 1 - i)))) g) else (-5, Rm m (va_up S 0 0) V g)) else (-3, Rm m (va_up S 0 0) V g)) := by
  unfold f_X12_feed
  simp only [rO, rgI_0, rp_0, rgR_1, rgI_2, rp_2, rgI_3, rp_3, rgI_4, rp_4, rgR_5, rgR_6, rgI_7, rp_7, rgR_8, rgR_9, rgI_10, rp_10, rgR_11, rgR_12, rgR_13, rgR_14, rgR_15, rgR_16, rgR_17, rgR_18, rgR_19, rgR_20, rgR_21, rgR_22, rgR_23, rgR_24, rgI_25, rp_25, rgI_26, rp_26, rgI_27, rp_27, rgR_28, rgR_29, rgI_30, rp_30, rgR_31, rgR_32, rgR_33, rgR_34, rgI_35, rp_35, rgI_36, rp_36, rgI_37, rp_37, rgR_38, rgI_39, rp_39, Option.bind_some, in_1_8, b01_0]
  by_cases hx : (1 : Int32) ≤ x ∧ x ≤ 8
  · rw [if_neg (fun q => q hx), if_pos hx]
    have h0 : ¬ x < 0 := by
      have := Int32.le_iff_toInt_le.mp hx.1
      rw [Int32.lt_iff_toInt_lt]
      have e1 : (1 : Int32).toInt = 1 := rfl
      have e2 : (0 : Int32).toInt = 0 := rfl
      omega
    obtain ⟨e, hb⟩ := zi_of h0
    generalize x.toNatClampNeg = n at e hb ⊢
    subst e
    have hn1 : 1 ≤ n := (zi_le (a := 1) (by decide) hb).mp hx.1
    have hn8 : n ≤ 8 := (zi_le (b := 8) hb (by decide)).mp hx.2
    rw [show va_up S 0 0 2 = S 2 from rfl, ht, zi_add]
    by_cases h7 : t + n ≤ 600
    · rw [if_pos ((zi_leL (by omega) (by decide)).mpr h7), if_pos h7]
      unfold zz_let
      rw [show zi n - 1 = zi (n - 1) from zi_sub (b := 1) hn1]
      exact X12_feed_loop (S := va_up S 0 0) ht hn1 hn8 h7
    · rw [if_neg (fun q => h7 ((zi_leL (by omega) (by decide)).mp q)), if_neg h7]
  · rw [if_pos hx, if_neg hx]
end
