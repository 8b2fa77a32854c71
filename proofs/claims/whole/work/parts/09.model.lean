def Rmf (m : Nat) (S : Nat → Int32) : List Value := [.int (S 0), .ref (m + 1), .int (S 2), .int (S 3), .int (S 4), .ref (m + 2), .ref (m + 3), .int (S 7), .ref (m + 4), .ref (m + 5), .int (S 10), .ref (m + 6), .ref (m + 7), .ref (m + 8), .ref (m + 9), .ref (m + 10), .ref (m + 11), .ref (m + 12), .ref (m + 13), .ref (m + 14), .ref (m + 15), .ref (m + 16), .ref (m + 17), .ref (m + 18), .ref (m + 19), .int (S 25), .int (S 26), .int (S 27), .ref (m + 20), .ref (m + 21), .int (S 30), .ref (m + 22), .ref (m + 23), .ref (m + 24), .ref (m + 25), .int (S 35), .int (S 36), .int (S 37), .ref (m + 26), .int (S 39)]
def Rmc (m : Nat) (S : Nat → Int32) (V : Nat → Nat → Int32) : List ZC := [.inr (10, Rmf m S), .inl (1, 600, .inl (V 1)), .inl (1, 96, .inl (V 5)), .inl (1, 16, .inl (V 6)), .inl (1, 480, .inl (V 8)), .inl (1, 24, .inl (V 9)), .inl (1, 30, .inl (V 11)), .inl (1, 30, .inl (V 12)), .inl (1, 30, .inl (V 13)), .inl (1, 30, .inl (V 14)), .inl (1, 30, .inl (V 15)), .inl (1, 30, .inl (V 16)), .inl (1, 30, .inl (V 17)), .inl (1, 30, .inl (V 18)), .inl (1, 30, .inl (V 19)), .inl (1, 30, .inl (V 20)), .inl (1, 25, .inl (V 21)), .inl (1, 4, .inl (V 22)), .inl (1, 4, .inl (V 23)), .inl (1, 4, .inl (V 24)), .inl (1, 72, .inl (V 28)), .inl (2, 6, .inl (V 29)), .inl (1, 6000, .inl (V 31)), .inl (1, 10, .inl (V 32)), .inl (1, 40, .inl (V 33)), .inl (1, 40, .inl (V 34)), .inl (1, 60, .inl (V 38))]
def Rm (m : Nat) (S : Nat → Int32) (V : Nat → Nat → Int32) (g : ZH) : ZH := fun q => if m ≤ q ∧ q < m + 27 then (Rmc m S V)[q - m]? else g q
section
variable {m : Nat} {S : Nat → Int32} {V : Nat → Nat → Int32} {g : ZH}
theorem Rm_at {j : Nat} {c : ZC} (hj : j < 27) (h : (Rmc m S V)[j]? = some c) : Rm m S V g (m + j) = some c := by
  unfold Rm
  rw [if_pos (by omega), Nat.add_sub_cancel_left]
  exact h
theorem Rm_0 : Rm m S V g m = some (.inr (10, Rmf m S)) := Rm_at (j := 0) (by decide) rfl
theorem Rm_put {k : Nat} {v : Int32} (hk : k < 40) (h : (Rmf m S).set k (.int v) = Rmf m (va_up S k v)) : zp_V (Rm m S V g) m 10 k (.int v) = some (Rm m (va_up S k v) V g) := by
  have h0 : zp_V (Rm m S V g) m 10 k (.int v) = some (va_up (Rm m S V g) m (some (.inr (10, (Rmf m S).set k (.int v))))) := by
    simp only [zp_V, Rm_0]
    exact if_pos ⟨trivial, hk⟩
  rw [h0, h]
  congr 1
  funext q
  by_cases hq : q = m
  · subst hq
    rw [Rm_0]
    simp [va_up]
  · simp only [va_up, if_neg hq]
    unfold Rm
    by_cases hr : m ≤ q ∧ q < m + 27
    · rw [if_pos hr, if_pos hr]
      obtain ⟨j, hj⟩ : ∃ j, q - m = j + 1 := ⟨q - m - 1, by omega⟩
      rw [hj]
      rfl
    · rw [if_neg hr, if_neg hr]
theorem Rm_st {j k t n i : Nat} {v : Int32} (hj : j < 27) (h0 : 0 < j) (hc : ∀ V' : Nat → Nat → Int32, (Rmc m S V')[j]? = some (.inl (t, n, .inl (V' k)))) (ho : ∀ (V' V2 : Nat → Nat → Int32), (∀ k', k' ≠ k → V' k' = V2 k') → ∀ j', j' ≠ j → (Rmc m S V')[j']? = (Rmc m S V2)[j']?) (hi : i < n) (hn : n < 2147483648) : zs_I (Rm m S V g) (m + j) t (zi i) v = some (Rm m S (va_up V k (va_up (V k) i v)) g) := by
  rw [zs_I_of (Rm_at hj (hc V)) hi hn]
  congr 1
  funext q
  by_cases hq : q = m + j
  · subst hq
    rw [Rm_at hj (hc _)]
    simp [va_up]
  · rw [show va_up (Rm m S V g) (m + j) _ q = Rm m S V g q from by simp [va_up, hq]]
    unfold Rm
    by_cases hr : m ≤ q ∧ q < m + 27
    · rw [if_pos hr, if_pos hr]
      refine ho _ _ (fun k' hk' => ?_) (q - m) (by omega)
      simp [va_up, hk']
    · rw [if_neg hr, if_neg hr]
theorem rO {β : Type} {o : Option β} : zz_isO (Rm m S V g) m 10 o = o := zz_isO_of Rm_0
theorem rgI_0 : zg_I (Rm m S V g) m 10 0 = some (S 0) := zg_I_of Rm_0 rfl
theorem rp_0 (v : Int32) : zp_V (Rm m S V g) m 10 0 (.int v) = some (Rm m (va_up S 0 v) V g) := Rm_put (by decide) rfl
theorem rgR_1 : zg_R (Rm m S V g) m 10 1 = some (m + 1) := zg_R_of Rm_0 rfl
theorem rgI_2 : zg_I (Rm m S V g) m 10 2 = some (S 2) := zg_I_of Rm_0 rfl
theorem rp_2 (v : Int32) : zp_V (Rm m S V g) m 10 2 (.int v) = some (Rm m (va_up S 2 v) V g) := Rm_put (by decide) rfl
theorem rgI_3 : zg_I (Rm m S V g) m 10 3 = some (S 3) := zg_I_of Rm_0 rfl
theorem rp_3 (v : Int32) : zp_V (Rm m S V g) m 10 3 (.int v) = some (Rm m (va_up S 3 v) V g) := Rm_put (by decide) rfl
theorem rgI_4 : zg_I (Rm m S V g) m 10 4 = some (S 4) := zg_I_of Rm_0 rfl
theorem rp_4 (v : Int32) : zp_V (Rm m S V g) m 10 4 (.int v) = some (Rm m (va_up S 4 v) V g) := Rm_put (by decide) rfl
theorem rgR_5 : zg_R (Rm m S V g) m 10 5 = some (m + 2) := zg_R_of Rm_0 rfl
theorem rgR_6 : zg_R (Rm m S V g) m 10 6 = some (m + 3) := zg_R_of Rm_0 rfl
theorem rgI_7 : zg_I (Rm m S V g) m 10 7 = some (S 7) := zg_I_of Rm_0 rfl
theorem rp_7 (v : Int32) : zp_V (Rm m S V g) m 10 7 (.int v) = some (Rm m (va_up S 7 v) V g) := Rm_put (by decide) rfl
theorem rgR_8 : zg_R (Rm m S V g) m 10 8 = some (m + 4) := zg_R_of Rm_0 rfl
theorem rgR_9 : zg_R (Rm m S V g) m 10 9 = some (m + 5) := zg_R_of Rm_0 rfl
theorem rgI_10 : zg_I (Rm m S V g) m 10 10 = some (S 10) := zg_I_of Rm_0 rfl
theorem rp_10 (v : Int32) : zp_V (Rm m S V g) m 10 10 (.int v) = some (Rm m (va_up S 10 v) V g) := Rm_put (by decide) rfl
theorem rgR_11 : zg_R (Rm m S V g) m 10 11 = some (m + 6) := zg_R_of Rm_0 rfl
theorem rgR_12 : zg_R (Rm m S V g) m 10 12 = some (m + 7) := zg_R_of Rm_0 rfl
theorem rgR_13 : zg_R (Rm m S V g) m 10 13 = some (m + 8) := zg_R_of Rm_0 rfl
theorem rgR_14 : zg_R (Rm m S V g) m 10 14 = some (m + 9) := zg_R_of Rm_0 rfl
theorem rgR_15 : zg_R (Rm m S V g) m 10 15 = some (m + 10) := zg_R_of Rm_0 rfl
theorem rgR_16 : zg_R (Rm m S V g) m 10 16 = some (m + 11) := zg_R_of Rm_0 rfl
theorem rgR_17 : zg_R (Rm m S V g) m 10 17 = some (m + 12) := zg_R_of Rm_0 rfl
theorem rgR_18 : zg_R (Rm m S V g) m 10 18 = some (m + 13) := zg_R_of Rm_0 rfl
theorem rgR_19 : zg_R (Rm m S V g) m 10 19 = some (m + 14) := zg_R_of Rm_0 rfl
theorem rgR_20 : zg_R (Rm m S V g) m 10 20 = some (m + 15) := zg_R_of Rm_0 rfl
theorem rgR_21 : zg_R (Rm m S V g) m 10 21 = some (m + 16) := zg_R_of Rm_0 rfl
theorem rgR_22 : zg_R (Rm m S V g) m 10 22 = some (m + 17) := zg_R_of Rm_0 rfl
theorem rgR_23 : zg_R (Rm m S V g) m 10 23 = some (m + 18) := zg_R_of Rm_0 rfl
theorem rgR_24 : zg_R (Rm m S V g) m 10 24 = some (m + 19) := zg_R_of Rm_0 rfl
theorem rgI_25 : zg_I (Rm m S V g) m 10 25 = some (S 25) := zg_I_of Rm_0 rfl
theorem rp_25 (v : Int32) : zp_V (Rm m S V g) m 10 25 (.int v) = some (Rm m (va_up S 25 v) V g) := Rm_put (by decide) rfl
theorem rgI_26 : zg_I (Rm m S V g) m 10 26 = some (S 26) := zg_I_of Rm_0 rfl
theorem rp_26 (v : Int32) : zp_V (Rm m S V g) m 10 26 (.int v) = some (Rm m (va_up S 26 v) V g) := Rm_put (by decide) rfl
theorem rgI_27 : zg_I (Rm m S V g) m 10 27 = some (S 27) := zg_I_of Rm_0 rfl
theorem rp_27 (v : Int32) : zp_V (Rm m S V g) m 10 27 (.int v) = some (Rm m (va_up S 27 v) V g) := Rm_put (by decide) rfl
theorem rgR_28 : zg_R (Rm m S V g) m 10 28 = some (m + 20) := zg_R_of Rm_0 rfl
theorem rgR_29 : zg_R (Rm m S V g) m 10 29 = some (m + 21) := zg_R_of Rm_0 rfl
theorem rgI_30 : zg_I (Rm m S V g) m 10 30 = some (S 30) := zg_I_of Rm_0 rfl
theorem rp_30 (v : Int32) : zp_V (Rm m S V g) m 10 30 (.int v) = some (Rm m (va_up S 30 v) V g) := Rm_put (by decide) rfl
theorem rgR_31 : zg_R (Rm m S V g) m 10 31 = some (m + 22) := zg_R_of Rm_0 rfl
theorem rgR_32 : zg_R (Rm m S V g) m 10 32 = some (m + 23) := zg_R_of Rm_0 rfl
theorem rgR_33 : zg_R (Rm m S V g) m 10 33 = some (m + 24) := zg_R_of Rm_0 rfl
theorem rgR_34 : zg_R (Rm m S V g) m 10 34 = some (m + 25) := zg_R_of Rm_0 rfl
theorem rgI_35 : zg_I (Rm m S V g) m 10 35 = some (S 35) := zg_I_of Rm_0 rfl
theorem rp_35 (v : Int32) : zp_V (Rm m S V g) m 10 35 (.int v) = some (Rm m (va_up S 35 v) V g) := Rm_put (by decide) rfl
theorem rgI_36 : zg_I (Rm m S V g) m 10 36 = some (S 36) := zg_I_of Rm_0 rfl
theorem rp_36 (v : Int32) : zp_V (Rm m S V g) m 10 36 (.int v) = some (Rm m (va_up S 36 v) V g) := Rm_put (by decide) rfl
theorem rgI_37 : zg_I (Rm m S V g) m 10 37 = some (S 37) := zg_I_of Rm_0 rfl
theorem rp_37 (v : Int32) : zp_V (Rm m S V g) m 10 37 (.int v) = some (Rm m (va_up S 37 v) V g) := Rm_put (by decide) rfl
theorem rgR_38 : zg_R (Rm m S V g) m 10 38 = some (m + 26) := zg_R_of Rm_0 rfl
theorem rgI_39 : zg_I (Rm m S V g) m 10 39 = some (S 39) := zg_I_of Rm_0 rfl
theorem rp_39 (v : Int32) : zp_V (Rm m S V g) m 10 39 (.int v) = some (Rm m (va_up S 39 v) V g) := Rm_put (by decide) rfl
theorem rl_1 {i : Nat} (hi : i < 600) : zl_I (Rm m S V g) (m + 1) 1 (zi i) = some (V 1 i) := zl_I_of (Rm_at (j := 1) (by decide) rfl) hi (by decide)
theorem ro_1 : ∀ (V' V2 : Nat → Nat → Int32), (∀ k', k' ≠ 1 → V' k' = V2 k') → ∀ j', j' ≠ 1 → (Rmc m S V')[j']? = (Rmc m S V2)[j']? := by
  intro V' V2 h j' hj
  unfold Rmc
  rw [h 5 (by decide), h 6 (by decide), h 8 (by decide), h 9 (by decide), h 11 (by decide), h 12 (by decide), h 13 (by decide), h 14 (by decide), h 15 (by decide), h 16 (by decide), h 17 (by decide), h 18 (by decide), h 19 (by decide), h 20 (by decide), h 21 (by decide), h 22 (by decide), h 23 (by decide), h 24 (by decide), h 28 (by decide), h 29 (by decide), h 31 (by decide), h 32 (by decide), h 33 (by decide), h 34 (by decide), h 38 (by decide)]
  match j', hj with
  | 0, _ => rfl
  | 1, hj => exact absurd rfl hj
  | 2, _ => rfl
  | 3, _ => rfl
  | 4, _ => rfl
  | 5, _ => rfl
  | 6, _ => rfl
  | 7, _ => rfl
  | 8, _ => rfl
  | 9, _ => rfl
  | 10, _ => rfl
  | 11, _ => rfl
  | 12, _ => rfl
  | 13, _ => rfl
  | 14, _ => rfl
  | 15, _ => rfl
  | 16, _ => rfl
  | 17, _ => rfl
  | 18, _ => rfl
  | 19, _ => rfl
  | 20, _ => rfl
  | 21, _ => rfl
  | 22, _ => rfl
  | 23, _ => rfl
  | 24, _ => rfl
  | 25, _ => rfl
  | 26, _ => rfl
  | j + 27, _ => rfl
theorem rs_1 {i : Nat} (v : Int32) (hi : i < 600) : zs_I (Rm m S V g) (m + 1) 1 (zi i) v = some (Rm m S (va_up V 1 (va_up (V 1) i v)) g) := Rm_st (j := 1) (by decide) (by decide) (fun _ => rfl) ro_1 hi (by decide)
theorem rl_5 {i : Nat} (hi : i < 96) : zl_I (Rm m S V g) (m + 2) 1 (zi i) = some (V 5 i) := zl_I_of (Rm_at (j := 2) (by decide) rfl) hi (by decide)
theorem ro_5 : ∀ (V' V2 : Nat → Nat → Int32), (∀ k', k' ≠ 5 → V' k' = V2 k') → ∀ j', j' ≠ 2 → (Rmc m S V')[j']? = (Rmc m S V2)[j']? := by
  intro V' V2 h j' hj
  unfold Rmc
  rw [h 1 (by decide), h 6 (by decide), h 8 (by decide), h 9 (by decide), h 11 (by decide), h 12 (by decide), h 13 (by decide), h 14 (by decide), h 15 (by decide), h 16 (by decide), h 17 (by decide), h 18 (by decide), h 19 (by decide), h 20 (by decide), h 21 (by decide), h 22 (by decide), h 23 (by decide), h 24 (by decide), h 28 (by decide), h 29 (by decide), h 31 (by decide), h 32 (by decide), h 33 (by decide), h 34 (by decide), h 38 (by decide)]
  match j', hj with
  | 0, _ => rfl
  | 1, _ => rfl
  | 2, hj => exact absurd rfl hj
  | 3, _ => rfl
  | 4, _ => rfl
  | 5, _ => rfl
  | 6, _ => rfl
  | 7, _ => rfl
  | 8, _ => rfl
  | 9, _ => rfl
  | 10, _ => rfl
  | 11, _ => rfl
  | 12, _ => rfl
  | 13, _ => rfl
  | 14, _ => rfl
  | 15, _ => rfl
  | 16, _ => rfl
  | 17, _ => rfl
  | 18, _ => rfl
  | 19, _ => rfl
  | 20, _ => rfl
  | 21, _ => rfl
  | 22, _ => rfl
  | 23, _ => rfl
  | 24, _ => rfl
  | 25, _ => rfl
  | 26, _ => rfl
  | j + 27, _ => rfl
theorem rs_5 {i : Nat} (v : Int32) (hi : i < 96) : zs_I (Rm m S V g) (m + 2) 1 (zi i) v = some (Rm m S (va_up V 5 (va_up (V 5) i v)) g) := Rm_st (j := 2) (by decide) (by decide) (fun _ => rfl) ro_5 hi (by decide)
theorem rl_6 {i : Nat} (hi : i < 16) : zl_I (Rm m S V g) (m + 3) 1 (zi i) = some (V 6 i) := zl_I_of (Rm_at (j := 3) (by decide) rfl) hi (by decide)
theorem ro_6 : ∀ (V' V2 : Nat → Nat → Int32), (∀ k', k' ≠ 6 → V' k' = V2 k') → ∀ j', j' ≠ 3 → (Rmc m S V')[j']? = (Rmc m S V2)[j']? := by
  intro V' V2 h j' hj
  unfold Rmc
  rw [h 1 (by decide), h 5 (by decide), h 8 (by decide), h 9 (by decide), h 11 (by decide), h 12 (by decide), h 13 (by decide), h 14 (by decide), h 15 (by decide), h 16 (by decide), h 17 (by decide), h 18 (by decide), h 19 (by decide), h 20 (by decide), h 21 (by decide), h 22 (by decide), h 23 (by decide), h 24 (by decide), h 28 (by decide), h 29 (by decide), h 31 (by decide), h 32 (by decide), h 33 (by decide), h 34 (by decide), h 38 (by decide)]
  match j', hj with
  | 0, _ => rfl
  | 1, _ => rfl
  | 2, _ => rfl
  | 3, hj => exact absurd rfl hj
  | 4, _ => rfl
  | 5, _ => rfl
  | 6, _ => rfl
  | 7, _ => rfl
  | 8, _ => rfl
  | 9, _ => rfl
  | 10, _ => rfl
  | 11, _ => rfl
  | 12, _ => rfl
  | 13, _ => rfl
  | 14, _ => rfl
  | 15, _ => rfl
  | 16, _ => rfl
  | 17, _ => rfl
  | 18, _ => rfl
  | 19, _ => rfl
  | 20, _ => rfl
  | 21, _ => rfl
  | 22, _ => rfl
  | 23, _ => rfl
  | 24, _ => rfl
  | 25, _ => rfl
  | 26, _ => rfl
  | j + 27, _ => rfl
theorem rs_6 {i : Nat} (v : Int32) (hi : i < 16) : zs_I (Rm m S V g) (m + 3) 1 (zi i) v = some (Rm m S (va_up V 6 (va_up (V 6) i v)) g) := Rm_st (j := 3) (by decide) (by decide) (fun _ => rfl) ro_6 hi (by decide)
theorem rl_8 {i : Nat} (hi : i < 480) : zl_I (Rm m S V g) (m + 4) 1 (zi i) = some (V 8 i) := zl_I_of (Rm_at (j := 4) (by decide) rfl) hi (by decide)
theorem ro_8 : ∀ (V' V2 : Nat → Nat → Int32), (∀ k', k' ≠ 8 → V' k' = V2 k') → ∀ j', j' ≠ 4 → (Rmc m S V')[j']? = (Rmc m S V2)[j']? := by
  intro V' V2 h j' hj
  unfold Rmc
  rw [h 1 (by decide), h 5 (by decide), h 6 (by decide), h 9 (by decide), h 11 (by decide), h 12 (by decide), h 13 (by decide), h 14 (by decide), h 15 (by decide), h 16 (by decide), h 17 (by decide), h 18 (by decide), h 19 (by decide), h 20 (by decide), h 21 (by decide), h 22 (by decide), h 23 (by decide), h 24 (by decide), h 28 (by decide), h 29 (by decide), h 31 (by decide), h 32 (by decide), h 33 (by decide), h 34 (by decide), h 38 (by decide)]
  match j', hj with
  | 0, _ => rfl
  | 1, _ => rfl
  | 2, _ => rfl
  | 3, _ => rfl
  | 4, hj => exact absurd rfl hj
  | 5, _ => rfl
  | 6, _ => rfl
  | 7, _ => rfl
  | 8, _ => rfl
  | 9, _ => rfl
  | 10, _ => rfl
  | 11, _ => rfl
  | 12, _ => rfl
  | 13, _ => rfl
  | 14, _ => rfl
  | 15, _ => rfl
  | 16, _ => rfl
  | 17, _ => rfl
  | 18, _ => rfl
  | 19, _ => rfl
  | 20, _ => rfl
  | 21, _ => rfl
  | 22, _ => rfl
  | 23, _ => rfl
  | 24, _ => rfl
  | 25, _ => rfl
  | 26, _ => rfl
  | j + 27, _ => rfl
theorem rs_8 {i : Nat} (v : Int32) (hi : i < 480) : zs_I (Rm m S V g) (m + 4) 1 (zi i) v = some (Rm m S (va_up V 8 (va_up (V 8) i v)) g) := Rm_st (j := 4) (by decide) (by decide) (fun _ => rfl) ro_8 hi (by decide)
theorem rl_9 {i : Nat} (hi : i < 24) : zl_I (Rm m S V g) (m + 5) 1 (zi i) = some (V 9 i) := zl_I_of (Rm_at (j := 5) (by decide) rfl) hi (by decide)
theorem ro_9 : ∀ (V' V2 : Nat → Nat → Int32), (∀ k', k' ≠ 9 → V' k' = V2 k') → ∀ j', j' ≠ 5 → (Rmc m S V')[j']? = (Rmc m S V2)[j']? := by
  intro V' V2 h j' hj
  unfold Rmc
  rw [h 1 (by decide), h 5 (by decide), h 6 (by decide), h 8 (by decide), h 11 (by decide), h 12 (by decide), h 13 (by decide), h 14 (by decide), h 15 (by decide), h 16 (by decide), h 17 (by decide), h 18 (by decide), h 19 (by decide), h 20 (by decide), h 21 (by decide), h 22 (by decide), h 23 (by decide), h 24 (by decide), h 28 (by decide), h 29 (by decide), h 31 (by decide), h 32 (by decide), h 33 (by decide), h 34 (by decide), h 38 (by decide)]
  match j', hj with
  | 0, _ => rfl
  | 1, _ => rfl
  | 2, _ => rfl
  | 3, _ => rfl
  | 4, _ => rfl
  | 5, hj => exact absurd rfl hj
  | 6, _ => rfl
  | 7, _ => rfl
  | 8, _ => rfl
  | 9, _ => rfl
  | 10, _ => rfl
  | 11, _ => rfl
  | 12, _ => rfl
  | 13, _ => rfl
  | 14, _ => rfl
  | 15, _ => rfl
  | 16, _ => rfl
  | 17, _ => rfl
  | 18, _ => rfl
  | 19, _ => rfl
  | 20, _ => rfl
  | 21, _ => rfl
  | 22, _ => rfl
  | 23, _ => rfl
  | 24, _ => rfl
  | 25, _ => rfl
  | 26, _ => rfl
  | j + 27, _ => rfl
theorem rs_9 {i : Nat} (v : Int32) (hi : i < 24) : zs_I (Rm m S V g) (m + 5) 1 (zi i) v = some (Rm m S (va_up V 9 (va_up (V 9) i v)) g) := Rm_st (j := 5) (by decide) (by decide) (fun _ => rfl) ro_9 hi (by decide)
theorem rl_11 {i : Nat} (hi : i < 30) : zl_I (Rm m S V g) (m + 6) 1 (zi i) = some (V 11 i) := zl_I_of (Rm_at (j := 6) (by decide) rfl) hi (by decide)
theorem ro_11 : ∀ (V' V2 : Nat → Nat → Int32), (∀ k', k' ≠ 11 → V' k' = V2 k') → ∀ j', j' ≠ 6 → (Rmc m S V')[j']? = (Rmc m S V2)[j']? := by
  intro V' V2 h j' hj
  unfold Rmc
  rw [h 1 (by decide), h 5 (by decide), h 6 (by decide), h 8 (by decide), h 9 (by decide), h 12 (by decide), h 13 (by decide), h 14 (by decide), h 15 (by decide), h 16 (by decide), h 17 (by decide), h 18 (by decide), h 19 (by decide), h 20 (by decide), h 21 (by decide), h 22 (by decide), h 23 (by decide), h 24 (by decide), h 28 (by decide), h 29 (by decide), h 31 (by decide), h 32 (by decide), h 33 (by decide), h 34 (by decide), h 38 (by decide)]
  match j', hj with
  | 0, _ => rfl
  | 1, _ => rfl
  | 2, _ => rfl
  | 3, _ => rfl
  | 4, _ => rfl
  | 5, _ => rfl
  | 6, hj => exact absurd rfl hj
  | 7, _ => rfl
  | 8, _ => rfl
  | 9, _ => rfl
  | 10, _ => rfl
  | 11, _ => rfl
  | 12, _ => rfl
  | 13, _ => rfl
  | 14, _ => rfl
  | 15, _ => rfl
  | 16, _ => rfl
  | 17, _ => rfl
  | 18, _ => rfl
  | 19, _ => rfl
  | 20, _ => rfl
  | 21, _ => rfl
  | 22, _ => rfl
  | 23, _ => rfl
  | 24, _ => rfl
  | 25, _ => rfl
  | 26, _ => rfl
  | j + 27, _ => rfl
theorem rs_11 {i : Nat} (v : Int32) (hi : i < 30) : zs_I (Rm m S V g) (m + 6) 1 (zi i) v = some (Rm m S (va_up V 11 (va_up (V 11) i v)) g) := Rm_st (j := 6) (by decide) (by decide) (fun _ => rfl) ro_11 hi (by decide)
theorem rl_12 {i : Nat} (hi : i < 30) : zl_I (Rm m S V g) (m + 7) 1 (zi i) = some (V 12 i) := zl_I_of (Rm_at (j := 7) (by decide) rfl) hi (by decide)
theorem ro_12 : ∀ (V' V2 : Nat → Nat → Int32), (∀ k', k' ≠ 12 → V' k' = V2 k') → ∀ j', j' ≠ 7 → (Rmc m S V')[j']? = (Rmc m S V2)[j']? := by
  intro V' V2 h j' hj
  unfold Rmc
  rw [h 1 (by decide), h 5 (by decide), h 6 (by decide), h 8 (by decide), h 9 (by decide), h 11 (by decide), h 13 (by decide), h 14 (by decide), h 15 (by decide), h 16 (by decide), h 17 (by decide), h 18 (by decide), h 19 (by decide), h 20 (by decide), h 21 (by decide), h 22 (by decide), h 23 (by decide), h 24 (by decide), h 28 (by decide), h 29 (by decide), h 31 (by decide), h 32 (by decide), h 33 (by decide), h 34 (by decide), h 38 (by decide)]
  match j', hj with
  | 0, _ => rfl
  | 1, _ => rfl
  | 2, _ => rfl
  | 3, _ => rfl
  | 4, _ => rfl
  | 5, _ => rfl
  | 6, _ => rfl
  | 7, hj => exact absurd rfl hj
  | 8, _ => rfl
  | 9, _ => rfl
  | 10, _ => rfl
  | 11, _ => rfl
  | 12, _ => rfl
  | 13, _ => rfl
  | 14, _ => rfl
  | 15, _ => rfl
  | 16, _ => rfl
  | 17, _ => rfl
  | 18, _ => rfl
  | 19, _ => rfl
  | 20, _ => rfl
  | 21, _ => rfl
  | 22, _ => rfl
  | 23, _ => rfl
  | 24, _ => rfl
  | 25, _ => rfl
  | 26, _ => rfl
  | j + 27, _ => rfl
theorem rs_12 {i : Nat} (v : Int32) (hi : i < 30) : zs_I (Rm m S V g) (m + 7) 1 (zi i) v = some (Rm m S (va_up V 12 (va_up (V 12) i v)) g) := Rm_st (j := 7) (by decide) (by decide) (fun _ => rfl) ro_12 hi (by decide)
theorem rl_13 {i : Nat} (hi : i < 30) : zl_I (Rm m S V g) (m + 8) 1 (zi i) = some (V 13 i) := zl_I_of (Rm_at (j := 8) (by decide) rfl) hi (by decide)
theorem ro_13 : ∀ (V' V2 : Nat → Nat → Int32), (∀ k', k' ≠ 13 → V' k' = V2 k') → ∀ j', j' ≠ 8 → (Rmc m S V')[j']? = (Rmc m S V2)[j']? := by
  intro V' V2 h j' hj
  unfold Rmc
  rw [h 1 (by decide), h 5 (by decide), h 6 (by decide), h 8 (by decide), h 9 (by decide), h 11 (by decide), h 12 (by decide), h 14 (by decide), h 15 (by decide), h 16 (by decide), h 17 (by decide), h 18 (by decide), h 19 (by decide), h 20 (by decide), h 21 (by decide), h 22 (by decide), h 23 (by decide), h 24 (by decide), h 28 (by decide), h 29 (by decide), h 31 (by decide), h 32 (by decide), h 33 (by decide), h 34 (by decide), h 38 (by decide)]
  match j', hj with
  | 0, _ => rfl
  | 1, _ => rfl
  | 2, _ => rfl
  | 3, _ => rfl
  | 4, _ => rfl
  | 5, _ => rfl
  | 6, _ => rfl
  | 7, _ => rfl
  | 8, hj => exact absurd rfl hj
  | 9, _ => rfl
  | 10, _ => rfl
  | 11, _ => rfl
  | 12, _ => rfl
  | 13, _ => rfl
  | 14, _ => rfl
  | 15, _ => rfl
  | 16, _ => rfl
  | 17, _ => rfl
  | 18, _ => rfl
  | 19, _ => rfl
  | 20, _ => rfl
  | 21, _ => rfl
  | 22, _ => rfl
  | 23, _ => rfl
  | 24, _ => rfl
  | 25, _ => rfl
  | 26, _ => rfl
  | j + 27, _ => rfl
theorem rs_13 {i : Nat} (v : Int32) (hi : i < 30) : zs_I (Rm m S V g) (m + 8) 1 (zi i) v = some (Rm m S (va_up V 13 (va_up (V 13) i v)) g) := Rm_st (j := 8) (by decide) (by decide) (fun _ => rfl) ro_13 hi (by decide)
theorem rl_14 {i : Nat} (hi : i < 30) : zl_I (Rm m S V g) (m + 9) 1 (zi i) = some (V 14 i) := zl_I_of (Rm_at (j := 9) (by decide) rfl) hi (by decide)
theorem ro_14 : ∀ (V' V2 : Nat → Nat → Int32), (∀ k', k' ≠ 14 → V' k' = V2 k') → ∀ j', j' ≠ 9 → (Rmc m S V')[j']? = (Rmc m S V2)[j']? := by
  intro V' V2 h j' hj
  unfold Rmc
  rw [h 1 (by decide), h 5 (by decide), h 6 (by decide), h 8 (by decide), h 9 (by decide), h 11 (by decide), h 12 (by decide), h 13 (by decide), h 15 (by decide), h 16 (by decide), h 17 (by decide), h 18 (by decide), h 19 (by decide), h 20 (by decide), h 21 (by decide), h 22 (by decide), h 23 (by decide), h 24 (by decide), h 28 (by decide), h 29 (by decide), h 31 (by decide), h 32 (by decide), h 33 (by decide), h 34 (by decide), h 38 (by decide)]
  match j', hj with
  | 0, _ => rfl
  | 1, _ => rfl
  | 2, _ => rfl
  | 3, _ => rfl
  | 4, _ => rfl
  | 5, _ => rfl
  | 6, _ => rfl
  | 7, _ => rfl
  | 8, _ => rfl
  | 9, hj => exact absurd rfl hj
  | 10, _ => rfl
  | 11, _ => rfl
  | 12, _ => rfl
  | 13, _ => rfl
  | 14, _ => rfl
  | 15, _ => rfl
  | 16, _ => rfl
  | 17, _ => rfl
  | 18, _ => rfl
  | 19, _ => rfl
  | 20, _ => rfl
  | 21, _ => rfl
  | 22, _ => rfl
  | 23, _ => rfl
  | 24, _ => rfl
  | 25, _ => rfl
  | 26, _ => rfl
  | j + 27, _ => rfl
theorem rs_14 {i : Nat} (v : Int32) (hi : i < 30) : zs_I (Rm m S V g) (m + 9) 1 (zi i) v = some (Rm m S (va_up V 14 (va_up (V 14) i v)) g) := Rm_st (j := 9) (by decide) (by decide) (fun _ => rfl) ro_14 hi (by decide)
theorem rl_15 {i : Nat} (hi : i < 30) : zl_I (Rm m S V g) (m + 10) 1 (zi i) = some (V 15 i) := zl_I_of (Rm_at (j := 10) (by decide) rfl) hi (by decide)
theorem ro_15 : ∀ (V' V2 : Nat → Nat → Int32), (∀ k', k' ≠ 15 → V' k' = V2 k') → ∀ j', j' ≠ 10 → (Rmc m S V')[j']? = (Rmc m S V2)[j']? := by
  intro V' V2 h j' hj
  unfold Rmc
  rw [h 1 (by decide), h 5 (by decide), h 6 (by decide), h 8 (by decide), h 9 (by decide), h 11 (by decide), h 12 (by decide), h 13 (by decide), h 14 (by decide), h 16 (by decide), h 17 (by decide), h 18 (by decide), h 19 (by decide), h 20 (by decide), h 21 (by decide), h 22 (by decide), h 23 (by decide), h 24 (by decide), h 28 (by decide), h 29 (by decide), h 31 (by decide), h 32 (by decide), h 33 (by decide), h 34 (by decide), h 38 (by decide)]
  match j', hj with
  | 0, _ => rfl
  | 1, _ => rfl
  | 2, _ => rfl
  | 3, _ => rfl
  | 4, _ => rfl
  | 5, _ => rfl
  | 6, _ => rfl
  | 7, _ => rfl
  | 8, _ => rfl
  | 9, _ => rfl
  | 10, hj => exact absurd rfl hj
  | 11, _ => rfl
  | 12, _ => rfl
  | 13, _ => rfl
  | 14, _ => rfl
  | 15, _ => rfl
  | 16, _ => rfl
  | 17, _ => rfl
  | 18, _ => rfl
  | 19, _ => rfl
  | 20, _ => rfl
  | 21, _ => rfl
  | 22, _ => rfl
  | 23, _ => rfl
  | 24, _ => rfl
  | 25, _ => rfl
  | 26, _ => rfl
  | j + 27, _ => rfl
theorem rs_15 {i : Nat} (v : Int32) (hi : i < 30) : zs_I (Rm m S V g) (m + 10) 1 (zi i) v = some (Rm m S (va_up V 15 (va_up (V 15) i v)) g) := Rm_st (j := 10) (by decide) (by decide) (fun _ => rfl) ro_15 hi (by decide)
theorem rl_16 {i : Nat} (hi : i < 30) : zl_I (Rm m S V g) (m + 11) 1 (zi i) = some (V 16 i) := zl_I_of (Rm_at (j := 11) (by decide) rfl) hi (by decide)
theorem ro_16 : ∀ (V' V2 : Nat → Nat → Int32), (∀ k', k' ≠ 16 → V' k' = V2 k') → ∀ j', j' ≠ 11 → (Rmc m S V')[j']? = (Rmc m S V2)[j']? := by
  intro V' V2 h j' hj
  unfold Rmc
  rw [h 1 (by decide), h 5 (by decide), h 6 (by decide), h 8 (by decide), h 9 (by decide), h 11 (by decide), h 12 (by decide), h 13 (by decide), h 14 (by decide), h 15 (by decide), h 17 (by decide), h 18 (by decide), h 19 (by decide), h 20 (by decide), h 21 (by decide), h 22 (by decide), h 23 (by decide), h 24 (by decide), h 28 (by decide), h 29 (by decide), h 31 (by decide), h 32 (by decide), h 33 (by decide), h 34 (by decide), h 38 (by decide)]
  match j', hj with
  | 0, _ => rfl
  | 1, _ => rfl
  | 2, _ => rfl
  | 3, _ => rfl
  | 4, _ => rfl
  | 5, _ => rfl
  | 6, _ => rfl
  | 7, _ => rfl
  | 8, _ => rfl
  | 9, _ => rfl
  | 10, _ => rfl
  | 11, hj => exact absurd rfl hj
  | 12, _ => rfl
  | 13, _ => rfl
  | 14, _ => rfl
  | 15, _ => rfl
  | 16, _ => rfl
  | 17, _ => rfl
  | 18, _ => rfl
  | 19, _ => rfl
  | 20, _ => rfl
  | 21, _ => rfl
  | 22, _ => rfl
  | 23, _ => rfl
  | 24, _ => rfl
  | 25, _ => rfl
  | 26, _ => rfl
  | j + 27, _ => rfl
theorem rs_16 {i : Nat} (v : Int32) (hi : i < 30) : zs_I (Rm m S V g) (m + 11) 1 (zi i) v = some (Rm m S (va_up V 16 (va_up (V 16) i v)) g) := Rm_st (j := 11) (by decide) (by decide) (fun _ => rfl) ro_16 hi (by decide)
theorem rl_17 {i : Nat} (hi : i < 30) : zl_I (Rm m S V g) (m + 12) 1 (zi i) = some (V 17 i) := zl_I_of (Rm_at (j := 12) (by decide) rfl) hi (by decide)
theorem ro_17 : ∀ (V' V2 : Nat → Nat → Int32), (∀ k', k' ≠ 17 → V' k' = V2 k') → ∀ j', j' ≠ 12 → (Rmc m S V')[j']? = (Rmc m S V2)[j']? := by
  intro V' V2 h j' hj
  unfold Rmc
  rw [h 1 (by decide), h 5 (by decide), h 6 (by decide), h 8 (by decide), h 9 (by decide), h 11 (by decide), h 12 (by decide), h 13 (by decide), h 14 (by decide), h 15 (by decide), h 16 (by decide), h 18 (by decide), h 19 (by decide), h 20 (by decide), h 21 (by decide), h 22 (by decide), h 23 (by decide), h 24 (by decide), h 28 (by decide), h 29 (by decide), h 31 (by decide), h 32 (by decide), h 33 (by decide), h 34 (by decide), h 38 (by decide)]
  match j', hj with
  | 0, _ => rfl
  | 1, _ => rfl
  | 2, _ => rfl
  | 3, _ => rfl
  | 4, _ => rfl
  | 5, _ => rfl
  | 6, _ => rfl
  | 7, _ => rfl
  | 8, _ => rfl
  | 9, _ => rfl
  | 10, _ => rfl
  | 11, _ => rfl
  | 12, hj => exact absurd rfl hj
  | 13, _ => rfl
  | 14, _ => rfl
  | 15, _ => rfl
  | 16, _ => rfl
  | 17, _ => rfl
  | 18, _ => rfl
  | 19, _ => rfl
  | 20, _ => rfl
  | 21, _ => rfl
  | 22, _ => rfl
  | 23, _ => rfl
  | 24, _ => rfl
  | 25, _ => rfl
  | 26, _ => rfl
  | j + 27, _ => rfl
theorem rs_17 {i : Nat} (v : Int32) (hi : i < 30) : zs_I (Rm m S V g) (m + 12) 1 (zi i) v = some (Rm m S (va_up V 17 (va_up (V 17) i v)) g) := Rm_st (j := 12) (by decide) (by decide) (fun _ => rfl) ro_17 hi (by decide)
theorem rl_18 {i : Nat} (hi : i < 30) : zl_I (Rm m S V g) (m + 13) 1 (zi i) = some (V 18 i) := zl_I_of (Rm_at (j := 13) (by decide) rfl) hi (by decide)
theorem ro_18 : ∀ (V' V2 : Nat → Nat → Int32), (∀ k', k' ≠ 18 → V' k' = V2 k') → ∀ j', j' ≠ 13 → (Rmc m S V')[j']? = (Rmc m S V2)[j']? := by
  intro V' V2 h j' hj
  unfold Rmc
  rw [h 1 (by decide), h 5 (by decide), h 6 (by decide), h 8 (by decide), h 9 (by decide), h 11 (by decide), h 12 (by decide), h 13 (by decide), h 14 (by decide), h 15 (by decide), h 16 (by decide), h 17 (by decide), h 19 (by decide), h 20 (by decide), h 21 (by decide), h 22 (by decide), h 23 (by decide), h 24 (by decide), h 28 (by decide), h 29 (by decide), h 31 (by decide), h 32 (by decide), h 33 (by decide), h 34 (by decide), h 38 (by decide)]
  match j', hj with
  | 0, _ => rfl
  | 1, _ => rfl
  | 2, _ => rfl
  | 3, _ => rfl
  | 4, _ => rfl
  | 5, _ => rfl
  | 6, _ => rfl
  | 7, _ => rfl
  | 8, _ => rfl
  | 9, _ => rfl
  | 10, _ => rfl
  | 11, _ => rfl
  | 12, _ => rfl
  | 13, hj => exact absurd rfl hj
  | 14, _ => rfl
  | 15, _ => rfl
  | 16, _ => rfl
  | 17, _ => rfl
  | 18, _ => rfl
  | 19, _ => rfl
  | 20, _ => rfl
  | 21, _ => rfl
  | 22, _ => rfl
  | 23, _ => rfl
  | 24, _ => rfl
  | 25, _ => rfl
  | 26, _ => rfl
  | j + 27, _ => rfl
theorem rs_18 {i : Nat} (v : Int32) (hi : i < 30) : zs_I (Rm m S V g) (m + 13) 1 (zi i) v = some (Rm m S (va_up V 18 (va_up (V 18) i v)) g) := Rm_st (j := 13) (by decide) (by decide) (fun _ => rfl) ro_18 hi (by decide)
theorem rl_19 {i : Nat} (hi : i < 30) : zl_I (Rm m S V g) (m + 14) 1 (zi i) = some (V 19 i) := zl_I_of (Rm_at (j := 14) (by decide) rfl) hi (by decide)
theorem ro_19 : ∀ (V' V2 : Nat → Nat → Int32), (∀ k', k' ≠ 19 → V' k' = V2 k') → ∀ j', j' ≠ 14 → (Rmc m S V')[j']? = (Rmc m S V2)[j']? := by
  intro V' V2 h j' hj
  unfold Rmc
  rw [h 1 (by decide), h 5 (by decide), h 6 (by decide), h 8 (by decide), h 9 (by decide), h 11 (by decide), h 12 (by decide), h 13 (by decide), h 14 (by decide), h 15 (by decide), h 16 (by decide), h 17 (by decide), h 18 (by decide), h 20 (by decide), h 21 (by decide), h 22 (by decide), h 23 (by decide), h 24 (by decide), h 28 (by decide), h 29 (by decide), h 31 (by decide), h 32 (by decide), h 33 (by decide), h 34 (by decide), h 38 (by decide)]
  match j', hj with
  | 0, _ => rfl
  | 1, _ => rfl
  | 2, _ => rfl
  | 3, _ => rfl
  | 4, _ => rfl
  | 5, _ => rfl
  | 6, _ => rfl
  | 7, _ => rfl
  | 8, _ => rfl
  | 9, _ => rfl
  | 10, _ => rfl
  | 11, _ => rfl
  | 12, _ => rfl
  | 13, _ => rfl
  | 14, hj => exact absurd rfl hj
  | 15, _ => rfl
  | 16, _ => rfl
  | 17, _ => rfl
  | 18, _ => rfl
  | 19, _ => rfl
  | 20, _ => rfl
  | 21, _ => rfl
  | 22, _ => rfl
  | 23, _ => rfl
  | 24, _ => rfl
  | 25, _ => rfl
  | 26, _ => rfl
  | j + 27, _ => rfl
theorem rs_19 {i : Nat} (v : Int32) (hi : i < 30) : zs_I (Rm m S V g) (m + 14) 1 (zi i) v = some (Rm m S (va_up V 19 (va_up (V 19) i v)) g) := Rm_st (j := 14) (by decide) (by decide) (fun _ => rfl) ro_19 hi (by decide)
theorem rl_20 {i : Nat} (hi : i < 30) : zl_I (Rm m S V g) (m + 15) 1 (zi i) = some (V 20 i) := zl_I_of (Rm_at (j := 15) (by decide) rfl) hi (by decide)
theorem ro_20 : ∀ (V' V2 : Nat → Nat → Int32), (∀ k', k' ≠ 20 → V' k' = V2 k') → ∀ j', j' ≠ 15 → (Rmc m S V')[j']? = (Rmc m S V2)[j']? := by
  intro V' V2 h j' hj
  unfold Rmc
  rw [h 1 (by decide), h 5 (by decide), h 6 (by decide), h 8 (by decide), h 9 (by decide), h 11 (by decide), h 12 (by decide), h 13 (by decide), h 14 (by decide), h 15 (by decide), h 16 (by decide), h 17 (by decide), h 18 (by decide), h 19 (by decide), h 21 (by decide), h 22 (by decide), h 23 (by decide), h 24 (by decide), h 28 (by decide), h 29 (by decide), h 31 (by decide), h 32 (by decide), h 33 (by decide), h 34 (by decide), h 38 (by decide)]
  match j', hj with
  | 0, _ => rfl
  | 1, _ => rfl
  | 2, _ => rfl
  | 3, _ => rfl
  | 4, _ => rfl
  | 5, _ => rfl
  | 6, _ => rfl
  | 7, _ => rfl
  | 8, _ => rfl
  | 9, _ => rfl
  | 10, _ => rfl
  | 11, _ => rfl
  | 12, _ => rfl
  | 13, _ => rfl
  | 14, _ => rfl
  | 15, hj => exact absurd rfl hj
  | 16, _ => rfl
  | 17, _ => rfl
  | 18, _ => rfl
  | 19, _ => rfl
  | 20, _ => rfl
  | 21, _ => rfl
  | 22, _ => rfl
  | 23, _ => rfl
  | 24, _ => rfl
  | 25, _ => rfl
  | 26, _ => rfl
  | j + 27, _ => rfl
theorem rs_20 {i : Nat} (v : Int32) (hi : i < 30) : zs_I (Rm m S V g) (m + 15) 1 (zi i) v = some (Rm m S (va_up V 20 (va_up (V 20) i v)) g) := Rm_st (j := 15) (by decide) (by decide) (fun _ => rfl) ro_20 hi (by decide)
theorem rl_21 {i : Nat} (hi : i < 25) : zl_I (Rm m S V g) (m + 16) 1 (zi i) = some (V 21 i) := zl_I_of (Rm_at (j := 16) (by decide) rfl) hi (by decide)
theorem ro_21 : ∀ (V' V2 : Nat → Nat → Int32), (∀ k', k' ≠ 21 → V' k' = V2 k') → ∀ j', j' ≠ 16 → (Rmc m S V')[j']? = (Rmc m S V2)[j']? := by
  intro V' V2 h j' hj
  unfold Rmc
  rw [h 1 (by decide), h 5 (by decide), h 6 (by decide), h 8 (by decide), h 9 (by decide), h 11 (by decide), h 12 (by decide), h 13 (by decide), h 14 (by decide), h 15 (by decide), h 16 (by decide), h 17 (by decide), h 18 (by decide), h 19 (by decide), h 20 (by decide), h 22 (by decide), h 23 (by decide), h 24 (by decide), h 28 (by decide), h 29 (by decide), h 31 (by decide), h 32 (by decide), h 33 (by decide), h 34 (by decide), h 38 (by decide)]
  match j', hj with
  | 0, _ => rfl
  | 1, _ => rfl
  | 2, _ => rfl
  | 3, _ => rfl
  | 4, _ => rfl
  | 5, _ => rfl
  | 6, _ => rfl
  | 7, _ => rfl
  | 8, _ => rfl
  | 9, _ => rfl
  | 10, _ => rfl
  | 11, _ => rfl
  | 12, _ => rfl
  | 13, _ => rfl
  | 14, _ => rfl
  | 15, _ => rfl
  | 16, hj => exact absurd rfl hj
  | 17, _ => rfl
  | 18, _ => rfl
  | 19, _ => rfl
  | 20, _ => rfl
  | 21, _ => rfl
  | 22, _ => rfl
  | 23, _ => rfl
  | 24, _ => rfl
  | 25, _ => rfl
  | 26, _ => rfl
  | j + 27, _ => rfl
theorem rs_21 {i : Nat} (v : Int32) (hi : i < 25) : zs_I (Rm m S V g) (m + 16) 1 (zi i) v = some (Rm m S (va_up V 21 (va_up (V 21) i v)) g) := Rm_st (j := 16) (by decide) (by decide) (fun _ => rfl) ro_21 hi (by decide)
theorem rl_22 {i : Nat} (hi : i < 4) : zl_I (Rm m S V g) (m + 17) 1 (zi i) = some (V 22 i) := zl_I_of (Rm_at (j := 17) (by decide) rfl) hi (by decide)
theorem ro_22 : ∀ (V' V2 : Nat → Nat → Int32), (∀ k', k' ≠ 22 → V' k' = V2 k') → ∀ j', j' ≠ 17 → (Rmc m S V')[j']? = (Rmc m S V2)[j']? := by
  intro V' V2 h j' hj
  unfold Rmc
  rw [h 1 (by decide), h 5 (by decide), h 6 (by decide), h 8 (by decide), h 9 (by decide), h 11 (by decide), h 12 (by decide), h 13 (by decide), h 14 (by decide), h 15 (by decide), h 16 (by decide), h 17 (by decide), h 18 (by decide), h 19 (by decide), h 20 (by decide), h 21 (by decide), h 23 (by decide), h 24 (by decide), h 28 (by decide), h 29 (by decide), h 31 (by decide), h 32 (by decide), h 33 (by decide), h 34 (by decide), h 38 (by decide)]
  match j', hj with
  | 0, _ => rfl
  | 1, _ => rfl
  | 2, _ => rfl
  | 3, _ => rfl
  | 4, _ => rfl
  | 5, _ => rfl
  | 6, _ => rfl
  | 7, _ => rfl
  | 8, _ => rfl
  | 9, _ => rfl
  | 10, _ => rfl
  | 11, _ => rfl
  | 12, _ => rfl
  | 13, _ => rfl
  | 14, _ => rfl
  | 15, _ => rfl
  | 16, _ => rfl
  | 17, hj => exact absurd rfl hj
  | 18, _ => rfl
  | 19, _ => rfl
  | 20, _ => rfl
  | 21, _ => rfl
  | 22, _ => rfl
  | 23, _ => rfl
  | 24, _ => rfl
  | 25, _ => rfl
  | 26, _ => rfl
  | j + 27, _ => rfl
theorem rs_22 {i : Nat} (v : Int32) (hi : i < 4) : zs_I (Rm m S V g) (m + 17) 1 (zi i) v = some (Rm m S (va_up V 22 (va_up (V 22) i v)) g) := Rm_st (j := 17) (by decide) (by decide) (fun _ => rfl) ro_22 hi (by decide)
theorem rl_23 {i : Nat} (hi : i < 4) : zl_I (Rm m S V g) (m + 18) 1 (zi i) = some (V 23 i) := zl_I_of (Rm_at (j := 18) (by decide) rfl) hi (by decide)
theorem ro_23 : ∀ (V' V2 : Nat → Nat → Int32), (∀ k', k' ≠ 23 → V' k' = V2 k') → ∀ j', j' ≠ 18 → (Rmc m S V')[j']? = (Rmc m S V2)[j']? := by
  intro V' V2 h j' hj
  unfold Rmc
  rw [h 1 (by decide), h 5 (by decide), h 6 (by decide), h 8 (by decide), h 9 (by decide), h 11 (by decide), h 12 (by decide), h 13 (by decide), h 14 (by decide), h 15 (by decide), h 16 (by decide), h 17 (by decide), h 18 (by decide), h 19 (by decide), h 20 (by decide), h 21 (by decide), h 22 (by decide), h 24 (by decide), h 28 (by decide), h 29 (by decide), h 31 (by decide), h 32 (by decide), h 33 (by decide), h 34 (by decide), h 38 (by decide)]
  match j', hj with
  | 0, _ => rfl
  | 1, _ => rfl
  | 2, _ => rfl
  | 3, _ => rfl
  | 4, _ => rfl
  | 5, _ => rfl
  | 6, _ => rfl
  | 7, _ => rfl
  | 8, _ => rfl
  | 9, _ => rfl
  | 10, _ => rfl
  | 11, _ => rfl
  | 12, _ => rfl
  | 13, _ => rfl
  | 14, _ => rfl
  | 15, _ => rfl
  | 16, _ => rfl
  | 17, _ => rfl
  | 18, hj => exact absurd rfl hj
  | 19, _ => rfl
  | 20, _ => rfl
  | 21, _ => rfl
  | 22, _ => rfl
  | 23, _ => rfl
  | 24, _ => rfl
  | 25, _ => rfl
  | 26, _ => rfl
  | j + 27, _ => rfl
theorem rs_23 {i : Nat} (v : Int32) (hi : i < 4) : zs_I (Rm m S V g) (m + 18) 1 (zi i) v = some (Rm m S (va_up V 23 (va_up (V 23) i v)) g) := Rm_st (j := 18) (by decide) (by decide) (fun _ => rfl) ro_23 hi (by decide)
theorem rl_24 {i : Nat} (hi : i < 4) : zl_I (Rm m S V g) (m + 19) 1 (zi i) = some (V 24 i) := zl_I_of (Rm_at (j := 19) (by decide) rfl) hi (by decide)
theorem ro_24 : ∀ (V' V2 : Nat → Nat → Int32), (∀ k', k' ≠ 24 → V' k' = V2 k') → ∀ j', j' ≠ 19 → (Rmc m S V')[j']? = (Rmc m S V2)[j']? := by
  intro V' V2 h j' hj
  unfold Rmc
  rw [h 1 (by decide), h 5 (by decide), h 6 (by decide), h 8 (by decide), h 9 (by decide), h 11 (by decide), h 12 (by decide), h 13 (by decide), h 14 (by decide), h 15 (by decide), h 16 (by decide), h 17 (by decide), h 18 (by decide), h 19 (by decide), h 20 (by decide), h 21 (by decide), h 22 (by decide), h 23 (by decide), h 28 (by decide), h 29 (by decide), h 31 (by decide), h 32 (by decide), h 33 (by decide), h 34 (by decide), h 38 (by decide)]
  match j', hj with
  | 0, _ => rfl
  | 1, _ => rfl
  | 2, _ => rfl
  | 3, _ => rfl
  | 4, _ => rfl
  | 5, _ => rfl
  | 6, _ => rfl
  | 7, _ => rfl
  | 8, _ => rfl
  | 9, _ => rfl
  | 10, _ => rfl
  | 11, _ => rfl
  | 12, _ => rfl
  | 13, _ => rfl
  | 14, _ => rfl
  | 15, _ => rfl
  | 16, _ => rfl
  | 17, _ => rfl
  | 18, _ => rfl
  | 19, hj => exact absurd rfl hj
  | 20, _ => rfl
  | 21, _ => rfl
  | 22, _ => rfl
  | 23, _ => rfl
  | 24, _ => rfl
  | 25, _ => rfl
  | 26, _ => rfl
  | j + 27, _ => rfl
theorem rs_24 {i : Nat} (v : Int32) (hi : i < 4) : zs_I (Rm m S V g) (m + 19) 1 (zi i) v = some (Rm m S (va_up V 24 (va_up (V 24) i v)) g) := Rm_st (j := 19) (by decide) (by decide) (fun _ => rfl) ro_24 hi (by decide)
theorem rl_28 {i : Nat} (hi : i < 72) : zl_I (Rm m S V g) (m + 20) 1 (zi i) = some (V 28 i) := zl_I_of (Rm_at (j := 20) (by decide) rfl) hi (by decide)
theorem ro_28 : ∀ (V' V2 : Nat → Nat → Int32), (∀ k', k' ≠ 28 → V' k' = V2 k') → ∀ j', j' ≠ 20 → (Rmc m S V')[j']? = (Rmc m S V2)[j']? := by
  intro V' V2 h j' hj
  unfold Rmc
  rw [h 1 (by decide), h 5 (by decide), h 6 (by decide), h 8 (by decide), h 9 (by decide), h 11 (by decide), h 12 (by decide), h 13 (by decide), h 14 (by decide), h 15 (by decide), h 16 (by decide), h 17 (by decide), h 18 (by decide), h 19 (by decide), h 20 (by decide), h 21 (by decide), h 22 (by decide), h 23 (by decide), h 24 (by decide), h 29 (by decide), h 31 (by decide), h 32 (by decide), h 33 (by decide), h 34 (by decide), h 38 (by decide)]
  match j', hj with
  | 0, _ => rfl
  | 1, _ => rfl
  | 2, _ => rfl
  | 3, _ => rfl
  | 4, _ => rfl
  | 5, _ => rfl
  | 6, _ => rfl
  | 7, _ => rfl
  | 8, _ => rfl
  | 9, _ => rfl
  | 10, _ => rfl
  | 11, _ => rfl
  | 12, _ => rfl
  | 13, _ => rfl
  | 14, _ => rfl
  | 15, _ => rfl
  | 16, _ => rfl
  | 17, _ => rfl
  | 18, _ => rfl
  | 19, _ => rfl
  | 20, hj => exact absurd rfl hj
  | 21, _ => rfl
  | 22, _ => rfl
  | 23, _ => rfl
  | 24, _ => rfl
  | 25, _ => rfl
  | 26, _ => rfl
  | j + 27, _ => rfl
theorem rs_28 {i : Nat} (v : Int32) (hi : i < 72) : zs_I (Rm m S V g) (m + 20) 1 (zi i) v = some (Rm m S (va_up V 28 (va_up (V 28) i v)) g) := Rm_st (j := 20) (by decide) (by decide) (fun _ => rfl) ro_28 hi (by decide)
theorem rl_29 {i : Nat} (hi : i < 6) : zl_I (Rm m S V g) (m + 21) 2 (zi i) = some (V 29 i) := zl_I_of (Rm_at (j := 21) (by decide) rfl) hi (by decide)
theorem ro_29 : ∀ (V' V2 : Nat → Nat → Int32), (∀ k', k' ≠ 29 → V' k' = V2 k') → ∀ j', j' ≠ 21 → (Rmc m S V')[j']? = (Rmc m S V2)[j']? := by
  intro V' V2 h j' hj
  unfold Rmc
  rw [h 1 (by decide), h 5 (by decide), h 6 (by decide), h 8 (by decide), h 9 (by decide), h 11 (by decide), h 12 (by decide), h 13 (by decide), h 14 (by decide), h 15 (by decide), h 16 (by decide), h 17 (by decide), h 18 (by decide), h 19 (by decide), h 20 (by decide), h 21 (by decide), h 22 (by decide), h 23 (by decide), h 24 (by decide), h 28 (by decide), h 31 (by decide), h 32 (by decide), h 33 (by decide), h 34 (by decide), h 38 (by decide)]
  match j', hj with
  | 0, _ => rfl
  | 1, _ => rfl
  | 2, _ => rfl
  | 3, _ => rfl
  | 4, _ => rfl
  | 5, _ => rfl
  | 6, _ => rfl
  | 7, _ => rfl
  | 8, _ => rfl
  | 9, _ => rfl
  | 10, _ => rfl
  | 11, _ => rfl
  | 12, _ => rfl
  | 13, _ => rfl
  | 14, _ => rfl
  | 15, _ => rfl
  | 16, _ => rfl
  | 17, _ => rfl
  | 18, _ => rfl
  | 19, _ => rfl
  | 20, _ => rfl
  | 21, hj => exact absurd rfl hj
  | 22, _ => rfl
  | 23, _ => rfl
  | 24, _ => rfl
  | 25, _ => rfl
  | 26, _ => rfl
  | j + 27, _ => rfl
theorem rs_29 {i : Nat} (v : Int32) (hi : i < 6) : zs_I (Rm m S V g) (m + 21) 2 (zi i) v = some (Rm m S (va_up V 29 (va_up (V 29) i v)) g) := Rm_st (j := 21) (by decide) (by decide) (fun _ => rfl) ro_29 hi (by decide)
theorem rl_31 {i : Nat} (hi : i < 6000) : zl_I (Rm m S V g) (m + 22) 1 (zi i) = some (V 31 i) := zl_I_of (Rm_at (j := 22) (by decide) rfl) hi (by decide)
theorem ro_31 : ∀ (V' V2 : Nat → Nat → Int32), (∀ k', k' ≠ 31 → V' k' = V2 k') → ∀ j', j' ≠ 22 → (Rmc m S V')[j']? = (Rmc m S V2)[j']? := by
  intro V' V2 h j' hj
  unfold Rmc
  rw [h 1 (by decide), h 5 (by decide), h 6 (by decide), h 8 (by decide), h 9 (by decide), h 11 (by decide), h 12 (by decide), h 13 (by decide), h 14 (by decide), h 15 (by decide), h 16 (by decide), h 17 (by decide), h 18 (by decide), h 19 (by decide), h 20 (by decide), h 21 (by decide), h 22 (by decide), h 23 (by decide), h 24 (by decide), h 28 (by decide), h 29 (by decide), h 32 (by decide), h 33 (by decide), h 34 (by decide), h 38 (by decide)]
  match j', hj with
  | 0, _ => rfl
  | 1, _ => rfl
  | 2, _ => rfl
  | 3, _ => rfl
  | 4, _ => rfl
  | 5, _ => rfl
  | 6, _ => rfl
  | 7, _ => rfl
  | 8, _ => rfl
  | 9, _ => rfl
  | 10, _ => rfl
  | 11, _ => rfl
  | 12, _ => rfl
  | 13, _ => rfl
  | 14, _ => rfl
  | 15, _ => rfl
  | 16, _ => rfl
  | 17, _ => rfl
  | 18, _ => rfl
  | 19, _ => rfl
  | 20, _ => rfl
  | 21, _ => rfl
  | 22, hj => exact absurd rfl hj
  | 23, _ => rfl
  | 24, _ => rfl
  | 25, _ => rfl
  | 26, _ => rfl
  | j + 27, _ => rfl
theorem rs_31 {i : Nat} (v : Int32) (hi : i < 6000) : zs_I (Rm m S V g) (m + 22) 1 (zi i) v = some (Rm m S (va_up V 31 (va_up (V 31) i v)) g) := Rm_st (j := 22) (by decide) (by decide) (fun _ => rfl) ro_31 hi (by decide)
theorem rl_32 {i : Nat} (hi : i < 10) : zl_I (Rm m S V g) (m + 23) 1 (zi i) = some (V 32 i) := zl_I_of (Rm_at (j := 23) (by decide) rfl) hi (by decide)
theorem ro_32 : ∀ (V' V2 : Nat → Nat → Int32), (∀ k', k' ≠ 32 → V' k' = V2 k') → ∀ j', j' ≠ 23 → (Rmc m S V')[j']? = (Rmc m S V2)[j']? := by
  intro V' V2 h j' hj
  unfold Rmc
  rw [h 1 (by decide), h 5 (by decide), h 6 (by decide), h 8 (by decide), h 9 (by decide), h 11 (by decide), h 12 (by decide), h 13 (by decide), h 14 (by decide), h 15 (by decide), h 16 (by decide), h 17 (by decide), h 18 (by decide), h 19 (by decide), h 20 (by decide), h 21 (by decide), h 22 (by decide), h 23 (by decide), h 24 (by decide), h 28 (by decide), h 29 (by decide), h 31 (by decide), h 33 (by decide), h 34 (by decide), h 38 (by decide)]
  match j', hj with
  | 0, _ => rfl
  | 1, _ => rfl
  | 2, _ => rfl
  | 3, _ => rfl
  | 4, _ => rfl
  | 5, _ => rfl
  | 6, _ => rfl
  | 7, _ => rfl
  | 8, _ => rfl
  | 9, _ => rfl
  | 10, _ => rfl
  | 11, _ => rfl
  | 12, _ => rfl
  | 13, _ => rfl
  | 14, _ => rfl
  | 15, _ => rfl
  | 16, _ => rfl
  | 17, _ => rfl
  | 18, _ => rfl
  | 19, _ => rfl
  | 20, _ => rfl
  | 21, _ => rfl
  | 22, _ => rfl
  | 23, hj => exact absurd rfl hj
  | 24, _ => rfl
  | 25, _ => rfl
  | 26, _ => rfl
  | j + 27, _ => rfl
theorem rs_32 {i : Nat} (v : Int32) (hi : i < 10) : zs_I (Rm m S V g) (m + 23) 1 (zi i) v = some (Rm m S (va_up V 32 (va_up (V 32) i v)) g) := Rm_st (j := 23) (by decide) (by decide) (fun _ => rfl) ro_32 hi (by decide)
theorem rl_33 {i : Nat} (hi : i < 40) : zl_I (Rm m S V g) (m + 24) 1 (zi i) = some (V 33 i) := zl_I_of (Rm_at (j := 24) (by decide) rfl) hi (by decide)
theorem ro_33 : ∀ (V' V2 : Nat → Nat → Int32), (∀ k', k' ≠ 33 → V' k' = V2 k') → ∀ j', j' ≠ 24 → (Rmc m S V')[j']? = (Rmc m S V2)[j']? := by
  intro V' V2 h j' hj
  unfold Rmc
  rw [h 1 (by decide), h 5 (by decide), h 6 (by decide), h 8 (by decide), h 9 (by decide), h 11 (by decide), h 12 (by decide), h 13 (by decide), h 14 (by decide), h 15 (by decide), h 16 (by decide), h 17 (by decide), h 18 (by decide), h 19 (by decide), h 20 (by decide), h 21 (by decide), h 22 (by decide), h 23 (by decide), h 24 (by decide), h 28 (by decide), h 29 (by decide), h 31 (by decide), h 32 (by decide), h 34 (by decide), h 38 (by decide)]
  match j', hj with
  | 0, _ => rfl
  | 1, _ => rfl
  | 2, _ => rfl
  | 3, _ => rfl
  | 4, _ => rfl
  | 5, _ => rfl
  | 6, _ => rfl
  | 7, _ => rfl
  | 8, _ => rfl
  | 9, _ => rfl
  | 10, _ => rfl
  | 11, _ => rfl
  | 12, _ => rfl
  | 13, _ => rfl
  | 14, _ => rfl
  | 15, _ => rfl
  | 16, _ => rfl
  | 17, _ => rfl
  | 18, _ => rfl
  | 19, _ => rfl
  | 20, _ => rfl
  | 21, _ => rfl
  | 22, _ => rfl
  | 23, _ => rfl
  | 24, hj => exact absurd rfl hj
  | 25, _ => rfl
  | 26, _ => rfl
  | j + 27, _ => rfl
theorem rs_33 {i : Nat} (v : Int32) (hi : i < 40) : zs_I (Rm m S V g) (m + 24) 1 (zi i) v = some (Rm m S (va_up V 33 (va_up (V 33) i v)) g) := Rm_st (j := 24) (by decide) (by decide) (fun _ => rfl) ro_33 hi (by decide)
theorem rl_34 {i : Nat} (hi : i < 40) : zl_I (Rm m S V g) (m + 25) 1 (zi i) = some (V 34 i) := zl_I_of (Rm_at (j := 25) (by decide) rfl) hi (by decide)
theorem ro_34 : ∀ (V' V2 : Nat → Nat → Int32), (∀ k', k' ≠ 34 → V' k' = V2 k') → ∀ j', j' ≠ 25 → (Rmc m S V')[j']? = (Rmc m S V2)[j']? := by
  intro V' V2 h j' hj
  unfold Rmc
  rw [h 1 (by decide), h 5 (by decide), h 6 (by decide), h 8 (by decide), h 9 (by decide), h 11 (by decide), h 12 (by decide), h 13 (by decide), h 14 (by decide), h 15 (by decide), h 16 (by decide), h 17 (by decide), h 18 (by decide), h 19 (by decide), h 20 (by decide), h 21 (by decide), h 22 (by decide), h 23 (by decide), h 24 (by decide), h 28 (by decide), h 29 (by decide), h 31 (by decide), h 32 (by decide), h 33 (by decide), h 38 (by decide)]
  match j', hj with
  | 0, _ => rfl
  | 1, _ => rfl
  | 2, _ => rfl
  | 3, _ => rfl
  | 4, _ => rfl
  | 5, _ => rfl
  | 6, _ => rfl
  | 7, _ => rfl
  | 8, _ => rfl
  | 9, _ => rfl
  | 10, _ => rfl
  | 11, _ => rfl
  | 12, _ => rfl
  | 13, _ => rfl
  | 14, _ => rfl
  | 15, _ => rfl
  | 16, _ => rfl
  | 17, _ => rfl
  | 18, _ => rfl
  | 19, _ => rfl
  | 20, _ => rfl
  | 21, _ => rfl
  | 22, _ => rfl
  | 23, _ => rfl
  | 24, _ => rfl
  | 25, hj => exact absurd rfl hj
  | 26, _ => rfl
  | j + 27, _ => rfl
theorem rs_34 {i : Nat} (v : Int32) (hi : i < 40) : zs_I (Rm m S V g) (m + 25) 1 (zi i) v = some (Rm m S (va_up V 34 (va_up (V 34) i v)) g) := Rm_st (j := 25) (by decide) (by decide) (fun _ => rfl) ro_34 hi (by decide)
theorem rl_38 {i : Nat} (hi : i < 60) : zl_I (Rm m S V g) (m + 26) 1 (zi i) = some (V 38 i) := zl_I_of (Rm_at (j := 26) (by decide) rfl) hi (by decide)
theorem ro_38 : ∀ (V' V2 : Nat → Nat → Int32), (∀ k', k' ≠ 38 → V' k' = V2 k') → ∀ j', j' ≠ 26 → (Rmc m S V')[j']? = (Rmc m S V2)[j']? := by
  intro V' V2 h j' hj
  unfold Rmc
  rw [h 1 (by decide), h 5 (by decide), h 6 (by decide), h 8 (by decide), h 9 (by decide), h 11 (by decide), h 12 (by decide), h 13 (by decide), h 14 (by decide), h 15 (by decide), h 16 (by decide), h 17 (by decide), h 18 (by decide), h 19 (by decide), h 20 (by decide), h 21 (by decide), h 22 (by decide), h 23 (by decide), h 24 (by decide), h 28 (by decide), h 29 (by decide), h 31 (by decide), h 32 (by decide), h 33 (by decide), h 34 (by decide)]
  match j', hj with
  | 0, _ => rfl
  | 1, _ => rfl
  | 2, _ => rfl
  | 3, _ => rfl
  | 4, _ => rfl
  | 5, _ => rfl
  | 6, _ => rfl
  | 7, _ => rfl
  | 8, _ => rfl
  | 9, _ => rfl
  | 10, _ => rfl
  | 11, _ => rfl
  | 12, _ => rfl
  | 13, _ => rfl
  | 14, _ => rfl
  | 15, _ => rfl
  | 16, _ => rfl
  | 17, _ => rfl
  | 18, _ => rfl
  | 19, _ => rfl
  | 20, _ => rfl
  | 21, _ => rfl
  | 22, _ => rfl
  | 23, _ => rfl
  | 24, _ => rfl
  | 25, _ => rfl
  | 26, hj => exact absurd rfl hj
  | j + 27, _ => rfl
theorem rs_38 {i : Nat} (v : Int32) (hi : i < 60) : zs_I (Rm m S V g) (m + 26) 1 (zi i) v = some (Rm m S (va_up V 38 (va_up (V 38) i v)) g) := Rm_st (j := 26) (by decide) (by decide) (fun _ => rfl) ro_38 hi (by decide)
theorem rlL_1 {i : Nat} (hi : (OfNat.ofNat i : Nat) < 600) : zl_I (Rm m S V g) (m + 1) 1 (no_index (OfNat.ofNat i) : Int32) = some (V 1 (OfNat.ofNat i : Nat)) := rl_1 hi
theorem rsL_1 {i : Nat} (v : Int32) (hi : (OfNat.ofNat i : Nat) < 600) : zs_I (Rm m S V g) (m + 1) 1 (no_index (OfNat.ofNat i) : Int32) v = some (Rm m S (va_up V 1 (va_up (V 1) (OfNat.ofNat i : Nat) v)) g) := rs_1 v hi
theorem rlL_5 {i : Nat} (hi : (OfNat.ofNat i : Nat) < 96) : zl_I (Rm m S V g) (m + 2) 1 (no_index (OfNat.ofNat i) : Int32) = some (V 5 (OfNat.ofNat i : Nat)) := rl_5 hi
theorem rsL_5 {i : Nat} (v : Int32) (hi : (OfNat.ofNat i : Nat) < 96) : zs_I (Rm m S V g) (m + 2) 1 (no_index (OfNat.ofNat i) : Int32) v = some (Rm m S (va_up V 5 (va_up (V 5) (OfNat.ofNat i : Nat) v)) g) := rs_5 v hi
theorem rlL_6 {i : Nat} (hi : (OfNat.ofNat i : Nat) < 16) : zl_I (Rm m S V g) (m + 3) 1 (no_index (OfNat.ofNat i) : Int32) = some (V 6 (OfNat.ofNat i : Nat)) := rl_6 hi
theorem rsL_6 {i : Nat} (v : Int32) (hi : (OfNat.ofNat i : Nat) < 16) : zs_I (Rm m S V g) (m + 3) 1 (no_index (OfNat.ofNat i) : Int32) v = some (Rm m S (va_up V 6 (va_up (V 6) (OfNat.ofNat i : Nat) v)) g) := rs_6 v hi
theorem rlL_8 {i : Nat} (hi : (OfNat.ofNat i : Nat) < 480) : zl_I (Rm m S V g) (m + 4) 1 (no_index (OfNat.ofNat i) : Int32) = some (V 8 (OfNat.ofNat i : Nat)) := rl_8 hi
theorem rsL_8 {i : Nat} (v : Int32) (hi : (OfNat.ofNat i : Nat) < 480) : zs_I (Rm m S V g) (m + 4) 1 (no_index (OfNat.ofNat i) : Int32) v = some (Rm m S (va_up V 8 (va_up (V 8) (OfNat.ofNat i : Nat) v)) g) := rs_8 v hi
theorem rlL_9 {i : Nat} (hi : (OfNat.ofNat i : Nat) < 24) : zl_I (Rm m S V g) (m + 5) 1 (no_index (OfNat.ofNat i) : Int32) = some (V 9 (OfNat.ofNat i : Nat)) := rl_9 hi
theorem rsL_9 {i : Nat} (v : Int32) (hi : (OfNat.ofNat i : Nat) < 24) : zs_I (Rm m S V g) (m + 5) 1 (no_index (OfNat.ofNat i) : Int32) v = some (Rm m S (va_up V 9 (va_up (V 9) (OfNat.ofNat i : Nat) v)) g) := rs_9 v hi
theorem rlL_11 {i : Nat} (hi : (OfNat.ofNat i : Nat) < 30) : zl_I (Rm m S V g) (m + 6) 1 (no_index (OfNat.ofNat i) : Int32) = some (V 11 (OfNat.ofNat i : Nat)) := rl_11 hi
theorem rsL_11 {i : Nat} (v : Int32) (hi : (OfNat.ofNat i : Nat) < 30) : zs_I (Rm m S V g) (m + 6) 1 (no_index (OfNat.ofNat i) : Int32) v = some (Rm m S (va_up V 11 (va_up (V 11) (OfNat.ofNat i : Nat) v)) g) := rs_11 v hi
theorem rlL_12 {i : Nat} (hi : (OfNat.ofNat i : Nat) < 30) : zl_I (Rm m S V g) (m + 7) 1 (no_index (OfNat.ofNat i) : Int32) = some (V 12 (OfNat.ofNat i : Nat)) := rl_12 hi
theorem rsL_12 {i : Nat} (v : Int32) (hi : (OfNat.ofNat i : Nat) < 30) : zs_I (Rm m S V g) (m + 7) 1 (no_index (OfNat.ofNat i) : Int32) v = some (Rm m S (va_up V 12 (va_up (V 12) (OfNat.ofNat i : Nat) v)) g) := rs_12 v hi
theorem rlL_13 {i : Nat} (hi : (OfNat.ofNat i : Nat) < 30) : zl_I (Rm m S V g) (m + 8) 1 (no_index (OfNat.ofNat i) : Int32) = some (V 13 (OfNat.ofNat i : Nat)) := rl_13 hi
theorem rsL_13 {i : Nat} (v : Int32) (hi : (OfNat.ofNat i : Nat) < 30) : zs_I (Rm m S V g) (m + 8) 1 (no_index (OfNat.ofNat i) : Int32) v = some (Rm m S (va_up V 13 (va_up (V 13) (OfNat.ofNat i : Nat) v)) g) := rs_13 v hi
theorem rlL_14 {i : Nat} (hi : (OfNat.ofNat i : Nat) < 30) : zl_I (Rm m S V g) (m + 9) 1 (no_index (OfNat.ofNat i) : Int32) = some (V 14 (OfNat.ofNat i : Nat)) := rl_14 hi
theorem rsL_14 {i : Nat} (v : Int32) (hi : (OfNat.ofNat i : Nat) < 30) : zs_I (Rm m S V g) (m + 9) 1 (no_index (OfNat.ofNat i) : Int32) v = some (Rm m S (va_up V 14 (va_up (V 14) (OfNat.ofNat i : Nat) v)) g) := rs_14 v hi
theorem rlL_15 {i : Nat} (hi : (OfNat.ofNat i : Nat) < 30) : zl_I (Rm m S V g) (m + 10) 1 (no_index (OfNat.ofNat i) : Int32) = some (V 15 (OfNat.ofNat i : Nat)) := rl_15 hi
theorem rsL_15 {i : Nat} (v : Int32) (hi : (OfNat.ofNat i : Nat) < 30) : zs_I (Rm m S V g) (m + 10) 1 (no_index (OfNat.ofNat i) : Int32) v = some (Rm m S (va_up V 15 (va_up (V 15) (OfNat.ofNat i : Nat) v)) g) := rs_15 v hi
theorem rlL_16 {i : Nat} (hi : (OfNat.ofNat i : Nat) < 30) : zl_I (Rm m S V g) (m + 11) 1 (no_index (OfNat.ofNat i) : Int32) = some (V 16 (OfNat.ofNat i : Nat)) := rl_16 hi
theorem rsL_16 {i : Nat} (v : Int32) (hi : (OfNat.ofNat i : Nat) < 30) : zs_I (Rm m S V g) (m + 11) 1 (no_index (OfNat.ofNat i) : Int32) v = some (Rm m S (va_up V 16 (va_up (V 16) (OfNat.ofNat i : Nat) v)) g) := rs_16 v hi
theorem rlL_17 {i : Nat} (hi : (OfNat.ofNat i : Nat) < 30) : zl_I (Rm m S V g) (m + 12) 1 (no_index (OfNat.ofNat i) : Int32) = some (V 17 (OfNat.ofNat i : Nat)) := rl_17 hi
theorem rsL_17 {i : Nat} (v : Int32) (hi : (OfNat.ofNat i : Nat) < 30) : zs_I (Rm m S V g) (m + 12) 1 (no_index (OfNat.ofNat i) : Int32) v = some (Rm m S (va_up V 17 (va_up (V 17) (OfNat.ofNat i : Nat) v)) g) := rs_17 v hi
theorem rlL_18 {i : Nat} (hi : (OfNat.ofNat i : Nat) < 30) : zl_I (Rm m S V g) (m + 13) 1 (no_index (OfNat.ofNat i) : Int32) = some (V 18 (OfNat.ofNat i : Nat)) := rl_18 hi
theorem rsL_18 {i : Nat} (v : Int32) (hi : (OfNat.ofNat i : Nat) < 30) : zs_I (Rm m S V g) (m + 13) 1 (no_index (OfNat.ofNat i) : Int32) v = some (Rm m S (va_up V 18 (va_up (V 18) (OfNat.ofNat i : Nat) v)) g) := rs_18 v hi
theorem rlL_19 {i : Nat} (hi : (OfNat.ofNat i : Nat) < 30) : zl_I (Rm m S V g) (m + 14) 1 (no_index (OfNat.ofNat i) : Int32) = some (V 19 (OfNat.ofNat i : Nat)) := rl_19 hi
theorem rsL_19 {i : Nat} (v : Int32) (hi : (OfNat.ofNat i : Nat) < 30) : zs_I (Rm m S V g) (m + 14) 1 (no_index (OfNat.ofNat i) : Int32) v = some (Rm m S (va_up V 19 (va_up (V 19) (OfNat.ofNat i : Nat) v)) g) := rs_19 v hi
theorem rlL_20 {i : Nat} (hi : (OfNat.ofNat i : Nat) < 30) : zl_I (Rm m S V g) (m + 15) 1 (no_index (OfNat.ofNat i) : Int32) = some (V 20 (OfNat.ofNat i : Nat)) := rl_20 hi
theorem rsL_20 {i : Nat} (v : Int32) (hi : (OfNat.ofNat i : Nat) < 30) : zs_I (Rm m S V g) (m + 15) 1 (no_index (OfNat.ofNat i) : Int32) v = some (Rm m S (va_up V 20 (va_up (V 20) (OfNat.ofNat i : Nat) v)) g) := rs_20 v hi
theorem rlL_21 {i : Nat} (hi : (OfNat.ofNat i : Nat) < 25) : zl_I (Rm m S V g) (m + 16) 1 (no_index (OfNat.ofNat i) : Int32) = some (V 21 (OfNat.ofNat i : Nat)) := rl_21 hi
theorem rsL_21 {i : Nat} (v : Int32) (hi : (OfNat.ofNat i : Nat) < 25) : zs_I (Rm m S V g) (m + 16) 1 (no_index (OfNat.ofNat i) : Int32) v = some (Rm m S (va_up V 21 (va_up (V 21) (OfNat.ofNat i : Nat) v)) g) := rs_21 v hi
theorem rlL_22 {i : Nat} (hi : (OfNat.ofNat i : Nat) < 4) : zl_I (Rm m S V g) (m + 17) 1 (no_index (OfNat.ofNat i) : Int32) = some (V 22 (OfNat.ofNat i : Nat)) := rl_22 hi
theorem rsL_22 {i : Nat} (v : Int32) (hi : (OfNat.ofNat i : Nat) < 4) : zs_I (Rm m S V g) (m + 17) 1 (no_index (OfNat.ofNat i) : Int32) v = some (Rm m S (va_up V 22 (va_up (V 22) (OfNat.ofNat i : Nat) v)) g) := rs_22 v hi
theorem rlL_23 {i : Nat} (hi : (OfNat.ofNat i : Nat) < 4) : zl_I (Rm m S V g) (m + 18) 1 (no_index (OfNat.ofNat i) : Int32) = some (V 23 (OfNat.ofNat i : Nat)) := rl_23 hi
theorem rsL_23 {i : Nat} (v : Int32) (hi : (OfNat.ofNat i : Nat) < 4) : zs_I (Rm m S V g) (m + 18) 1 (no_index (OfNat.ofNat i) : Int32) v = some (Rm m S (va_up V 23 (va_up (V 23) (OfNat.ofNat i : Nat) v)) g) := rs_23 v hi
theorem rlL_24 {i : Nat} (hi : (OfNat.ofNat i : Nat) < 4) : zl_I (Rm m S V g) (m + 19) 1 (no_index (OfNat.ofNat i) : Int32) = some (V 24 (OfNat.ofNat i : Nat)) := rl_24 hi
theorem rsL_24 {i : Nat} (v : Int32) (hi : (OfNat.ofNat i : Nat) < 4) : zs_I (Rm m S V g) (m + 19) 1 (no_index (OfNat.ofNat i) : Int32) v = some (Rm m S (va_up V 24 (va_up (V 24) (OfNat.ofNat i : Nat) v)) g) := rs_24 v hi
theorem rlL_28 {i : Nat} (hi : (OfNat.ofNat i : Nat) < 72) : zl_I (Rm m S V g) (m + 20) 1 (no_index (OfNat.ofNat i) : Int32) = some (V 28 (OfNat.ofNat i : Nat)) := rl_28 hi
theorem rsL_28 {i : Nat} (v : Int32) (hi : (OfNat.ofNat i : Nat) < 72) : zs_I (Rm m S V g) (m + 20) 1 (no_index (OfNat.ofNat i) : Int32) v = some (Rm m S (va_up V 28 (va_up (V 28) (OfNat.ofNat i : Nat) v)) g) := rs_28 v hi
theorem rlL_29 {i : Nat} (hi : (OfNat.ofNat i : Nat) < 6) : zl_I (Rm m S V g) (m + 21) 2 (no_index (OfNat.ofNat i) : Int32) = some (V 29 (OfNat.ofNat i : Nat)) := rl_29 hi
theorem rsL_29 {i : Nat} (v : Int32) (hi : (OfNat.ofNat i : Nat) < 6) : zs_I (Rm m S V g) (m + 21) 2 (no_index (OfNat.ofNat i) : Int32) v = some (Rm m S (va_up V 29 (va_up (V 29) (OfNat.ofNat i : Nat) v)) g) := rs_29 v hi
theorem rlL_31 {i : Nat} (hi : (OfNat.ofNat i : Nat) < 6000) : zl_I (Rm m S V g) (m + 22) 1 (no_index (OfNat.ofNat i) : Int32) = some (V 31 (OfNat.ofNat i : Nat)) := rl_31 hi
theorem rsL_31 {i : Nat} (v : Int32) (hi : (OfNat.ofNat i : Nat) < 6000) : zs_I (Rm m S V g) (m + 22) 1 (no_index (OfNat.ofNat i) : Int32) v = some (Rm m S (va_up V 31 (va_up (V 31) (OfNat.ofNat i : Nat) v)) g) := rs_31 v hi
theorem rlL_32 {i : Nat} (hi : (OfNat.ofNat i : Nat) < 10) : zl_I (Rm m S V g) (m + 23) 1 (no_index (OfNat.ofNat i) : Int32) = some (V 32 (OfNat.ofNat i : Nat)) := rl_32 hi
theorem rsL_32 {i : Nat} (v : Int32) (hi : (OfNat.ofNat i : Nat) < 10) : zs_I (Rm m S V g) (m + 23) 1 (no_index (OfNat.ofNat i) : Int32) v = some (Rm m S (va_up V 32 (va_up (V 32) (OfNat.ofNat i : Nat) v)) g) := rs_32 v hi
theorem rlL_33 {i : Nat} (hi : (OfNat.ofNat i : Nat) < 40) : zl_I (Rm m S V g) (m + 24) 1 (no_index (OfNat.ofNat i) : Int32) = some (V 33 (OfNat.ofNat i : Nat)) := rl_33 hi
theorem rsL_33 {i : Nat} (v : Int32) (hi : (OfNat.ofNat i : Nat) < 40) : zs_I (Rm m S V g) (m + 24) 1 (no_index (OfNat.ofNat i) : Int32) v = some (Rm m S (va_up V 33 (va_up (V 33) (OfNat.ofNat i : Nat) v)) g) := rs_33 v hi
theorem rlL_34 {i : Nat} (hi : (OfNat.ofNat i : Nat) < 40) : zl_I (Rm m S V g) (m + 25) 1 (no_index (OfNat.ofNat i) : Int32) = some (V 34 (OfNat.ofNat i : Nat)) := rl_34 hi
theorem rsL_34 {i : Nat} (v : Int32) (hi : (OfNat.ofNat i : Nat) < 40) : zs_I (Rm m S V g) (m + 25) 1 (no_index (OfNat.ofNat i) : Int32) v = some (Rm m S (va_up V 34 (va_up (V 34) (OfNat.ofNat i : Nat) v)) g) := rs_34 v hi
theorem rlL_38 {i : Nat} (hi : (OfNat.ofNat i : Nat) < 60) : zl_I (Rm m S V g) (m + 26) 1 (no_index (OfNat.ofNat i) : Int32) = some (V 38 (OfNat.ofNat i : Nat)) := rl_38 hi
theorem rsL_38 {i : Nat} (v : Int32) (hi : (OfNat.ofNat i : Nat) < 60) : zs_I (Rm m S V g) (m + 26) 1 (no_index (OfNat.ofNat i) : Int32) v = some (Rm m S (va_up V 38 (va_up (V 38) (OfNat.ofNat i : Nat) v)) g) := rs_38 v hi
end
