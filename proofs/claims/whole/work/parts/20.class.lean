def celT (b : Nat) (Q : Nat → Option Nat) (s w : Nat → Int32) : List ZC := [.inr (9, [.ref (b + 1), .ref (b + 4), .ref (b + 51), .ref (b + 56), .ref (b + 69), .ref (b + 3), .int (s 6)]), .inr (0, [.ref (b + 2), .int (s 1)]), .inl (0, 600, .inl w), .inl (4, 10, .inr (.inr (.inr (.inr Q)))), .inr (8, [.ref (b + 5), .ref (b + 8), .ref (b + 11), .ref (b + 12), .int (s 4), .int (s 5)]), .inr (1, [.int 6, .ref (b + 6), .ref (b + 7), .int (s 3)]), .inl (0, 96, .inl w), .inl (1, 16, .inl w), .inr (1, [.int 20, .ref (b + 9), .ref (b + 10), .int (s 3)]), .inl (0, 480, .inl w), .inl (1, 24, .inl w), .inl (7, 30, .inr (.inr (.inr (.inr (fun i => if i < 30 then some (b + (13 + i)) else none))))), .inl (5, 4, .inr (.inr (.inr (.inr (fun i => if i < 4 then some (b + (43 + 2 * i)) else none))))), .inr (4, [.int (s 0), .int (s 1), .int (s 2), .int (s 3), .int (s 4), .int (s 5), .int (s 6), .int (s 7), .int (s 8)]), .inr (4, [.int (s 0), .int (s 1), .int (s 2), .int (s 3), .int (s 4), .int (s 5), .int (s 6), .int (s 7), .int (s 8)]), .inr (4, [.int (s 0), .int (s 1), .int (s 2), .int (s 3), .int (s 4), .int (s 5), .int (s 6), .int (s 7), .int (s 8)]), .inr (4, [.int (s 0), .int (s 1), .int (s 2), .int (s 3), .int (s 4), .int (s 5), .int (s 6), .int (s 7), .int (s 8)]), .inr (4, [.int (s 0), .int (s 1), .int (s 2), .int (s 3), .int (s 4), .int (s 5), .int (s 6), .int (s 7), .int (s 8)]), .inr (4, [.int (s 0), .int (s 1), .int (s 2), .int (s 3), .int (s 4), .int (s 5), .int (s 6), .int (s 7), .int (s 8)]), .inr (4, [.int (s 0), .int (s 1), .int (s 2), .int (s 3), .int (s 4), .int (s 5), .int (s 6), .int (s 7), .int (s 8)]), .inr (4, [.int (s 0), .int (s 1), .int (s 2), .int (s 3), .int (s 4), .int (s 5), .int (s 6), .int (s 7), .int (s 8)]), .inr (4, [.int (s 0), .int (s 1), .int (s 2), .int (s 3), .int (s 4), .int (s 5), .int (s 6), .int (s 7), .int (s 8)]), .inr (4, [.int (s 0), .int (s 1), .int (s 2), .int (s 3), .int (s 4), .int (s 5), .int (s 6), .int (s 7), .int (s 8)]), .inr (4, [.int (s 0), .int (s 1), .int (s 2), .int (s 3), .int (s 4), .int (s 5), .int (s 6), .int (s 7), .int (s 8)]), .inr (4, [.int (s 0), .int (s 1), .int (s 2), .int (s 3), .int (s 4), .int (s 5), .int (s 6), .int (s 7), .int (s 8)]), .inr (4, [.int (s 0), .int (s 1), .int (s 2), .int (s 3), .int (s 4), .int (s 5), .int (s 6), .int (s 7), .int (s 8)]), .inr (4, [.int (s 0), .int (s 1), .int (s 2), .int (s 3), .int (s 4), .int (s 5), .int (s 6), .int (s 7), .int (s 8)]), .inr (4, [.int (s 0), .int (s 1), .int (s 2), .int (s 3), .int (s 4), .int (s 5), .int (s 6), .int (s 7), .int (s 8)]), .inr (4, [.int (s 0), .int (s 1), .int (s 2), .int (s 3), .int (s 4), .int (s 5), .int (s 6), .int (s 7), .int (s 8)]), .inr (4, [.int (s 0), .int (s 1), .int (s 2), .int (s 3), .int (s 4), .int (s 5), .int (s 6), .int (s 7), .int (s 8)]), .inr (4, [.int (s 0), .int (s 1), .int (s 2), .int (s 3), .int (s 4), .int (s 5), .int (s 6), .int (s 7), .int (s 8)]), .inr (4, [.int (s 0), .int (s 1), .int (s 2), .int (s 3), .int (s 4), .int (s 5), .int (s 6), .int (s 7), .int (s 8)]), .inr (4, [.int (s 0), .int (s 1), .int (s 2), .int (s 3), .int (s 4), .int (s 5), .int (s 6), .int (s 7), .int (s 8)]), .inr (4, [.int (s 0), .int (s 1), .int (s 2), .int (s 3), .int (s 4), .int (s 5), .int (s 6), .int (s 7), .int (s 8)]), .inr (4, [.int (s 0), .int (s 1), .int (s 2), .int (s 3), .int (s 4), .int (s 5), .int (s 6), .int (s 7), .int (s 8)]), .inr (4, [.int (s 0), .int (s 1), .int (s 2), .int (s 3), .int (s 4), .int (s 5), .int (s 6), .int (s 7), .int (s 8)]), .inr (4, [.int (s 0), .int (s 1), .int (s 2), .int (s 3), .int (s 4), .int (s 5), .int (s 6), .int (s 7), .int (s 8)]), .inr (4, [.int (s 0), .int (s 1), .int (s 2), .int (s 3), .int (s 4), .int (s 5), .int (s 6), .int (s 7), .int (s 8)]), .inr (4, [.int (s 0), .int (s 1), .int (s 2), .int (s 3), .int (s 4), .int (s 5), .int (s 6), .int (s 7), .int (s 8)]), .inr (4, [.int (s 0), .int (s 1), .int (s 2), .int (s 3), .int (s 4), .int (s 5), .int (s 6), .int (s 7), .int (s 8)]), .inr (4, [.int (s 0), .int (s 1), .int (s 2), .int (s 3), .int (s 4), .int (s 5), .int (s 6), .int (s 7), .int (s 8)]), .inr (4, [.int (s 0), .int (s 1), .int (s 2), .int (s 3), .int (s 4), .int (s 5), .int (s 6), .int (s 7), .int (s 8)]), .inr (4, [.int (s 0), .int (s 1), .int (s 2), .int (s 3), .int (s 4), .int (s 5), .int (s 6), .int (s 7), .int (s 8)]), .inr (2, [.ref (b + 44), .int (s 1), .int (s 2)]), .inl (1, 4, .inl w), .inr (2, [.ref (b + 46), .int (s 1), .int (s 2)]), .inl (1, 4, .inl w), .inr (2, [.ref (b + 48), .int (s 1), .int (s 2)]), .inl (1, 4, .inl w), .inr (2, [.ref (b + 50), .int (s 1), .int (s 2)]), .inl (1, 4, .inl w), .inr (6, [.ref (b + 4), .ref (b + 52), .ref (b + 54), .ref (b + 55), .int (s 4), .int (s 5)]), .inr (3, [.ref (b + 53), .int (s 1), .int (s 2), .int (s 3), .int (s 4)]), .inl (1, 8, .inl w), .inl (1, 30, .inl w), .inl (1, 25, .inl w), .inr (5, [.ref (b + 4), .ref (b + 51), .ref (b + 57), .ref (b + 58), .ref (b + 59), .ref (b + 60), .int (s 6), .int (s 7)]), .inl (6, 4, .inr (.inr (.inr (.inr (fun i => if i < 4 then some (b + (61 + 2 * i)) else none))))), .inl (2, 4, .inl w), .inl (1, 40, .inl w), .inl (1, 40, .inl w), .inr (3, [.ref (b + 62), .int (s 1), .int (s 2), .int (s 3), .int (s 4)]), .inl (1, 8, .inl w), .inr (3, [.ref (b + 64), .int (s 1), .int (s 2), .int (s 3), .int (s 4)]), .inl (1, 8, .inl w), .inr (3, [.ref (b + 66), .int (s 1), .int (s 2), .int (s 3), .int (s 4)]), .inl (1, 8, .inl w), .inr (3, [.ref (b + 68), .int (s 1), .int (s 2), .int (s 3), .int (s 4)]), .inl (1, 8, .inl w), .inr (7, [.ref (b + 4), .ref (b + 51), .ref (b + 70), .ref (b + 72), .int (s 4), .int (s 5)]), .inr (3, [.ref (b + 71), .int (s 1), .int (s 2), .int (s 3), .int (s 4)]), .inl (1, 8, .inl w), .inl (1, 60, .inl w)]
def cel (b : Nat) (Q : Nat → Option Nat) (o : Nat) (s w : Nat → Int32) : Option ZC := (celT b Q s w)[o]?
def Cl (b : Nat) (S V : Nat → Nat → Int32) (Q : Nat → Option Nat) (g : ZH) : ZH := fun q => if b ≤ q ∧ q < b + 73 then cel b Q (q - b) (S (q - b)) (V (q - b)) else g q
section
variable {b : Nat} {S V : Nat → Nat → Int32} {Q : Nat → Option Nat} {g : ZH}
theorem Cl_at {o : Nat} {c : ZC} (ho : o < 73) (h : cel b Q o (S o) (V o) = some c) : Cl b S V Q g (b + o) = some c := by
  unfold Cl
  rw [if_pos (by omega), Nat.add_sub_cancel_left]
  exact h
theorem Cl_put {o ci k : Nat} {v : Int32} {fs : List Value} (ho : o < 73) (hc : cel b Q o (S o) (V o) = some (.inr (ci, fs))) (hk : k < fs.length) (hs : cel b Q o (va_up (S o) k v) (V o) = some (.inr (ci, fs.set k (.int v)))) : zp_V (Cl b S V Q g) (b + o) ci k (.int v) = some (Cl b (va_up S o (va_up (S o) k v)) V Q g) := by
  have h0 : zp_V (Cl b S V Q g) (b + o) ci k (.int v) = some (va_up (Cl b S V Q g) (b + o) (some (.inr (ci, fs.set k (.int v))))) := by
    simp only [zp_V, Cl_at ho hc]
    exact if_pos ⟨trivial, hk⟩
  rw [h0]
  congr 1
  funext q
  by_cases hq : q = b + o
  · subst hq
    rw [Cl_at (S := va_up S o (va_up (S o) k v)) ho (by rw [up_self]; exact hs), up_self]
  · rw [up_ne _ _ hq]
    unfold Cl
    by_cases hr : b ≤ q ∧ q < b + 73
    · rw [if_pos hr, if_pos hr, up_ne _ _ (by omega)]
    · rw [if_neg hr, if_neg hr]
theorem Cl_st {o t n i : Nat} {v : Int32} (ho : o < 73) (hs : ∀ w, cel b Q o (S o) w = some (.inl (t, n, .inl w))) (hi : i < n) (hn : n < 2147483648) : zs_I (Cl b S V Q g) (b + o) t (zi i) v = some (Cl b S (va_up V o (va_up (V o) i v)) Q g) := by
  rw [zs_I_of (Cl_at ho (hs _)) hi hn]
  congr 1
  funext q
  by_cases hq : q = b + o
  · subst hq
    rw [Cl_at (V := va_up V o (va_up (V o) i v)) ho (by rw [up_self]; exact hs _), up_self]
  · rw [up_ne _ _ hq]
    unfold Cl
    by_cases hr : b ≤ q ∧ q < b + 73
    · rw [if_pos hr, if_pos hr, up_ne _ _ (by omega)]
    · rw [if_neg hr, if_neg hr]
theorem Cl_out {q : Nat} (h : ¬ (b ≤ q ∧ q < b + 73)) : Cl b S V Q g q = g q := by
  unfold Cl
  rw [if_neg h]
theorem Cl_b : Cl b S V Q g b = cel b Q 0 (S 0) (V 0) := by
  unfold Cl
  rw [if_pos (by omega), Nat.sub_self]
theorem cel_0 : Cl b S V Q g b = some (.inr (9, [.ref (b + 1), .ref (b + 4), .ref (b + 51), .ref (b + 56), .ref (b + 69), .ref (b + 3), .int (S 0 6)])) := Cl_b
theorem cO_0 {β : Type} {x : Option β} : zz_isO (Cl b S V Q g) b 9 x = x := zz_isO_of cel_0
theorem cgR_0_0 : zg_R (Cl b S V Q g) b 9 0 = some (b + 1) := zg_R_of cel_0 rfl
theorem cgR_0_1 : zg_R (Cl b S V Q g) b 9 1 = some (b + 4) := zg_R_of cel_0 rfl
theorem cgR_0_2 : zg_R (Cl b S V Q g) b 9 2 = some (b + 51) := zg_R_of cel_0 rfl
theorem cgR_0_3 : zg_R (Cl b S V Q g) b 9 3 = some (b + 56) := zg_R_of cel_0 rfl
theorem cgR_0_4 : zg_R (Cl b S V Q g) b 9 4 = some (b + 69) := zg_R_of cel_0 rfl
theorem cgR_0_5 : zg_R (Cl b S V Q g) b 9 5 = some (b + 3) := zg_R_of cel_0 rfl
theorem cgI_0_6 : zg_I (Cl b S V Q g) b 9 6 = some (S 0 6) := zg_I_of cel_0 rfl
theorem cp_0_6 (v : Int32) : zp_V (Cl b S V Q g) b 9 6 (.int v) = some (Cl b (va_up S 0 (va_up (S 0) 6 v)) V Q g) := Cl_put (o := 0) (by decide) rfl (Nat.le_of_ble_eq_true rfl) rfl
theorem cel_1 : Cl b S V Q g (b + 1) = some (.inr (0, [.ref (b + 2), .int (S 1 1)])) := Cl_at (o := 1) (by decide) rfl
theorem cO_1 {β : Type} {x : Option β} : zz_isO (Cl b S V Q g) (b + 1) 0 x = x := zz_isO_of cel_1
theorem cgR_1_0 : zg_R (Cl b S V Q g) (b + 1) 0 0 = some (b + 2) := zg_R_of cel_1 rfl
theorem cgI_1_1 : zg_I (Cl b S V Q g) (b + 1) 0 1 = some (S 1 1) := zg_I_of cel_1 rfl
theorem cp_1_1 (v : Int32) : zp_V (Cl b S V Q g) (b + 1) 0 1 (.int v) = some (Cl b (va_up S 1 (va_up (S 1) 1 v)) V Q g) := Cl_put (o := 1) (by decide) rfl (Nat.le_of_ble_eq_true rfl) rfl
theorem cN_2 : zl_N (Cl b S V Q g) (b + 2) 0 = some (zi 600) := zl_N_of (Cl_at (o := 2) (by decide) rfl)
theorem cl_2 {i : Nat} (hi : i < 600) : zl_I (Cl b S V Q g) (b + 2) 0 (zi i) = some (V 2 i) := zl_I_of (Cl_at (o := 2) (by decide) rfl) hi (by decide)
theorem cs_2 {i : Nat} (v : Int32) (hi : i < 600) : zs_I (Cl b S V Q g) (b + 2) 0 (zi i) v = some (Cl b S (va_up V 2 (va_up (V 2) i v)) Q g) := Cl_st (o := 2) (by decide) (fun _ => rfl) hi (by decide)
theorem cN_3 : zl_N (Cl b S V Q g) (b + 3) 4 = some (zi 10) := zl_N_of (Cl_at (o := 3) (by decide) rfl)
theorem cel_4 : Cl b S V Q g (b + 4) = some (.inr (8, [.ref (b + 5), .ref (b + 8), .ref (b + 11), .ref (b + 12), .int (S 4 4), .int (S 4 5)])) := Cl_at (o := 4) (by decide) rfl
theorem cO_4 {β : Type} {x : Option β} : zz_isO (Cl b S V Q g) (b + 4) 8 x = x := zz_isO_of cel_4
theorem cgR_4_0 : zg_R (Cl b S V Q g) (b + 4) 8 0 = some (b + 5) := zg_R_of cel_4 rfl
theorem cgR_4_1 : zg_R (Cl b S V Q g) (b + 4) 8 1 = some (b + 8) := zg_R_of cel_4 rfl
theorem cgR_4_2 : zg_R (Cl b S V Q g) (b + 4) 8 2 = some (b + 11) := zg_R_of cel_4 rfl
theorem cgR_4_3 : zg_R (Cl b S V Q g) (b + 4) 8 3 = some (b + 12) := zg_R_of cel_4 rfl
theorem cgI_4_4 : zg_I (Cl b S V Q g) (b + 4) 8 4 = some (S 4 4) := zg_I_of cel_4 rfl
theorem cp_4_4 (v : Int32) : zp_V (Cl b S V Q g) (b + 4) 8 4 (.int v) = some (Cl b (va_up S 4 (va_up (S 4) 4 v)) V Q g) := Cl_put (o := 4) (by decide) rfl (Nat.le_of_ble_eq_true rfl) rfl
theorem cgI_4_5 : zg_I (Cl b S V Q g) (b + 4) 8 5 = some (S 4 5) := zg_I_of cel_4 rfl
theorem cp_4_5 (v : Int32) : zp_V (Cl b S V Q g) (b + 4) 8 5 (.int v) = some (Cl b (va_up S 4 (va_up (S 4) 5 v)) V Q g) := Cl_put (o := 4) (by decide) rfl (Nat.le_of_ble_eq_true rfl) rfl
theorem cel_5 : Cl b S V Q g (b + 5) = some (.inr (1, [.int 6, .ref (b + 6), .ref (b + 7), .int (S 5 3)])) := Cl_at (o := 5) (by decide) rfl
theorem cO_5 {β : Type} {x : Option β} : zz_isO (Cl b S V Q g) (b + 5) 1 x = x := zz_isO_of cel_5
theorem cgI_5_0 : zg_I (Cl b S V Q g) (b + 5) 1 0 = some 6 := zg_I_of cel_5 rfl
theorem cgR_5_1 : zg_R (Cl b S V Q g) (b + 5) 1 1 = some (b + 6) := zg_R_of cel_5 rfl
theorem cgR_5_2 : zg_R (Cl b S V Q g) (b + 5) 1 2 = some (b + 7) := zg_R_of cel_5 rfl
theorem cgI_5_3 : zg_I (Cl b S V Q g) (b + 5) 1 3 = some (S 5 3) := zg_I_of cel_5 rfl
theorem cp_5_3 (v : Int32) : zp_V (Cl b S V Q g) (b + 5) 1 3 (.int v) = some (Cl b (va_up S 5 (va_up (S 5) 3 v)) V Q g) := Cl_put (o := 5) (by decide) rfl (Nat.le_of_ble_eq_true rfl) rfl
theorem cN_6 : zl_N (Cl b S V Q g) (b + 6) 0 = some (zi 96) := zl_N_of (Cl_at (o := 6) (by decide) rfl)
theorem cl_6 {i : Nat} (hi : i < 96) : zl_I (Cl b S V Q g) (b + 6) 0 (zi i) = some (V 6 i) := zl_I_of (Cl_at (o := 6) (by decide) rfl) hi (by decide)
theorem cs_6 {i : Nat} (v : Int32) (hi : i < 96) : zs_I (Cl b S V Q g) (b + 6) 0 (zi i) v = some (Cl b S (va_up V 6 (va_up (V 6) i v)) Q g) := Cl_st (o := 6) (by decide) (fun _ => rfl) hi (by decide)
theorem cN_7 : zl_N (Cl b S V Q g) (b + 7) 1 = some (zi 16) := zl_N_of (Cl_at (o := 7) (by decide) rfl)
theorem cl_7 {i : Nat} (hi : i < 16) : zl_I (Cl b S V Q g) (b + 7) 1 (zi i) = some (V 7 i) := zl_I_of (Cl_at (o := 7) (by decide) rfl) hi (by decide)
theorem cs_7 {i : Nat} (v : Int32) (hi : i < 16) : zs_I (Cl b S V Q g) (b + 7) 1 (zi i) v = some (Cl b S (va_up V 7 (va_up (V 7) i v)) Q g) := Cl_st (o := 7) (by decide) (fun _ => rfl) hi (by decide)
theorem cel_8 : Cl b S V Q g (b + 8) = some (.inr (1, [.int 20, .ref (b + 9), .ref (b + 10), .int (S 8 3)])) := Cl_at (o := 8) (by decide) rfl
theorem cO_8 {β : Type} {x : Option β} : zz_isO (Cl b S V Q g) (b + 8) 1 x = x := zz_isO_of cel_8
theorem cgI_8_0 : zg_I (Cl b S V Q g) (b + 8) 1 0 = some 20 := zg_I_of cel_8 rfl
theorem cgR_8_1 : zg_R (Cl b S V Q g) (b + 8) 1 1 = some (b + 9) := zg_R_of cel_8 rfl
theorem cgR_8_2 : zg_R (Cl b S V Q g) (b + 8) 1 2 = some (b + 10) := zg_R_of cel_8 rfl
theorem cgI_8_3 : zg_I (Cl b S V Q g) (b + 8) 1 3 = some (S 8 3) := zg_I_of cel_8 rfl
theorem cp_8_3 (v : Int32) : zp_V (Cl b S V Q g) (b + 8) 1 3 (.int v) = some (Cl b (va_up S 8 (va_up (S 8) 3 v)) V Q g) := Cl_put (o := 8) (by decide) rfl (Nat.le_of_ble_eq_true rfl) rfl
theorem cN_9 : zl_N (Cl b S V Q g) (b + 9) 0 = some (zi 480) := zl_N_of (Cl_at (o := 9) (by decide) rfl)
theorem cl_9 {i : Nat} (hi : i < 480) : zl_I (Cl b S V Q g) (b + 9) 0 (zi i) = some (V 9 i) := zl_I_of (Cl_at (o := 9) (by decide) rfl) hi (by decide)
theorem cs_9 {i : Nat} (v : Int32) (hi : i < 480) : zs_I (Cl b S V Q g) (b + 9) 0 (zi i) v = some (Cl b S (va_up V 9 (va_up (V 9) i v)) Q g) := Cl_st (o := 9) (by decide) (fun _ => rfl) hi (by decide)
theorem cN_10 : zl_N (Cl b S V Q g) (b + 10) 1 = some (zi 24) := zl_N_of (Cl_at (o := 10) (by decide) rfl)
theorem cl_10 {i : Nat} (hi : i < 24) : zl_I (Cl b S V Q g) (b + 10) 1 (zi i) = some (V 10 i) := zl_I_of (Cl_at (o := 10) (by decide) rfl) hi (by decide)
theorem cs_10 {i : Nat} (v : Int32) (hi : i < 24) : zs_I (Cl b S V Q g) (b + 10) 1 (zi i) v = some (Cl b S (va_up V 10 (va_up (V 10) i v)) Q g) := Cl_st (o := 10) (by decide) (fun _ => rfl) hi (by decide)
theorem cN_11 : zl_N (Cl b S V Q g) (b + 11) 7 = some (zi 30) := zl_N_of (Cl_at (o := 11) (by decide) rfl)
theorem cN_12 : zl_N (Cl b S V Q g) (b + 12) 5 = some (zi 4) := zl_N_of (Cl_at (o := 12) (by decide) rfl)
theorem cel_43 : Cl b S V Q g (b + 43) = some (.inr (2, [.ref (b + 44), .int (S 43 1), .int (S 43 2)])) := Cl_at (o := 43) (by decide) rfl
theorem cO_43 {β : Type} {x : Option β} : zz_isO (Cl b S V Q g) (b + 43) 2 x = x := zz_isO_of cel_43
theorem cgR_43_0 : zg_R (Cl b S V Q g) (b + 43) 2 0 = some (b + 44) := zg_R_of cel_43 rfl
theorem cgI_43_1 : zg_I (Cl b S V Q g) (b + 43) 2 1 = some (S 43 1) := zg_I_of cel_43 rfl
theorem cp_43_1 (v : Int32) : zp_V (Cl b S V Q g) (b + 43) 2 1 (.int v) = some (Cl b (va_up S 43 (va_up (S 43) 1 v)) V Q g) := Cl_put (o := 43) (by decide) rfl (Nat.le_of_ble_eq_true rfl) rfl
theorem cgI_43_2 : zg_I (Cl b S V Q g) (b + 43) 2 2 = some (S 43 2) := zg_I_of cel_43 rfl
theorem cp_43_2 (v : Int32) : zp_V (Cl b S V Q g) (b + 43) 2 2 (.int v) = some (Cl b (va_up S 43 (va_up (S 43) 2 v)) V Q g) := Cl_put (o := 43) (by decide) rfl (Nat.le_of_ble_eq_true rfl) rfl
theorem cN_44 : zl_N (Cl b S V Q g) (b + 44) 1 = some (zi 4) := zl_N_of (Cl_at (o := 44) (by decide) rfl)
theorem cl_44 {i : Nat} (hi : i < 4) : zl_I (Cl b S V Q g) (b + 44) 1 (zi i) = some (V 44 i) := zl_I_of (Cl_at (o := 44) (by decide) rfl) hi (by decide)
theorem cs_44 {i : Nat} (v : Int32) (hi : i < 4) : zs_I (Cl b S V Q g) (b + 44) 1 (zi i) v = some (Cl b S (va_up V 44 (va_up (V 44) i v)) Q g) := Cl_st (o := 44) (by decide) (fun _ => rfl) hi (by decide)
theorem cel_45 : Cl b S V Q g (b + 45) = some (.inr (2, [.ref (b + 46), .int (S 45 1), .int (S 45 2)])) := Cl_at (o := 45) (by decide) rfl
theorem cO_45 {β : Type} {x : Option β} : zz_isO (Cl b S V Q g) (b + 45) 2 x = x := zz_isO_of cel_45
theorem cgR_45_0 : zg_R (Cl b S V Q g) (b + 45) 2 0 = some (b + 46) := zg_R_of cel_45 rfl
theorem cgI_45_1 : zg_I (Cl b S V Q g) (b + 45) 2 1 = some (S 45 1) := zg_I_of cel_45 rfl
theorem cp_45_1 (v : Int32) : zp_V (Cl b S V Q g) (b + 45) 2 1 (.int v) = some (Cl b (va_up S 45 (va_up (S 45) 1 v)) V Q g) := Cl_put (o := 45) (by decide) rfl (Nat.le_of_ble_eq_true rfl) rfl
theorem cgI_45_2 : zg_I (Cl b S V Q g) (b + 45) 2 2 = some (S 45 2) := zg_I_of cel_45 rfl
theorem cp_45_2 (v : Int32) : zp_V (Cl b S V Q g) (b + 45) 2 2 (.int v) = some (Cl b (va_up S 45 (va_up (S 45) 2 v)) V Q g) := Cl_put (o := 45) (by decide) rfl (Nat.le_of_ble_eq_true rfl) rfl
theorem cN_46 : zl_N (Cl b S V Q g) (b + 46) 1 = some (zi 4) := zl_N_of (Cl_at (o := 46) (by decide) rfl)
theorem cl_46 {i : Nat} (hi : i < 4) : zl_I (Cl b S V Q g) (b + 46) 1 (zi i) = some (V 46 i) := zl_I_of (Cl_at (o := 46) (by decide) rfl) hi (by decide)
theorem cs_46 {i : Nat} (v : Int32) (hi : i < 4) : zs_I (Cl b S V Q g) (b + 46) 1 (zi i) v = some (Cl b S (va_up V 46 (va_up (V 46) i v)) Q g) := Cl_st (o := 46) (by decide) (fun _ => rfl) hi (by decide)
theorem cel_47 : Cl b S V Q g (b + 47) = some (.inr (2, [.ref (b + 48), .int (S 47 1), .int (S 47 2)])) := Cl_at (o := 47) (by decide) rfl
theorem cO_47 {β : Type} {x : Option β} : zz_isO (Cl b S V Q g) (b + 47) 2 x = x := zz_isO_of cel_47
theorem cgR_47_0 : zg_R (Cl b S V Q g) (b + 47) 2 0 = some (b + 48) := zg_R_of cel_47 rfl
theorem cgI_47_1 : zg_I (Cl b S V Q g) (b + 47) 2 1 = some (S 47 1) := zg_I_of cel_47 rfl
theorem cp_47_1 (v : Int32) : zp_V (Cl b S V Q g) (b + 47) 2 1 (.int v) = some (Cl b (va_up S 47 (va_up (S 47) 1 v)) V Q g) := Cl_put (o := 47) (by decide) rfl (Nat.le_of_ble_eq_true rfl) rfl
theorem cgI_47_2 : zg_I (Cl b S V Q g) (b + 47) 2 2 = some (S 47 2) := zg_I_of cel_47 rfl
theorem cp_47_2 (v : Int32) : zp_V (Cl b S V Q g) (b + 47) 2 2 (.int v) = some (Cl b (va_up S 47 (va_up (S 47) 2 v)) V Q g) := Cl_put (o := 47) (by decide) rfl (Nat.le_of_ble_eq_true rfl) rfl
theorem cN_48 : zl_N (Cl b S V Q g) (b + 48) 1 = some (zi 4) := zl_N_of (Cl_at (o := 48) (by decide) rfl)
theorem cl_48 {i : Nat} (hi : i < 4) : zl_I (Cl b S V Q g) (b + 48) 1 (zi i) = some (V 48 i) := zl_I_of (Cl_at (o := 48) (by decide) rfl) hi (by decide)
theorem cs_48 {i : Nat} (v : Int32) (hi : i < 4) : zs_I (Cl b S V Q g) (b + 48) 1 (zi i) v = some (Cl b S (va_up V 48 (va_up (V 48) i v)) Q g) := Cl_st (o := 48) (by decide) (fun _ => rfl) hi (by decide)
theorem cel_49 : Cl b S V Q g (b + 49) = some (.inr (2, [.ref (b + 50), .int (S 49 1), .int (S 49 2)])) := Cl_at (o := 49) (by decide) rfl
theorem cO_49 {β : Type} {x : Option β} : zz_isO (Cl b S V Q g) (b + 49) 2 x = x := zz_isO_of cel_49
theorem cgR_49_0 : zg_R (Cl b S V Q g) (b + 49) 2 0 = some (b + 50) := zg_R_of cel_49 rfl
theorem cgI_49_1 : zg_I (Cl b S V Q g) (b + 49) 2 1 = some (S 49 1) := zg_I_of cel_49 rfl
theorem cp_49_1 (v : Int32) : zp_V (Cl b S V Q g) (b + 49) 2 1 (.int v) = some (Cl b (va_up S 49 (va_up (S 49) 1 v)) V Q g) := Cl_put (o := 49) (by decide) rfl (Nat.le_of_ble_eq_true rfl) rfl
theorem cgI_49_2 : zg_I (Cl b S V Q g) (b + 49) 2 2 = some (S 49 2) := zg_I_of cel_49 rfl
theorem cp_49_2 (v : Int32) : zp_V (Cl b S V Q g) (b + 49) 2 2 (.int v) = some (Cl b (va_up S 49 (va_up (S 49) 2 v)) V Q g) := Cl_put (o := 49) (by decide) rfl (Nat.le_of_ble_eq_true rfl) rfl
theorem cN_50 : zl_N (Cl b S V Q g) (b + 50) 1 = some (zi 4) := zl_N_of (Cl_at (o := 50) (by decide) rfl)
theorem cl_50 {i : Nat} (hi : i < 4) : zl_I (Cl b S V Q g) (b + 50) 1 (zi i) = some (V 50 i) := zl_I_of (Cl_at (o := 50) (by decide) rfl) hi (by decide)
theorem cs_50 {i : Nat} (v : Int32) (hi : i < 4) : zs_I (Cl b S V Q g) (b + 50) 1 (zi i) v = some (Cl b S (va_up V 50 (va_up (V 50) i v)) Q g) := Cl_st (o := 50) (by decide) (fun _ => rfl) hi (by decide)
theorem cel_51 : Cl b S V Q g (b + 51) = some (.inr (6, [.ref (b + 4), .ref (b + 52), .ref (b + 54), .ref (b + 55), .int (S 51 4), .int (S 51 5)])) := Cl_at (o := 51) (by decide) rfl
theorem cO_51 {β : Type} {x : Option β} : zz_isO (Cl b S V Q g) (b + 51) 6 x = x := zz_isO_of cel_51
theorem cgR_51_0 : zg_R (Cl b S V Q g) (b + 51) 6 0 = some (b + 4) := zg_R_of cel_51 rfl
theorem cgR_51_1 : zg_R (Cl b S V Q g) (b + 51) 6 1 = some (b + 52) := zg_R_of cel_51 rfl
theorem cgR_51_2 : zg_R (Cl b S V Q g) (b + 51) 6 2 = some (b + 54) := zg_R_of cel_51 rfl
theorem cgR_51_3 : zg_R (Cl b S V Q g) (b + 51) 6 3 = some (b + 55) := zg_R_of cel_51 rfl
theorem cgI_51_4 : zg_I (Cl b S V Q g) (b + 51) 6 4 = some (S 51 4) := zg_I_of cel_51 rfl
theorem cp_51_4 (v : Int32) : zp_V (Cl b S V Q g) (b + 51) 6 4 (.int v) = some (Cl b (va_up S 51 (va_up (S 51) 4 v)) V Q g) := Cl_put (o := 51) (by decide) rfl (Nat.le_of_ble_eq_true rfl) rfl
theorem cgI_51_5 : zg_I (Cl b S V Q g) (b + 51) 6 5 = some (S 51 5) := zg_I_of cel_51 rfl
theorem cp_51_5 (v : Int32) : zp_V (Cl b S V Q g) (b + 51) 6 5 (.int v) = some (Cl b (va_up S 51 (va_up (S 51) 5 v)) V Q g) := Cl_put (o := 51) (by decide) rfl (Nat.le_of_ble_eq_true rfl) rfl
theorem cel_52 : Cl b S V Q g (b + 52) = some (.inr (3, [.ref (b + 53), .int (S 52 1), .int (S 52 2), .int (S 52 3), .int (S 52 4)])) := Cl_at (o := 52) (by decide) rfl
theorem cO_52 {β : Type} {x : Option β} : zz_isO (Cl b S V Q g) (b + 52) 3 x = x := zz_isO_of cel_52
theorem cgR_52_0 : zg_R (Cl b S V Q g) (b + 52) 3 0 = some (b + 53) := zg_R_of cel_52 rfl
theorem cgI_52_1 : zg_I (Cl b S V Q g) (b + 52) 3 1 = some (S 52 1) := zg_I_of cel_52 rfl
theorem cp_52_1 (v : Int32) : zp_V (Cl b S V Q g) (b + 52) 3 1 (.int v) = some (Cl b (va_up S 52 (va_up (S 52) 1 v)) V Q g) := Cl_put (o := 52) (by decide) rfl (Nat.le_of_ble_eq_true rfl) rfl
theorem cgI_52_2 : zg_I (Cl b S V Q g) (b + 52) 3 2 = some (S 52 2) := zg_I_of cel_52 rfl
theorem cp_52_2 (v : Int32) : zp_V (Cl b S V Q g) (b + 52) 3 2 (.int v) = some (Cl b (va_up S 52 (va_up (S 52) 2 v)) V Q g) := Cl_put (o := 52) (by decide) rfl (Nat.le_of_ble_eq_true rfl) rfl
theorem cgI_52_3 : zg_I (Cl b S V Q g) (b + 52) 3 3 = some (S 52 3) := zg_I_of cel_52 rfl
theorem cp_52_3 (v : Int32) : zp_V (Cl b S V Q g) (b + 52) 3 3 (.int v) = some (Cl b (va_up S 52 (va_up (S 52) 3 v)) V Q g) := Cl_put (o := 52) (by decide) rfl (Nat.le_of_ble_eq_true rfl) rfl
theorem cgI_52_4 : zg_I (Cl b S V Q g) (b + 52) 3 4 = some (S 52 4) := zg_I_of cel_52 rfl
theorem cp_52_4 (v : Int32) : zp_V (Cl b S V Q g) (b + 52) 3 4 (.int v) = some (Cl b (va_up S 52 (va_up (S 52) 4 v)) V Q g) := Cl_put (o := 52) (by decide) rfl (Nat.le_of_ble_eq_true rfl) rfl
theorem cN_53 : zl_N (Cl b S V Q g) (b + 53) 1 = some (zi 8) := zl_N_of (Cl_at (o := 53) (by decide) rfl)
theorem cl_53 {i : Nat} (hi : i < 8) : zl_I (Cl b S V Q g) (b + 53) 1 (zi i) = some (V 53 i) := zl_I_of (Cl_at (o := 53) (by decide) rfl) hi (by decide)
theorem cs_53 {i : Nat} (v : Int32) (hi : i < 8) : zs_I (Cl b S V Q g) (b + 53) 1 (zi i) v = some (Cl b S (va_up V 53 (va_up (V 53) i v)) Q g) := Cl_st (o := 53) (by decide) (fun _ => rfl) hi (by decide)
theorem cN_54 : zl_N (Cl b S V Q g) (b + 54) 1 = some (zi 30) := zl_N_of (Cl_at (o := 54) (by decide) rfl)
theorem cl_54 {i : Nat} (hi : i < 30) : zl_I (Cl b S V Q g) (b + 54) 1 (zi i) = some (V 54 i) := zl_I_of (Cl_at (o := 54) (by decide) rfl) hi (by decide)
theorem cs_54 {i : Nat} (v : Int32) (hi : i < 30) : zs_I (Cl b S V Q g) (b + 54) 1 (zi i) v = some (Cl b S (va_up V 54 (va_up (V 54) i v)) Q g) := Cl_st (o := 54) (by decide) (fun _ => rfl) hi (by decide)
theorem cN_55 : zl_N (Cl b S V Q g) (b + 55) 1 = some (zi 25) := zl_N_of (Cl_at (o := 55) (by decide) rfl)
theorem cl_55 {i : Nat} (hi : i < 25) : zl_I (Cl b S V Q g) (b + 55) 1 (zi i) = some (V 55 i) := zl_I_of (Cl_at (o := 55) (by decide) rfl) hi (by decide)
theorem cs_55 {i : Nat} (v : Int32) (hi : i < 25) : zs_I (Cl b S V Q g) (b + 55) 1 (zi i) v = some (Cl b S (va_up V 55 (va_up (V 55) i v)) Q g) := Cl_st (o := 55) (by decide) (fun _ => rfl) hi (by decide)
theorem cel_56 : Cl b S V Q g (b + 56) = some (.inr (5, [.ref (b + 4), .ref (b + 51), .ref (b + 57), .ref (b + 58), .ref (b + 59), .ref (b + 60), .int (S 56 6), .int (S 56 7)])) := Cl_at (o := 56) (by decide) rfl
theorem cO_56 {β : Type} {x : Option β} : zz_isO (Cl b S V Q g) (b + 56) 5 x = x := zz_isO_of cel_56
theorem cgR_56_0 : zg_R (Cl b S V Q g) (b + 56) 5 0 = some (b + 4) := zg_R_of cel_56 rfl
theorem cgR_56_1 : zg_R (Cl b S V Q g) (b + 56) 5 1 = some (b + 51) := zg_R_of cel_56 rfl
theorem cgR_56_2 : zg_R (Cl b S V Q g) (b + 56) 5 2 = some (b + 57) := zg_R_of cel_56 rfl
theorem cgR_56_3 : zg_R (Cl b S V Q g) (b + 56) 5 3 = some (b + 58) := zg_R_of cel_56 rfl
theorem cgR_56_4 : zg_R (Cl b S V Q g) (b + 56) 5 4 = some (b + 59) := zg_R_of cel_56 rfl
theorem cgR_56_5 : zg_R (Cl b S V Q g) (b + 56) 5 5 = some (b + 60) := zg_R_of cel_56 rfl
theorem cgI_56_6 : zg_I (Cl b S V Q g) (b + 56) 5 6 = some (S 56 6) := zg_I_of cel_56 rfl
theorem cp_56_6 (v : Int32) : zp_V (Cl b S V Q g) (b + 56) 5 6 (.int v) = some (Cl b (va_up S 56 (va_up (S 56) 6 v)) V Q g) := Cl_put (o := 56) (by decide) rfl (Nat.le_of_ble_eq_true rfl) rfl
theorem cgI_56_7 : zg_I (Cl b S V Q g) (b + 56) 5 7 = some (S 56 7) := zg_I_of cel_56 rfl
theorem cp_56_7 (v : Int32) : zp_V (Cl b S V Q g) (b + 56) 5 7 (.int v) = some (Cl b (va_up S 56 (va_up (S 56) 7 v)) V Q g) := Cl_put (o := 56) (by decide) rfl (Nat.le_of_ble_eq_true rfl) rfl
theorem cN_57 : zl_N (Cl b S V Q g) (b + 57) 6 = some (zi 4) := zl_N_of (Cl_at (o := 57) (by decide) rfl)
theorem cN_58 : zl_N (Cl b S V Q g) (b + 58) 2 = some (zi 4) := zl_N_of (Cl_at (o := 58) (by decide) rfl)
theorem cl_58 {i : Nat} (hi : i < 4) : zl_I (Cl b S V Q g) (b + 58) 2 (zi i) = some (V 58 i) := zl_I_of (Cl_at (o := 58) (by decide) rfl) hi (by decide)
theorem cs_58 {i : Nat} (v : Int32) (hi : i < 4) : zs_I (Cl b S V Q g) (b + 58) 2 (zi i) v = some (Cl b S (va_up V 58 (va_up (V 58) i v)) Q g) := Cl_st (o := 58) (by decide) (fun _ => rfl) hi (by decide)
theorem cN_59 : zl_N (Cl b S V Q g) (b + 59) 1 = some (zi 40) := zl_N_of (Cl_at (o := 59) (by decide) rfl)
theorem cl_59 {i : Nat} (hi : i < 40) : zl_I (Cl b S V Q g) (b + 59) 1 (zi i) = some (V 59 i) := zl_I_of (Cl_at (o := 59) (by decide) rfl) hi (by decide)
theorem cs_59 {i : Nat} (v : Int32) (hi : i < 40) : zs_I (Cl b S V Q g) (b + 59) 1 (zi i) v = some (Cl b S (va_up V 59 (va_up (V 59) i v)) Q g) := Cl_st (o := 59) (by decide) (fun _ => rfl) hi (by decide)
theorem cN_60 : zl_N (Cl b S V Q g) (b + 60) 1 = some (zi 40) := zl_N_of (Cl_at (o := 60) (by decide) rfl)
theorem cl_60 {i : Nat} (hi : i < 40) : zl_I (Cl b S V Q g) (b + 60) 1 (zi i) = some (V 60 i) := zl_I_of (Cl_at (o := 60) (by decide) rfl) hi (by decide)
theorem cs_60 {i : Nat} (v : Int32) (hi : i < 40) : zs_I (Cl b S V Q g) (b + 60) 1 (zi i) v = some (Cl b S (va_up V 60 (va_up (V 60) i v)) Q g) := Cl_st (o := 60) (by decide) (fun _ => rfl) hi (by decide)
theorem cel_61 : Cl b S V Q g (b + 61) = some (.inr (3, [.ref (b + 62), .int (S 61 1), .int (S 61 2), .int (S 61 3), .int (S 61 4)])) := Cl_at (o := 61) (by decide) rfl
theorem cO_61 {β : Type} {x : Option β} : zz_isO (Cl b S V Q g) (b + 61) 3 x = x := zz_isO_of cel_61
theorem cgR_61_0 : zg_R (Cl b S V Q g) (b + 61) 3 0 = some (b + 62) := zg_R_of cel_61 rfl
theorem cgI_61_1 : zg_I (Cl b S V Q g) (b + 61) 3 1 = some (S 61 1) := zg_I_of cel_61 rfl
theorem cp_61_1 (v : Int32) : zp_V (Cl b S V Q g) (b + 61) 3 1 (.int v) = some (Cl b (va_up S 61 (va_up (S 61) 1 v)) V Q g) := Cl_put (o := 61) (by decide) rfl (Nat.le_of_ble_eq_true rfl) rfl
theorem cgI_61_2 : zg_I (Cl b S V Q g) (b + 61) 3 2 = some (S 61 2) := zg_I_of cel_61 rfl
theorem cp_61_2 (v : Int32) : zp_V (Cl b S V Q g) (b + 61) 3 2 (.int v) = some (Cl b (va_up S 61 (va_up (S 61) 2 v)) V Q g) := Cl_put (o := 61) (by decide) rfl (Nat.le_of_ble_eq_true rfl) rfl
theorem cgI_61_3 : zg_I (Cl b S V Q g) (b + 61) 3 3 = some (S 61 3) := zg_I_of cel_61 rfl
theorem cp_61_3 (v : Int32) : zp_V (Cl b S V Q g) (b + 61) 3 3 (.int v) = some (Cl b (va_up S 61 (va_up (S 61) 3 v)) V Q g) := Cl_put (o := 61) (by decide) rfl (Nat.le_of_ble_eq_true rfl) rfl
theorem cgI_61_4 : zg_I (Cl b S V Q g) (b + 61) 3 4 = some (S 61 4) := zg_I_of cel_61 rfl
theorem cp_61_4 (v : Int32) : zp_V (Cl b S V Q g) (b + 61) 3 4 (.int v) = some (Cl b (va_up S 61 (va_up (S 61) 4 v)) V Q g) := Cl_put (o := 61) (by decide) rfl (Nat.le_of_ble_eq_true rfl) rfl
theorem cN_62 : zl_N (Cl b S V Q g) (b + 62) 1 = some (zi 8) := zl_N_of (Cl_at (o := 62) (by decide) rfl)
theorem cl_62 {i : Nat} (hi : i < 8) : zl_I (Cl b S V Q g) (b + 62) 1 (zi i) = some (V 62 i) := zl_I_of (Cl_at (o := 62) (by decide) rfl) hi (by decide)
theorem cs_62 {i : Nat} (v : Int32) (hi : i < 8) : zs_I (Cl b S V Q g) (b + 62) 1 (zi i) v = some (Cl b S (va_up V 62 (va_up (V 62) i v)) Q g) := Cl_st (o := 62) (by decide) (fun _ => rfl) hi (by decide)
theorem cel_63 : Cl b S V Q g (b + 63) = some (.inr (3, [.ref (b + 64), .int (S 63 1), .int (S 63 2), .int (S 63 3), .int (S 63 4)])) := Cl_at (o := 63) (by decide) rfl
theorem cO_63 {β : Type} {x : Option β} : zz_isO (Cl b S V Q g) (b + 63) 3 x = x := zz_isO_of cel_63
theorem cgR_63_0 : zg_R (Cl b S V Q g) (b + 63) 3 0 = some (b + 64) := zg_R_of cel_63 rfl
theorem cgI_63_1 : zg_I (Cl b S V Q g) (b + 63) 3 1 = some (S 63 1) := zg_I_of cel_63 rfl
theorem cp_63_1 (v : Int32) : zp_V (Cl b S V Q g) (b + 63) 3 1 (.int v) = some (Cl b (va_up S 63 (va_up (S 63) 1 v)) V Q g) := Cl_put (o := 63) (by decide) rfl (Nat.le_of_ble_eq_true rfl) rfl
theorem cgI_63_2 : zg_I (Cl b S V Q g) (b + 63) 3 2 = some (S 63 2) := zg_I_of cel_63 rfl
theorem cp_63_2 (v : Int32) : zp_V (Cl b S V Q g) (b + 63) 3 2 (.int v) = some (Cl b (va_up S 63 (va_up (S 63) 2 v)) V Q g) := Cl_put (o := 63) (by decide) rfl (Nat.le_of_ble_eq_true rfl) rfl
theorem cgI_63_3 : zg_I (Cl b S V Q g) (b + 63) 3 3 = some (S 63 3) := zg_I_of cel_63 rfl
theorem cp_63_3 (v : Int32) : zp_V (Cl b S V Q g) (b + 63) 3 3 (.int v) = some (Cl b (va_up S 63 (va_up (S 63) 3 v)) V Q g) := Cl_put (o := 63) (by decide) rfl (Nat.le_of_ble_eq_true rfl) rfl
theorem cgI_63_4 : zg_I (Cl b S V Q g) (b + 63) 3 4 = some (S 63 4) := zg_I_of cel_63 rfl
theorem cp_63_4 (v : Int32) : zp_V (Cl b S V Q g) (b + 63) 3 4 (.int v) = some (Cl b (va_up S 63 (va_up (S 63) 4 v)) V Q g) := Cl_put (o := 63) (by decide) rfl (Nat.le_of_ble_eq_true rfl) rfl
theorem cN_64 : zl_N (Cl b S V Q g) (b + 64) 1 = some (zi 8) := zl_N_of (Cl_at (o := 64) (by decide) rfl)
theorem cl_64 {i : Nat} (hi : i < 8) : zl_I (Cl b S V Q g) (b + 64) 1 (zi i) = some (V 64 i) := zl_I_of (Cl_at (o := 64) (by decide) rfl) hi (by decide)
theorem cs_64 {i : Nat} (v : Int32) (hi : i < 8) : zs_I (Cl b S V Q g) (b + 64) 1 (zi i) v = some (Cl b S (va_up V 64 (va_up (V 64) i v)) Q g) := Cl_st (o := 64) (by decide) (fun _ => rfl) hi (by decide)
theorem cel_65 : Cl b S V Q g (b + 65) = some (.inr (3, [.ref (b + 66), .int (S 65 1), .int (S 65 2), .int (S 65 3), .int (S 65 4)])) := Cl_at (o := 65) (by decide) rfl
theorem cO_65 {β : Type} {x : Option β} : zz_isO (Cl b S V Q g) (b + 65) 3 x = x := zz_isO_of cel_65
theorem cgR_65_0 : zg_R (Cl b S V Q g) (b + 65) 3 0 = some (b + 66) := zg_R_of cel_65 rfl
theorem cgI_65_1 : zg_I (Cl b S V Q g) (b + 65) 3 1 = some (S 65 1) := zg_I_of cel_65 rfl
theorem cp_65_1 (v : Int32) : zp_V (Cl b S V Q g) (b + 65) 3 1 (.int v) = some (Cl b (va_up S 65 (va_up (S 65) 1 v)) V Q g) := Cl_put (o := 65) (by decide) rfl (Nat.le_of_ble_eq_true rfl) rfl
theorem cgI_65_2 : zg_I (Cl b S V Q g) (b + 65) 3 2 = some (S 65 2) := zg_I_of cel_65 rfl
theorem cp_65_2 (v : Int32) : zp_V (Cl b S V Q g) (b + 65) 3 2 (.int v) = some (Cl b (va_up S 65 (va_up (S 65) 2 v)) V Q g) := Cl_put (o := 65) (by decide) rfl (Nat.le_of_ble_eq_true rfl) rfl
theorem cgI_65_3 : zg_I (Cl b S V Q g) (b + 65) 3 3 = some (S 65 3) := zg_I_of cel_65 rfl
theorem cp_65_3 (v : Int32) : zp_V (Cl b S V Q g) (b + 65) 3 3 (.int v) = some (Cl b (va_up S 65 (va_up (S 65) 3 v)) V Q g) := Cl_put (o := 65) (by decide) rfl (Nat.le_of_ble_eq_true rfl) rfl
theorem cgI_65_4 : zg_I (Cl b S V Q g) (b + 65) 3 4 = some (S 65 4) := zg_I_of cel_65 rfl
theorem cp_65_4 (v : Int32) : zp_V (Cl b S V Q g) (b + 65) 3 4 (.int v) = some (Cl b (va_up S 65 (va_up (S 65) 4 v)) V Q g) := Cl_put (o := 65) (by decide) rfl (Nat.le_of_ble_eq_true rfl) rfl
theorem cN_66 : zl_N (Cl b S V Q g) (b + 66) 1 = some (zi 8) := zl_N_of (Cl_at (o := 66) (by decide) rfl)
theorem cl_66 {i : Nat} (hi : i < 8) : zl_I (Cl b S V Q g) (b + 66) 1 (zi i) = some (V 66 i) := zl_I_of (Cl_at (o := 66) (by decide) rfl) hi (by decide)
theorem cs_66 {i : Nat} (v : Int32) (hi : i < 8) : zs_I (Cl b S V Q g) (b + 66) 1 (zi i) v = some (Cl b S (va_up V 66 (va_up (V 66) i v)) Q g) := Cl_st (o := 66) (by decide) (fun _ => rfl) hi (by decide)
theorem cel_67 : Cl b S V Q g (b + 67) = some (.inr (3, [.ref (b + 68), .int (S 67 1), .int (S 67 2), .int (S 67 3), .int (S 67 4)])) := Cl_at (o := 67) (by decide) rfl
theorem cO_67 {β : Type} {x : Option β} : zz_isO (Cl b S V Q g) (b + 67) 3 x = x := zz_isO_of cel_67
theorem cgR_67_0 : zg_R (Cl b S V Q g) (b + 67) 3 0 = some (b + 68) := zg_R_of cel_67 rfl
theorem cgI_67_1 : zg_I (Cl b S V Q g) (b + 67) 3 1 = some (S 67 1) := zg_I_of cel_67 rfl
theorem cp_67_1 (v : Int32) : zp_V (Cl b S V Q g) (b + 67) 3 1 (.int v) = some (Cl b (va_up S 67 (va_up (S 67) 1 v)) V Q g) := Cl_put (o := 67) (by decide) rfl (Nat.le_of_ble_eq_true rfl) rfl
theorem cgI_67_2 : zg_I (Cl b S V Q g) (b + 67) 3 2 = some (S 67 2) := zg_I_of cel_67 rfl
theorem cp_67_2 (v : Int32) : zp_V (Cl b S V Q g) (b + 67) 3 2 (.int v) = some (Cl b (va_up S 67 (va_up (S 67) 2 v)) V Q g) := Cl_put (o := 67) (by decide) rfl (Nat.le_of_ble_eq_true rfl) rfl
theorem cgI_67_3 : zg_I (Cl b S V Q g) (b + 67) 3 3 = some (S 67 3) := zg_I_of cel_67 rfl
theorem cp_67_3 (v : Int32) : zp_V (Cl b S V Q g) (b + 67) 3 3 (.int v) = some (Cl b (va_up S 67 (va_up (S 67) 3 v)) V Q g) := Cl_put (o := 67) (by decide) rfl (Nat.le_of_ble_eq_true rfl) rfl
theorem cgI_67_4 : zg_I (Cl b S V Q g) (b + 67) 3 4 = some (S 67 4) := zg_I_of cel_67 rfl
theorem cp_67_4 (v : Int32) : zp_V (Cl b S V Q g) (b + 67) 3 4 (.int v) = some (Cl b (va_up S 67 (va_up (S 67) 4 v)) V Q g) := Cl_put (o := 67) (by decide) rfl (Nat.le_of_ble_eq_true rfl) rfl
theorem cN_68 : zl_N (Cl b S V Q g) (b + 68) 1 = some (zi 8) := zl_N_of (Cl_at (o := 68) (by decide) rfl)
theorem cl_68 {i : Nat} (hi : i < 8) : zl_I (Cl b S V Q g) (b + 68) 1 (zi i) = some (V 68 i) := zl_I_of (Cl_at (o := 68) (by decide) rfl) hi (by decide)
theorem cs_68 {i : Nat} (v : Int32) (hi : i < 8) : zs_I (Cl b S V Q g) (b + 68) 1 (zi i) v = some (Cl b S (va_up V 68 (va_up (V 68) i v)) Q g) := Cl_st (o := 68) (by decide) (fun _ => rfl) hi (by decide)
theorem cel_69 : Cl b S V Q g (b + 69) = some (.inr (7, [.ref (b + 4), .ref (b + 51), .ref (b + 70), .ref (b + 72), .int (S 69 4), .int (S 69 5)])) := Cl_at (o := 69) (by decide) rfl
theorem cO_69 {β : Type} {x : Option β} : zz_isO (Cl b S V Q g) (b + 69) 7 x = x := zz_isO_of cel_69
theorem cgR_69_0 : zg_R (Cl b S V Q g) (b + 69) 7 0 = some (b + 4) := zg_R_of cel_69 rfl
theorem cgR_69_1 : zg_R (Cl b S V Q g) (b + 69) 7 1 = some (b + 51) := zg_R_of cel_69 rfl
theorem cgR_69_2 : zg_R (Cl b S V Q g) (b + 69) 7 2 = some (b + 70) := zg_R_of cel_69 rfl
theorem cgR_69_3 : zg_R (Cl b S V Q g) (b + 69) 7 3 = some (b + 72) := zg_R_of cel_69 rfl
theorem cgI_69_4 : zg_I (Cl b S V Q g) (b + 69) 7 4 = some (S 69 4) := zg_I_of cel_69 rfl
theorem cp_69_4 (v : Int32) : zp_V (Cl b S V Q g) (b + 69) 7 4 (.int v) = some (Cl b (va_up S 69 (va_up (S 69) 4 v)) V Q g) := Cl_put (o := 69) (by decide) rfl (Nat.le_of_ble_eq_true rfl) rfl
theorem cgI_69_5 : zg_I (Cl b S V Q g) (b + 69) 7 5 = some (S 69 5) := zg_I_of cel_69 rfl
theorem cp_69_5 (v : Int32) : zp_V (Cl b S V Q g) (b + 69) 7 5 (.int v) = some (Cl b (va_up S 69 (va_up (S 69) 5 v)) V Q g) := Cl_put (o := 69) (by decide) rfl (Nat.le_of_ble_eq_true rfl) rfl
theorem cel_70 : Cl b S V Q g (b + 70) = some (.inr (3, [.ref (b + 71), .int (S 70 1), .int (S 70 2), .int (S 70 3), .int (S 70 4)])) := Cl_at (o := 70) (by decide) rfl
theorem cO_70 {β : Type} {x : Option β} : zz_isO (Cl b S V Q g) (b + 70) 3 x = x := zz_isO_of cel_70
theorem cgR_70_0 : zg_R (Cl b S V Q g) (b + 70) 3 0 = some (b + 71) := zg_R_of cel_70 rfl
theorem cgI_70_1 : zg_I (Cl b S V Q g) (b + 70) 3 1 = some (S 70 1) := zg_I_of cel_70 rfl
theorem cp_70_1 (v : Int32) : zp_V (Cl b S V Q g) (b + 70) 3 1 (.int v) = some (Cl b (va_up S 70 (va_up (S 70) 1 v)) V Q g) := Cl_put (o := 70) (by decide) rfl (Nat.le_of_ble_eq_true rfl) rfl
theorem cgI_70_2 : zg_I (Cl b S V Q g) (b + 70) 3 2 = some (S 70 2) := zg_I_of cel_70 rfl
theorem cp_70_2 (v : Int32) : zp_V (Cl b S V Q g) (b + 70) 3 2 (.int v) = some (Cl b (va_up S 70 (va_up (S 70) 2 v)) V Q g) := Cl_put (o := 70) (by decide) rfl (Nat.le_of_ble_eq_true rfl) rfl
theorem cgI_70_3 : zg_I (Cl b S V Q g) (b + 70) 3 3 = some (S 70 3) := zg_I_of cel_70 rfl
theorem cp_70_3 (v : Int32) : zp_V (Cl b S V Q g) (b + 70) 3 3 (.int v) = some (Cl b (va_up S 70 (va_up (S 70) 3 v)) V Q g) := Cl_put (o := 70) (by decide) rfl (Nat.le_of_ble_eq_true rfl) rfl
theorem cgI_70_4 : zg_I (Cl b S V Q g) (b + 70) 3 4 = some (S 70 4) := zg_I_of cel_70 rfl
theorem cp_70_4 (v : Int32) : zp_V (Cl b S V Q g) (b + 70) 3 4 (.int v) = some (Cl b (va_up S 70 (va_up (S 70) 4 v)) V Q g) := Cl_put (o := 70) (by decide) rfl (Nat.le_of_ble_eq_true rfl) rfl
theorem cN_71 : zl_N (Cl b S V Q g) (b + 71) 1 = some (zi 8) := zl_N_of (Cl_at (o := 71) (by decide) rfl)
theorem cl_71 {i : Nat} (hi : i < 8) : zl_I (Cl b S V Q g) (b + 71) 1 (zi i) = some (V 71 i) := zl_I_of (Cl_at (o := 71) (by decide) rfl) hi (by decide)
theorem cs_71 {i : Nat} (v : Int32) (hi : i < 8) : zs_I (Cl b S V Q g) (b + 71) 1 (zi i) v = some (Cl b S (va_up V 71 (va_up (V 71) i v)) Q g) := Cl_st (o := 71) (by decide) (fun _ => rfl) hi (by decide)
theorem cN_72 : zl_N (Cl b S V Q g) (b + 72) 1 = some (zi 60) := zl_N_of (Cl_at (o := 72) (by decide) rfl)
theorem cl_72 {i : Nat} (hi : i < 60) : zl_I (Cl b S V Q g) (b + 72) 1 (zi i) = some (V 72 i) := zl_I_of (Cl_at (o := 72) (by decide) rfl) hi (by decide)
theorem cs_72 {i : Nat} (v : Int32) (hi : i < 60) : zs_I (Cl b S V Q g) (b + 72) 1 (zi i) v = some (Cl b S (va_up V 72 (va_up (V 72) i v)) Q g) := Cl_st (o := 72) (by decide) (fun _ => rfl) hi (by decide)
theorem cel_ru {s w : Nat → Int32} {i : Nat} (hi : i < 30) : cel b Q (13 + i) s w = some (.inr (4, [.int (s 0), .int (s 1), .int (s 2), .int (s 3), .int (s 4), .int (s 5), .int (s 6), .int (s 7), .int (s 8)])) := by
  match i, hi with
  | 0, _ => rfl
  | 1, _ => rfl
  | 2, _ => rfl
  | 3, _ => rfl
  | 4, _ => rfl
  | 5, _ => rfl
  | 6, _ => rfl
  | 7, _ => rfl
  | 8, _ => rfl
  | 9, _ => rfl
  | 10, _ => rfl
  | 11, _ => rfl
  | 12, _ => rfl
  | 13, _ => rfl
  | 14, _ => rfl
  | 15, _ => rfl
  | 16, _ => rfl
  | 17, _ => rfl
  | 18, _ => rfl
  | 19, _ => rfl
  | 20, _ => rfl
  | 21, _ => rfl
  | 22, _ => rfl
  | 23, _ => rfl
  | 24, _ => rfl
  | 25, _ => rfl
  | 26, _ => rfl
  | 27, _ => rfl
  | 28, _ => rfl
  | 29, _ => rfl
  | i + 30, h => exact absurd h (by omega)
theorem cl_ru {i : Nat} (hi : i < 30) : zl_R (Cl b S V Q g) (b + 11) 7 (zi i) = some (b + (13 + i)) := zl_R_of (Cl_at (o := 11) (by decide) rfl) hi (by decide) (if_pos hi)
theorem cO_ru {i : Nat} {β : Type} {x : Option β} (hi : i < 30) : zz_isO (Cl b S V Q g) (b + (13 + i)) 4 x = x := zz_isO_of (Cl_at (o := 13 + i) (by omega) (cel_ru hi))
theorem cgI_ru_0 {i : Nat} (hi : i < 30) : zg_I (Cl b S V Q g) (b + (13 + i)) 4 0 = some (S (13 + i) 0) := zg_I_of (Cl_at (o := 13 + i) (by omega) (cel_ru hi)) rfl
theorem cp_ru_0 {i : Nat} (v : Int32) (hi : i < 30) : zp_V (Cl b S V Q g) (b + (13 + i)) 4 0 (.int v) = some (Cl b (va_up S (13 + i) (va_up (S (13 + i)) 0 v)) V Q g) := Cl_put (o := 13 + i) (by omega) (cel_ru hi) (Nat.le_of_ble_eq_true rfl) (by rw [cel_ru hi]; rfl)
theorem cgI_ru_1 {i : Nat} (hi : i < 30) : zg_I (Cl b S V Q g) (b + (13 + i)) 4 1 = some (S (13 + i) 1) := zg_I_of (Cl_at (o := 13 + i) (by omega) (cel_ru hi)) rfl
theorem cp_ru_1 {i : Nat} (v : Int32) (hi : i < 30) : zp_V (Cl b S V Q g) (b + (13 + i)) 4 1 (.int v) = some (Cl b (va_up S (13 + i) (va_up (S (13 + i)) 1 v)) V Q g) := Cl_put (o := 13 + i) (by omega) (cel_ru hi) (Nat.le_of_ble_eq_true rfl) (by rw [cel_ru hi]; rfl)
theorem cgI_ru_2 {i : Nat} (hi : i < 30) : zg_I (Cl b S V Q g) (b + (13 + i)) 4 2 = some (S (13 + i) 2) := zg_I_of (Cl_at (o := 13 + i) (by omega) (cel_ru hi)) rfl
theorem cp_ru_2 {i : Nat} (v : Int32) (hi : i < 30) : zp_V (Cl b S V Q g) (b + (13 + i)) 4 2 (.int v) = some (Cl b (va_up S (13 + i) (va_up (S (13 + i)) 2 v)) V Q g) := Cl_put (o := 13 + i) (by omega) (cel_ru hi) (Nat.le_of_ble_eq_true rfl) (by rw [cel_ru hi]; rfl)
theorem cgI_ru_3 {i : Nat} (hi : i < 30) : zg_I (Cl b S V Q g) (b + (13 + i)) 4 3 = some (S (13 + i) 3) := zg_I_of (Cl_at (o := 13 + i) (by omega) (cel_ru hi)) rfl
theorem cp_ru_3 {i : Nat} (v : Int32) (hi : i < 30) : zp_V (Cl b S V Q g) (b + (13 + i)) 4 3 (.int v) = some (Cl b (va_up S (13 + i) (va_up (S (13 + i)) 3 v)) V Q g) := Cl_put (o := 13 + i) (by omega) (cel_ru hi) (Nat.le_of_ble_eq_true rfl) (by rw [cel_ru hi]; rfl)
theorem cgI_ru_4 {i : Nat} (hi : i < 30) : zg_I (Cl b S V Q g) (b + (13 + i)) 4 4 = some (S (13 + i) 4) := zg_I_of (Cl_at (o := 13 + i) (by omega) (cel_ru hi)) rfl
theorem cp_ru_4 {i : Nat} (v : Int32) (hi : i < 30) : zp_V (Cl b S V Q g) (b + (13 + i)) 4 4 (.int v) = some (Cl b (va_up S (13 + i) (va_up (S (13 + i)) 4 v)) V Q g) := Cl_put (o := 13 + i) (by omega) (cel_ru hi) (Nat.le_of_ble_eq_true rfl) (by rw [cel_ru hi]; rfl)
theorem cgI_ru_5 {i : Nat} (hi : i < 30) : zg_I (Cl b S V Q g) (b + (13 + i)) 4 5 = some (S (13 + i) 5) := zg_I_of (Cl_at (o := 13 + i) (by omega) (cel_ru hi)) rfl
theorem cp_ru_5 {i : Nat} (v : Int32) (hi : i < 30) : zp_V (Cl b S V Q g) (b + (13 + i)) 4 5 (.int v) = some (Cl b (va_up S (13 + i) (va_up (S (13 + i)) 5 v)) V Q g) := Cl_put (o := 13 + i) (by omega) (cel_ru hi) (Nat.le_of_ble_eq_true rfl) (by rw [cel_ru hi]; rfl)
theorem cgI_ru_6 {i : Nat} (hi : i < 30) : zg_I (Cl b S V Q g) (b + (13 + i)) 4 6 = some (S (13 + i) 6) := zg_I_of (Cl_at (o := 13 + i) (by omega) (cel_ru hi)) rfl
theorem cp_ru_6 {i : Nat} (v : Int32) (hi : i < 30) : zp_V (Cl b S V Q g) (b + (13 + i)) 4 6 (.int v) = some (Cl b (va_up S (13 + i) (va_up (S (13 + i)) 6 v)) V Q g) := Cl_put (o := 13 + i) (by omega) (cel_ru hi) (Nat.le_of_ble_eq_true rfl) (by rw [cel_ru hi]; rfl)
theorem cgI_ru_7 {i : Nat} (hi : i < 30) : zg_I (Cl b S V Q g) (b + (13 + i)) 4 7 = some (S (13 + i) 7) := zg_I_of (Cl_at (o := 13 + i) (by omega) (cel_ru hi)) rfl
theorem cp_ru_7 {i : Nat} (v : Int32) (hi : i < 30) : zp_V (Cl b S V Q g) (b + (13 + i)) 4 7 (.int v) = some (Cl b (va_up S (13 + i) (va_up (S (13 + i)) 7 v)) V Q g) := Cl_put (o := 13 + i) (by omega) (cel_ru hi) (Nat.le_of_ble_eq_true rfl) (by rw [cel_ru hi]; rfl)
theorem cgI_ru_8 {i : Nat} (hi : i < 30) : zg_I (Cl b S V Q g) (b + (13 + i)) 4 8 = some (S (13 + i) 8) := zg_I_of (Cl_at (o := 13 + i) (by omega) (cel_ru hi)) rfl
theorem cp_ru_8 {i : Nat} (v : Int32) (hi : i < 30) : zp_V (Cl b S V Q g) (b + (13 + i)) 4 8 (.int v) = some (Cl b (va_up S (13 + i) (va_up (S (13 + i)) 8 v)) V Q g) := Cl_put (o := 13 + i) (by omega) (cel_ru hi) (Nat.le_of_ble_eq_true rfl) (by rw [cel_ru hi]; rfl)
theorem cl_ho {i : Nat} (hi : i < 4) : zl_R (Cl b S V Q g) (b + 12) 5 (zi i) = some (b + (43 + 2 * i)) := zl_R_of (Cl_at (o := 12) (by decide) rfl) hi (by decide) (if_pos hi)
theorem cel_ho {s w : Nat → Int32} {i : Nat} (hi : i < 4) : cel b Q (43 + 2 * i) s w = some (.inr (2, [.ref (b + (44 + 2 * i)), .int (s 1), .int (s 2)])) ∧ ∀ s w, cel b Q (44 + 2 * i) s w = some (.inl (1, 4, .inl w)) := by
  match i, hi with
  | 0, _ => exact ⟨rfl, fun _ _ => rfl⟩
  | 1, _ => exact ⟨rfl, fun _ _ => rfl⟩
  | 2, _ => exact ⟨rfl, fun _ _ => rfl⟩
  | 3, _ => exact ⟨rfl, fun _ _ => rfl⟩
  | i + 4, h => exact absurd h (by omega)
theorem cO_ho {i : Nat} {β : Type} {x : Option β} (hi : i < 4) : zz_isO (Cl b S V Q g) (b + (43 + 2 * i)) 2 x = x := zz_isO_of (Cl_at (o := 43 + 2 * i) (by omega) (cel_ho hi).1)
theorem cgR_ho {i : Nat} (hi : i < 4) : zg_R (Cl b S V Q g) (b + (43 + 2 * i)) 2 0 = some (b + (44 + 2 * i)) := zg_R_of (Cl_at (o := 43 + 2 * i) (by omega) (cel_ho hi).1) rfl
theorem cgI_ho_1 {i : Nat} (hi : i < 4) : zg_I (Cl b S V Q g) (b + (43 + 2 * i)) 2 1 = some (S (43 + 2 * i) 1) := zg_I_of (Cl_at (o := 43 + 2 * i) (by omega) (cel_ho hi).1) rfl
theorem cgI_ho_2 {i : Nat} (hi : i < 4) : zg_I (Cl b S V Q g) (b + (43 + 2 * i)) 2 2 = some (S (43 + 2 * i) 2) := zg_I_of (Cl_at (o := 43 + 2 * i) (by omega) (cel_ho hi).1) rfl
theorem cp_ho_1 {i : Nat} (v : Int32) (hi : i < 4) : zp_V (Cl b S V Q g) (b + (43 + 2 * i)) 2 1 (.int v) = some (Cl b (va_up S (43 + 2 * i) (va_up (S (43 + 2 * i)) 1 v)) V Q g) := Cl_put (o := 43 + 2 * i) (by omega) (cel_ho hi).1 (Nat.le_of_ble_eq_true rfl) (by rw [(cel_ho hi).1]; rfl)
theorem cp_ho_2 {i : Nat} (v : Int32) (hi : i < 4) : zp_V (Cl b S V Q g) (b + (43 + 2 * i)) 2 2 (.int v) = some (Cl b (va_up S (43 + 2 * i) (va_up (S (43 + 2 * i)) 2 v)) V Q g) := Cl_put (o := 43 + 2 * i) (by omega) (cel_ho hi).1 (Nat.le_of_ble_eq_true rfl) (by rw [(cel_ho hi).1]; rfl)
theorem cN_ho {i : Nat} (hi : i < 4) : zl_N (Cl b S V Q g) (b + (44 + 2 * i)) 1 = some (zi 4) := zl_N_of (Cl_at (o := 44 + 2 * i) (by omega) ((cel_ho (s := S 0) (w := S 0) hi).2 _ _))
theorem cl_hi {i j : Nat} (hi : i < 4) (hj : j < 4) : zl_I (Cl b S V Q g) (b + (44 + 2 * i)) 1 (zi j) = some (V (44 + 2 * i) j) := zl_I_of (Cl_at (o := 44 + 2 * i) (by omega) ((cel_ho (s := S 0) (w := S 0) hi).2 _ _)) hj (by decide)
theorem cs_hi {i j : Nat} (v : Int32) (hi : i < 4) (hj : j < 4) : zs_I (Cl b S V Q g) (b + (44 + 2 * i)) 1 (zi j) v = some (Cl b S (va_up V (44 + 2 * i) (va_up (V (44 + 2 * i)) j v)) Q g) := Cl_st (o := 44 + 2 * i) (by omega) (fun w => (cel_ho (s := S 0) (w := S 0) hi).2 _ w) hj (by decide)
/-- the moments -/
def isM (o : Nat) : Prop := o = 52 ∨ o = 61 ∨ o = 63 ∨ o = 65 ∨ o = 67 ∨ o = 70
theorem isM.lt {o : Nat} (h : isM o) : o + 1 < 73 := by
  unfold isM at h
  omega
theorem cel_mo {o : Nat} (h : isM o) : (∀ s w, cel b Q o s w = some (.inr (3, [.ref (b + (o + 1)), .int (s 1), .int (s 2), .int (s 3), .int (s 4)]))) ∧ ∀ s w, cel b Q (o + 1) s w = some (.inl (1, 8, .inl w)) := by
  rcases h with rfl | rfl | rfl | rfl | rfl | rfl <;> exact ⟨fun _ _ => rfl, fun _ _ => rfl⟩
theorem cl_pt {i : Nat} (hi : i < 4) : zl_R (Cl b S V Q g) (b + 57) 6 (zi i) = some (b + (61 + 2 * i)) := zl_R_of (Cl_at (o := 57) (by decide) rfl) hi (by decide) (if_pos hi)
theorem cM_at {o : Nat} (h : isM o) : Cl b S V Q g (b + o) = some (.inr (3, [.ref (b + (o + 1)), .int (S o 1), .int (S o 2), .int (S o 3), .int (S o 4)])) := Cl_at (by have := h.lt; omega) ((cel_mo h).1 _ _)
theorem cM_O {o : Nat} {β : Type} {x : Option β} (h : isM o) : zz_isO (Cl b S V Q g) (b + o) 3 x = x := zz_isO_of (cM_at h)
theorem cM_R {o : Nat} (h : isM o) : zg_R (Cl b S V Q g) (b + o) 3 0 = some (b + (o + 1)) := zg_R_of (cM_at h) rfl
theorem cM_1 {o : Nat} (h : isM o) : zg_I (Cl b S V Q g) (b + o) 3 1 = some (S o 1) := zg_I_of (cM_at h) rfl
theorem cM_2 {o : Nat} (h : isM o) : zg_I (Cl b S V Q g) (b + o) 3 2 = some (S o 2) := zg_I_of (cM_at h) rfl
theorem cM_3 {o : Nat} (h : isM o) : zg_I (Cl b S V Q g) (b + o) 3 3 = some (S o 3) := zg_I_of (cM_at h) rfl
theorem cM_4 {o : Nat} (h : isM o) : zg_I (Cl b S V Q g) (b + o) 3 4 = some (S o 4) := zg_I_of (cM_at h) rfl
theorem cM_p1 {o : Nat} (v : Int32) (h : isM o) : zp_V (Cl b S V Q g) (b + o) 3 1 (.int v) = some (Cl b (va_up S o (va_up (S o) 1 v)) V Q g) := Cl_put (by have := h.lt; omega) ((cel_mo h).1 _ _) (Nat.le_of_ble_eq_true rfl) (by rw [(cel_mo h).1]; rfl)
theorem cM_p2 {o : Nat} (v : Int32) (h : isM o) : zp_V (Cl b S V Q g) (b + o) 3 2 (.int v) = some (Cl b (va_up S o (va_up (S o) 2 v)) V Q g) := Cl_put (by have := h.lt; omega) ((cel_mo h).1 _ _) (Nat.le_of_ble_eq_true rfl) (by rw [(cel_mo h).1]; rfl)
theorem cM_p3 {o : Nat} (v : Int32) (h : isM o) : zp_V (Cl b S V Q g) (b + o) 3 3 (.int v) = some (Cl b (va_up S o (va_up (S o) 3 v)) V Q g) := Cl_put (by have := h.lt; omega) ((cel_mo h).1 _ _) (Nat.le_of_ble_eq_true rfl) (by rw [(cel_mo h).1]; rfl)
theorem cM_p4 {o : Nat} (v : Int32) (h : isM o) : zp_V (Cl b S V Q g) (b + o) 3 4 (.int v) = some (Cl b (va_up S o (va_up (S o) 4 v)) V Q g) := Cl_put (by have := h.lt; omega) ((cel_mo h).1 _ _) (Nat.le_of_ble_eq_true rfl) (by rw [(cel_mo h).1]; rfl)
theorem cM_N {o : Nat} (h : isM o) : zl_N (Cl b S V Q g) (b + (o + 1)) 1 = some (zi 8) := zl_N_of (Cl_at h.lt ((cel_mo h).2 _ _))
theorem cM_l {o j : Nat} (h : isM o) (hj : j < 8) : zl_I (Cl b S V Q g) (b + (o + 1)) 1 (zi j) = some (V (o + 1) j) := zl_I_of (Cl_at h.lt ((cel_mo h).2 _ _)) hj (by decide)
theorem cM_s {o j : Nat} (v : Int32) (h : isM o) (hj : j < 8) : zs_I (Cl b S V Q g) (b + (o + 1)) 1 (zi j) v = some (Cl b S (va_up V (o + 1) (va_up (V (o + 1)) j v)) Q g) := Cl_st h.lt (fun w => (cel_mo h).2 _ w) hj (by decide)
end
