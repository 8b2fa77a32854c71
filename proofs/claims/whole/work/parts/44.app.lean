/-! ===== word and text ===== -/
set_option maxRecDepth 100000 in
theorem nar_id : ∀ c, c < 128 → vp_nar .byte ((zi c).toInt8.toInt32) = zi c := by
  intro c hc
  rw [vp_nar_byte]
  revert c
  decide
section
variable {b m : Nat} {S V : Nat → Nat → Int32} {Q : Nat → Option Nat} {g g1 g2 : ZH} {Sm : Nat → Int32} {Vm : Nat → Nat → Int32}

theorem X1_append_w_loop {nw t : Nat} {h0 : ZH} (hn : S 5 3 = zi nw) (hN : nw < 16) (ht : S 1 1 = zi t) (hW : t ≤ 6) :
    zz_loop (fun st : (Int32 × ZH) => f_X1_append_L45 h0 (b + 5) (b + 1) (zi (6 * nw)) (st.1) (st.2)) ((0 : Int32), Cl b S V Q g) = some (zi nw, Cl b (va_up S 5 (va_up (S 5) 3 (zi (nw + 1)))) (va_up (va_up V 6 (bw (V 6) (6 * nw) t (fun k => vp_nar .byte ((bt (V 2) t k).toInt8.toInt32)))) 7 (va_up (V 7) nw (zi t))) Q g) := by
  have hB : ∀ k, k ≤ t → Byt (Cl b S (va_up V 6 (bw (V 6) (6 * nw) k (fun k => vp_nar .byte ((bt (V 2) t k).toInt8.toInt32)))) Q g) (b + 1) t (V 2) := fun k hk => ⟨b + 2, 600, by rw [cel_1, ht], Cl_at (o := 2) (by decide) rfl, by omega, by decide⟩
  have key := loop_cnt (b := fun st : (Int32 × ZH) => f_X1_append_L45 h0 (b + 5) (b + 1) (zi (6 * nw)) (st.1) (st.2)) t (fun k => Cl b S (va_up V 6 (bw (V 6) (6 * nw) k (fun k => vp_nar .byte ((bt (V 2) t k).toInt8.toInt32)))) Q g) (zi nw, Cl b (va_up S 5 (va_up (S 5) 3 (zi (nw + 1)))) (va_up (va_up V 6 (bw (V 6) (6 * nw) t (fun k => vp_nar .byte ((bt (V 2) t k).toInt8.toInt32)))) 7 (va_up (V 7) nw (zi t))) Q g) 0 (Nat.zero_le _) ?_ ?_
  · rw [bw_0, up_id] at key
    exact key
  · intro k _ hk
    show f_X1_append_L45 h0 (b + 5) (b + 1) (zi (6 * nw)) (zi k) _ = _
    unfold f_X1_append_L45
    rw [cgI_1_1, Option.bind_some, ht, if_neg (fun q => absurd ((zi_le (by omega) (by omega)).mp q) (by omega)), zz_let, zi_add, if_neg (zi_neg (by omega)), cgR_5_1, Option.bind_some, cN_6, Option.bind_some, if_neg (fun q => absurd ((zi_le (by omega) (by omega)).mp q) (by omega)), Option.bind_some, (hB k (by omega)).isO, X0_at (hB k (by omega)) (by omega), Option.bind_some, cs_6 _ (by omega), Option.bind_some, up_self, up_up, zi_one]
    rw [show vp_nar .byte ((bt (V 2) t k).toInt8.toInt32) = (fun k => vp_nar .byte ((bt (V 2) t k).toInt8.toInt32)) k from rfl, bw_up]
  · show f_X1_append_L45 h0 (b + 5) (b + 1) (zi (6 * nw)) (zi t) _ = _
    unfold f_X1_append_L45
    rw [cgI_1_1, Option.bind_some, ht, if_pos ((zi_le (by omega) (by omega)).mpr (Nat.le_refl _)), cgR_5_2, Option.bind_some, cgI_5_3, Option.bind_some, hn, Option.bind_some, cs_7 _ (by omega), Option.bind_some, cgI_5_3, Option.bind_some, hn, zi_one, cp_5_3, Option.bind_some, cgI_5_3, Option.bind_some, up_self, up_self, show zi (nw + 1) - (1 : Int32) = zi nw from zi_sub (b := 1) (by omega)]
    rfl
theorem X1_append_w {nw t : Nat} (hn : S 5 3 = zi nw) (hN : nw ≤ 16) (ht : S 1 1 = zi t) (hW : t ≤ 6) : f_X1_append (Cl b S V Q g) (b + 5) (b + 1) = some (if nw < 16 then (zi nw, Cl b (va_up S 5 (va_up (S 5) 3 (zi (nw + 1)))) (va_up (va_up V 6 (bw (V 6) (6 * nw) t (fun k => vp_nar .byte ((bt (V 2) t k).toInt8.toInt32)))) 7 (va_up (V 7) nw (zi t))) Q g) else (-5, Cl b S V Q g)) := by
  unfold f_X1_append
  simp only [cgI_5_3, Option.bind_some, hn, cgR_5_2, cN_7, cgI_1_1, ht, cgI_5_0]
  rw [if_neg (zi_neg (by omega))]
  by_cases h : nw < 16
  · rw [if_neg (fun q => absurd ((zi_le (by omega) (by omega)).mp q) (by omega)), if_pos ((zi_leL (by omega) (by decide)).mpr hW), zz_let, show zi nw * (6 : Int32) = zi (6 * nw) by rw [show (6 : Int32) = zi 6 from rfl, zi_mul, Nat.mul_comm], X1_append_w_loop hn h ht hW, if_pos h]
  · rw [if_pos ((zi_le (by omega) (by omega)).mpr (by omega)), if_neg h]

theorem X1_append_t_loop {nw t : Nat} {h0 : ZH} (hn : S 8 3 = zi nw) (hN : nw < 24) (ht : S 1 1 = zi t) (hW : t ≤ 20) :
    zz_loop (fun st : (Int32 × ZH) => f_X1_append_L45 h0 (b + 8) (b + 1) (zi (20 * nw)) (st.1) (st.2)) ((0 : Int32), Cl b S V Q g) = some (zi nw, Cl b (va_up S 8 (va_up (S 8) 3 (zi (nw + 1)))) (va_up (va_up V 9 (bw (V 9) (20 * nw) t (fun k => vp_nar .byte ((bt (V 2) t k).toInt8.toInt32)))) 10 (va_up (V 10) nw (zi t))) Q g) := by
  have hB : ∀ k, k ≤ t → Byt (Cl b S (va_up V 9 (bw (V 9) (20 * nw) k (fun k => vp_nar .byte ((bt (V 2) t k).toInt8.toInt32)))) Q g) (b + 1) t (V 2) := fun k hk => ⟨b + 2, 600, by rw [cel_1, ht], Cl_at (o := 2) (by decide) rfl, by omega, by decide⟩
  have key := loop_cnt (b := fun st : (Int32 × ZH) => f_X1_append_L45 h0 (b + 8) (b + 1) (zi (20 * nw)) (st.1) (st.2)) t (fun k => Cl b S (va_up V 9 (bw (V 9) (20 * nw) k (fun k => vp_nar .byte ((bt (V 2) t k).toInt8.toInt32)))) Q g) (zi nw, Cl b (va_up S 8 (va_up (S 8) 3 (zi (nw + 1)))) (va_up (va_up V 9 (bw (V 9) (20 * nw) t (fun k => vp_nar .byte ((bt (V 2) t k).toInt8.toInt32)))) 10 (va_up (V 10) nw (zi t))) Q g) 0 (Nat.zero_le _) ?_ ?_
  · rw [bw_0, up_id] at key
    exact key
  · intro k _ hk
    show f_X1_append_L45 h0 (b + 8) (b + 1) (zi (20 * nw)) (zi k) _ = _
    unfold f_X1_append_L45
    rw [cgI_1_1, Option.bind_some, ht, if_neg (fun q => absurd ((zi_le (by omega) (by omega)).mp q) (by omega)), zz_let, zi_add, if_neg (zi_neg (by omega)), cgR_8_1, Option.bind_some, cN_9, Option.bind_some, if_neg (fun q => absurd ((zi_le (by omega) (by omega)).mp q) (by omega)), Option.bind_some, (hB k (by omega)).isO, X0_at (hB k (by omega)) (by omega), Option.bind_some, cs_9 _ (by omega), Option.bind_some, up_self, up_up, zi_one]
    rw [show vp_nar .byte ((bt (V 2) t k).toInt8.toInt32) = (fun k => vp_nar .byte ((bt (V 2) t k).toInt8.toInt32)) k from rfl, bw_up]
  · show f_X1_append_L45 h0 (b + 8) (b + 1) (zi (20 * nw)) (zi t) _ = _
    unfold f_X1_append_L45
    rw [cgI_1_1, Option.bind_some, ht, if_pos ((zi_le (by omega) (by omega)).mpr (Nat.le_refl _)), cgR_8_2, Option.bind_some, cgI_8_3, Option.bind_some, hn, Option.bind_some, cs_10 _ (by omega), Option.bind_some, cgI_8_3, Option.bind_some, hn, zi_one, cp_8_3, Option.bind_some, cgI_8_3, Option.bind_some, up_self, up_self, show zi (nw + 1) - (1 : Int32) = zi nw from zi_sub (b := 1) (by omega)]
    rfl
theorem X1_append_t {nw t : Nat} (hn : S 8 3 = zi nw) (hN : nw ≤ 24) (ht : S 1 1 = zi t) (hW : t ≤ 20) : f_X1_append (Cl b S V Q g) (b + 8) (b + 1) = some (if nw < 24 then (zi nw, Cl b (va_up S 8 (va_up (S 8) 3 (zi (nw + 1)))) (va_up (va_up V 9 (bw (V 9) (20 * nw) t (fun k => vp_nar .byte ((bt (V 2) t k).toInt8.toInt32)))) 10 (va_up (V 10) nw (zi t))) Q g) else (-5, Cl b S V Q g)) := by
  unfold f_X1_append
  simp only [cgI_8_3, Option.bind_some, hn, cgR_8_2, cN_10, cgI_1_1, ht, cgI_8_0]
  rw [if_neg (zi_neg (by omega))]
  by_cases h : nw < 24
  · rw [if_neg (fun q => absurd ((zi_le (by omega) (by omega)).mp q) (by omega)), if_pos ((zi_leL (by omega) (by decide)).mpr hW), zz_let, show zi nw * (20 : Int32) = zi (20 * nw) by rw [show (20 : Int32) = zi 20 from rfl, zi_mul, Nat.mul_comm], X1_append_t_loop hn h ht hW, if_pos h]
  · rw [if_pos ((zi_le (by omega) (by omega)).mpr (by omega)), if_neg h]
end
