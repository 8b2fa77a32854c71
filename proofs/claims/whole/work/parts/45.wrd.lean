/-! ===== word ===== -/
theorem stq_congr {W s a n w : Nat} {len sig B len' sig' B' : Nat → Int32} (h1 : len w = len' w) (h2 : len w = zi n → ∀ k, k < n → sig (W * w + k) = sig' (W * w + k)) (h3 : ∀ k, k < n → B (s + k) = B' (a + k)) : stq W len sig B s n w = stq W len' sig' B' a n w := by
  unfold stq
  rw [← h1]
  by_cases h : len w = zi n
  · rw [fsr_congr (q := fun k => decide (sig' (W * w + k) ≠ B' (a + k)))]
    intro j _ hj
    rw [h2 h j (by omega), h3 j (by omega)]
  · rw [decide_eq_false h]
    simp
theorem find_congr {V Vm : Nat → Nat → Int32} {nw s a n : Nat} {B B' : Nat → Int32} (hw : Rwd V Vm nw) (hn : n < 1000000) (h3 : ∀ k, k < n → B (s + k) = B' (a + k)) : fsr (stq 6 (V 7) (V 6) B s n) nw 0 = fsr (stq 6 (Vm 6) (Vm 5) B' a n) nw 0 := by
  refine fsr_congr (fun w _ hw' => ?_)
  obtain ⟨l, l1, l6, e1, e2, e3⟩ := hw w (by omega)
  refine stq_congr (by rw [e1, e2]) (fun q k hk => ?_) h3
  rw [e1] at q
  have := (zi_eq (by omega) (by omega)).mp q
  exact e3 k (by omega)
theorem ltr_zi {c : Int32} (h : sgn c) : ∃ k, k < 128 ∧ c = zi k := by
  obtain ⟨k, hk, e⟩ := zi_rng (u := 126) (x := c) (by
    have := Int32.le_iff_toInt_le.mp h.1
    rw [Int32.le_iff_toInt_le]
    have e1 : (32 : Int32).toInt = 32 := rfl
    have e2 : (0 : Int32).toInt = 0 := rfl
    omega) h.2 (by decide)
  exact ⟨k, by omega, e⟩
theorem ltr_sgn {c : Int32} (h : ltr c) : sgn c := by
  obtain ⟨h1, h2⟩ := h
  refine ⟨?_, ?_⟩
  · rw [Int32.le_iff_toInt_le] at h1 ⊢
    have e1 : (97 : Int32).toInt = 97 := rfl
    have e2 : (32 : Int32).toInt = 32 := rfl
    omega
  · rw [Int32.le_iff_toInt_le] at h2 ⊢
    have e1 : (122 : Int32).toInt = 122 := rfl
    have e2 : (126 : Int32).toInt = 126 := rfl
    omega
section
variable {b m : Nat} {S V : Nat → Nat → Int32} {Q : Nat → Option Nat} {g g1 g2 : ZH} {Sm : Nat → Int32} {Vm : Nat → Nat → Int32}
theorem Byt_tape {t : Nat} (ht : S 1 1 = zi t) (h6 : t ≤ 600) : Byt (Cl b S V Q g) (b + 1) t (V 2) := ⟨b + 2, 600, by rw [cel_1, ht], Cl_at (o := 2) (by decide) rfl, by omega, by decide⟩
theorem Ent_words {nw : Nat} (hn : S 5 3 = zi nw) (hN : nw ≤ 16) : Ent (Cl b S V Q g) (b + 5) 6 16 nw (V 7) (V 6) := ⟨b + 6, b + 7, by rw [cel_5, hn]; rfl, Cl_at (o := 6) (by decide) rfl, Cl_at (o := 7) (by decide) rfl, hN, by decide, by decide⟩
theorem Ent_texts {nt : Nat} (hn : S 8 3 = zi nt) (hN : nt ≤ 24) : Ent (Cl b S V Q g) (b + 8) 20 24 nt (V 10) (V 9) := ⟨b + 9, b + 10, by rw [cel_8, hn]; rfl, Cl_at (o := 9) (by decide) rfl, Cl_at (o := 10) (by decide) rfl, hN, by decide, by decide⟩
/-- the tape holds a word -/
def gw (M : Nat → Int32) (t : Nat) : Prop := 1 ≤ t ∧ t ≤ 6 ∧ ∀ k, k < t → ltr (M k)
theorem gw_lt6 {f : Nat → Int32} {t : Nat} : gw (mby f t) t ↔ (1 ≤ t ∧ lt6 (mby f t) 0 = t) := by
  constructor
  · intro ⟨h1, h6, h⟩
    refine ⟨h1, fsr_eq (Nat.zero_le _) (by omega) (fun j _ hj => ?_) (fun hj => ?_)⟩
    · rw [decide_eq_false_iff_not, Decidable.not_not, Nat.zero_add]
      exact h j hj
    · rw [decide_eq_true_eq, Nat.zero_add]
      unfold mby
      rw [if_neg (by omega)]
      decide
  · intro ⟨h1, h⟩
    obtain ⟨g1, g2, g3, g4⟩ := fsr_spec (fun j => decide (¬ ltr (mby f t (0 + j)))) 6 0
    rw [show fsr (fun j => decide (¬ ltr (mby f t (0 + j)))) 6 0 = t from h] at g1 g2 g3 g4
    refine ⟨h1, by omega, fun k hk => ?_⟩
    have := g3 k (Nat.zero_le _) hk
    rw [decide_eq_false_iff_not, Decidable.not_not, Nat.zero_add] at this
    exact this
theorem X12_word_chk {t : Nat} {h0 : ZH} {S1 : Nat → Int32} (h6 : t ≤ 600) : ∃ v : Int32, (v = 0 ∧ ¬ gw (Vm 1) t ∨ v = 1 ∧ gw (Vm 1) t) ∧ zz_loop (fun st : (Int32 × Int32) => f_X12_word_L27 h0 m (zi t) (Rm m S1 Vm g) (st.1) (st.2)) (b01 ((1 : Int32) ≤ zi t ∧ zi t ≤ 6), (0 : Int32)) = f_X12_word_J52 h0 m (zi t) v (Rm m S1 Vm g) := by
  have ex : ∀ (v k : Int32), v = 0 ∨ zi t ≤ k → f_X12_word_L27 h0 m (zi t) (Rm m S1 Vm g) v k = (f_X12_word_J52 h0 m (zi t) v (Rm m S1 Vm g)).map Sum.inr := by
    intro v k hv
    unfold f_X12_word_L27
    by_cases hk : zi t ≤ k
    · rw [if_pos hk]
    · rw [if_neg hk, if_pos (hv.resolve_right hk)]
  by_cases ht : (1 : Int32) ≤ zi t ∧ zi t ≤ 6
  · rw [b01_t ht]
    have ht1 : 1 ≤ t := (zi_Lle (by omega) (by decide)).mp ht.1
    have ht6 : t ≤ 6 := (zi_leL (by omega) (by decide)).mp ht.2
    obtain ⟨f1, f2, f3, f4⟩ := fsr_spec (fun k => decide (¬ ltr (Vm 1 k))) t 0
    generalize fsr (fun k => decide (¬ ltr (Vm 1 k))) t 0 = i at f1 f2 f3 f4
    have key := loop_to (b := fun st : (Int32 × Int32) => f_X12_word_L27 h0 m (zi t) (Rm m S1 Vm g) (st.1) (st.2)) (fun i => (1, zi i)) 0 i (Nat.zero_le _) ?_
    · rw [show ((1 : Int32), (0 : Int32)) = (fun i => (1, zi i)) 0 from rfl, key]
      by_cases hi : i = t
      · subst hi
        refine ⟨1, Or.inr ⟨rfl, ht1, ht6, fun k hk => ?_⟩, zz_loop_map (ex 1 (zi i) (Or.inr ((zi_le (by omega) (by omega)).mpr (Nat.le_refl _))))⟩
        have := f3 k (Nat.zero_le _) hk
        rw [decide_eq_false_iff_not, Decidable.not_not] at this
        exact this
      · have hlt := f4 (by omega)
        rw [decide_eq_true_eq] at hlt
        refine ⟨0, Or.inl ⟨rfl, fun q => hlt (q.2.2 i (by omega))⟩, ?_⟩
        rw [zz_loop_inl (s' := (0, zi (i + 1)))]
        · exact zz_loop_map (ex 0 _ (Or.inl rfl))
        · show f_X12_word_L27 h0 m (zi t) (Rm m S1 Vm g) 1 (zi i) = _
          unfold f_X12_word_L27
          rw [if_neg (fun q => absurd ((zi_le (by omega) (by omega)).mp q) (by omega)), if_neg (by decide), rgR_1, Option.bind_some, rl_1 (by omega), Option.bind_some, X12_isLetter, Option.bind_some, b01_f hlt, zi_one]
    · intro k _ hk
      have := f3 k (Nat.zero_le _) hk
      rw [decide_eq_false_iff_not, Decidable.not_not] at this
      show f_X12_word_L27 h0 m (zi t) (Rm m S1 Vm g) 1 (zi k) = _
      unfold f_X12_word_L27
      rw [if_neg (fun q => absurd ((zi_le (by omega) (by omega)).mp q) (by omega)), if_neg (by decide), rgR_1, Option.bind_some, rl_1 (by omega), Option.bind_some, X12_isLetter, Option.bind_some, b01_t this, zi_one]
  · refine ⟨0, Or.inl ⟨rfl, fun q => ht ⟨(zi_Lle (by omega) (by decide)).mpr q.1, (zi_leL (by omega) (by decide)).mpr q.2.1⟩⟩, ?_⟩
    rw [b01_f ht]
    exact zz_loop_map (ex 0 0 (Or.inl rfl))
theorem X12_word_app {t nw : Nat} {h0 : ZH} {S1 : Nat → Int32} (h4 : S1 4 = zi nw) (hN : nw < 16) (ht : t ≤ 6) : zz_loop (fun st : (Int32 × ZH) => f_X12_word_L97 h0 m (zi t) (st.1) (st.2)) ((0 : Int32), Rm m S1 Vm g) = some (zi nw, Rm m (va_up S1 4 (zi (nw + 1))) (va_up (va_up Vm 5 (bw (Vm 5) (6 * nw) t (Vm 1))) 6 (va_up (Vm 6) nw (zi t))) g) := by
  have key := loop_cnt (b := fun st : (Int32 × ZH) => f_X12_word_L97 h0 m (zi t) (st.1) (st.2)) t (fun k => Rm m S1 (va_up Vm 5 (bw (Vm 5) (6 * nw) k (Vm 1))) g) (zi nw, Rm m (va_up S1 4 (zi (nw + 1))) (va_up (va_up Vm 5 (bw (Vm 5) (6 * nw) t (Vm 1))) 6 (va_up (Vm 6) nw (zi t))) g) 0 (Nat.zero_le _) ?_ ?_
  · rw [bw_0, up_id] at key
    exact key
  · intro k _ hk
    show f_X12_word_L97 h0 m (zi t) (zi k) _ = _
    unfold f_X12_word_L97
    rw [if_neg (fun q => absurd ((zi_le (by omega) (by omega)).mp q) (by omega)), rgR_5, Option.bind_some, rgI_4, Option.bind_some, h4, rgR_1, Option.bind_some, rl_1 (by omega), Option.bind_some, zi_Lmul, zi_add, rs_5 _ (by omega), Option.bind_some, up_self, up_up, zi_one]
    rw [show va_up Vm 5 (bw (Vm 5) (6 * nw) k (Vm 1)) 1 k = Vm 1 k from rfl, bw_up]
  · show f_X12_word_L97 h0 m (zi t) (zi t) _ = _
    unfold f_X12_word_L97
    rw [if_pos ((zi_le (by omega) (by omega)).mpr (Nat.le_refl _)), rgR_6, Option.bind_some, rgI_4, Option.bind_some, h4, rs_6 _ (by omega), Option.bind_some, rgI_4, Option.bind_some, h4, zi_one, rp_4, Option.bind_some, rgI_4, Option.bind_some, up_self, show zi (nw + 1) - (1 : Int32) = zi nw from zi_sub (b := 1) (by omega)]
    rfl
end
