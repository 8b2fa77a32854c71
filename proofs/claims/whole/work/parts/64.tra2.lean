/-! ===== the reference's grammar of transcripts ===== -/
theorem par0 : ∀ n, n < 21 → (zi (2 * n) - zi (2 * n) / (2 : Int32) * (2 : Int32)) = 0 := by decide
theorem par1 : ∀ n, n < 20 → (zi (2 * n + 1) - zi (2 * n + 1) / (2 : Int32) * (2 : Int32)) = 1 := by decide
section
variable {m : Nat} {S : Nat → Int32} {V : Nat → Nat → Int32} {g : ZH} {t : Nat}
theorem X12_endOf {k : Nat} (ht : S 2 = zi t) (h6 : t ≤ 600) (hk : k < 1000000) : f_X12_endOf (Rm m S V g) m (zi k) = some (zi (le' (mb (V 1) t) t k)) := by
  unfold f_X12_endOf le'
  obtain ⟨g1, g2, g3, g4⟩ := fsr_spec (fun j => decide (mb (V 1) t j = 10)) (t - k) k
  generalize fsr (fun j => decide (mb (V 1) t j = 10)) (t - k) k = n at g1 g2 g3 g4
  have key := loop_to (b := fun st : Int32 => f_X12_endOf_L2 (Rm m S V g) m (zi k) st) (fun i => zi i) k n g1 (fun i q1 q2 => by
    have := g3 i q1 q2
    rw [decide_eq_false_iff_not] at this
    have hi := mb_lo this
    unfold mb at this
    rw [if_pos hi] at this
    show f_X12_endOf_L2 (Rm m S V g) m (zi k) (zi i) = _
    unfold f_X12_endOf_L2
    rw [rgI_2, Option.bind_some, ht, if_neg (fun q => absurd ((zi_le (by omega) (by omega)).mp q) (by omega)), rgR_1, Option.bind_some, rl_1 (by omega), Option.bind_some, if_neg this, zi_one])
  refine Eq.trans key (zz_loop_inr ?_)
  show f_X12_endOf_L2 (Rm m S V g) m (zi k) (zi n) = _
  unfold f_X12_endOf_L2
  rw [rgI_2, Option.bind_some, ht]
  by_cases hL : t ≤ n
  · rw [if_pos ((zi_le (by omega) (by omega)).mpr hL)]
    rfl
  · have := g4 (by omega)
    rw [decide_eq_true_eq] at this
    unfold mb at this
    rw [if_pos (by omega)] at this
    rw [if_neg (fun q => hL ((zi_le (by omega) (by omega)).mp q)), rgR_1, Option.bind_some, rl_1 (by omega), Option.bind_some, if_pos this]
    rfl
theorem X12_J74 {k : Nat} {y : Int32} (ht : S 2 = zi t) (h6 : t ≤ 600) (hk : k ≤ t) : f_X12_wrongTranscript_J74 (Rm m S V g) m (zi k) y = (if mb (V 1) t (se (mb (V 1) t) t k) = 10 then some (.inl (zi (se (mb (V 1) t) t k + 1), y + (1 : Int32))) else some (.inr (zi (se (mb (V 1) t) t k)))) := by
  have hM : ∀ j, t ≤ j → mb (V 1) t j = 10 := fun j hj => mb_hi hj
  obtain ⟨s1, s2, s3, s4⟩ := se_spec hM hk
  obtain ⟨l1, l2⟩ := se_le hM hk
  have hle := le'_le (M := mb (V 1) t) hk
  unfold f_X12_wrongTranscript_J74
  rw [rO, X12_endOf ht h6 (by omega), Option.bind_some]
  generalize le' (mb (V 1) t) t k = e at l1 l2 hle
  generalize se (mb (V 1) t) t k = s at s1 s2 s3 s4 l1 l2
  have key := loop_to (b := fun st : Int32 => f_X12_wrongTranscript_L83 (Rm m S V g) m y (zi e) st) (fun i => zi i) k s s1 (fun i q1 q2 => by
    have := s3 i q1 q2
    have hi := mb_lo (sgn_n10 this)
    unfold mb at this
    rw [if_pos hi] at this
    show f_X12_wrongTranscript_L83 (Rm m S V g) m y (zi e) (zi i) = _
    unfold f_X12_wrongTranscript_L83
    rw [if_neg (fun q => absurd ((zi_le (by omega) (by omega)).mp q) (by omega)), rgR_1, Option.bind_some, rl_1 (by omega), Option.bind_some, X12_isSign, Option.bind_some, if_neg (fun q => b01_0.mp q this), zi_one])
  refine Eq.trans key ?_
  by_cases h10 : mb (V 1) t s = 10
  · have e1 := l2.mp h10
    rw [if_pos h10]
    refine zz_loop_inr ?_
    show f_X12_wrongTranscript_L83 (Rm m S V g) m y (zi e) (zi s) = _
    unfold f_X12_wrongTranscript_L83
    rw [if_pos ((zi_le (by omega) (by omega)).mpr (by omega)), zz_let, zi_one, e1]
    rfl
  · have hs := mb_lo h10
    have hne : s ≠ e := fun q => h10 (l2.mpr q)
    rw [if_neg h10]
    refine zz_loop_inr ?_
    show f_X12_wrongTranscript_L83 (Rm m S V g) m y (zi e) (zi s) = _
    unfold mb at s4
    rw [if_pos hs] at s4
    unfold f_X12_wrongTranscript_L83
    rw [if_neg (fun q => absurd ((zi_le (by omega) (by omega)).mp q) (by omega)), rgR_1, Option.bind_some, rl_1 (by omega), Option.bind_some, X12_isSign, Option.bind_some, if_pos (b01_f s4)]
    rfl
theorem X12_wt (ht : S 2 = zi t) (h6 : t ≤ 600) : ∀ (fu k n : Nat), t < k + fu → k ≤ t + 1 → n ≤ 20 → zz_loop (fun st : (Int32 × Int32) => f_X12_wrongTranscript_L4 (Rm m S V g) m (st.1) (st.2)) (zi k, zi (2 * n)) = some (mE (wt (mb (V 1) t) t fu k n))
  | 0, k, n, h1, h2, hn => by
    refine zz_loop_inr ?_
    show f_X12_wrongTranscript_L4 (Rm m S V g) m (zi k) (zi (2 * n)) = _
    unfold f_X12_wrongTranscript_L4
    rw [rgI_2, Option.bind_some, ht, if_pos ((zi_le (by omega) (by omega)).mpr (by omega)), zz_ne, if_neg (show ¬ (2 : Int32) = 0 by decide), par0 n (by omega), if_neg (show ¬ (0 : Int32) = 1 by decide)]
    rfl
  | fu + 1, k, n, h1, h2, hn => by
    have hM : ∀ j, t ≤ j → mb (V 1) t j = 10 := fun j hj => mb_hi hj
    rw [wt_succ]
    by_cases hk : t ≤ k
    · rw [if_pos hk]
      refine zz_loop_inr ?_
      show f_X12_wrongTranscript_L4 (Rm m S V g) m (zi k) (zi (2 * n)) = _
      unfold f_X12_wrongTranscript_L4
      rw [rgI_2, Option.bind_some, ht, if_pos ((zi_le (by omega) (by omega)).mpr (by omega)), zz_ne, if_neg (show ¬ (2 : Int32) = 0 by decide), par0 n (by omega), if_neg (show ¬ (0 : Int32) = 1 by decide)]
      rfl
    · rw [if_neg hk]
      by_cases h20 : n = 20
      · rw [if_pos h20]
        subst h20
        refine zz_loop_inr ?_
        show f_X12_wrongTranscript_L4 (Rm m S V g) m (zi k) (zi (2 * 20)) = _
        unfold f_X12_wrongTranscript_L4
        rw [rgI_2, Option.bind_some, ht, if_neg (fun q => hk ((zi_le (by omega) (by omega)).mp q)), if_pos (by decide)]
        rfl
      · rw [if_neg h20]
        have mk : V 1 k = mb (V 1) t k := by
          unfold mb
          rw [if_pos (by omega)]
        have st : f_X12_wrongTranscript_L4 (Rm m S V g) m (zi k) (zi (2 * n)) = f_X12_wrongTranscript_J67 (Rm m S V g) m (zi k) (zi (2 * n)) (mE (wtw (mb (V 1) t) k)) := by
          unfold f_X12_wrongTranscript_L4
          rw [rgI_2, Option.bind_some, ht, if_neg (fun q => hk ((zi_le (by omega) (by omega)).mp q)), if_neg (fun q => absurd ((zi_eqL (by omega) (by decide)).mp q) (by omega)), zz_ne, if_neg (show ¬ (2 : Int32) = 0 by decide), par0 n (by omega), if_pos rfl, rgR_1, Option.bind_some, rl_1 (by omega), Option.bind_some, mk, zi_one, show zi k + (2 : Int32) = zi (k + 2) from zi_add k 2]
          unfold wtw
          by_cases h62 : mb (V 1) t k = 62
          · rw [if_pos h62, if_neg (fun q => q h62), rO, X12_byteAt ht h6 (by omega), Option.bind_some]
            by_cases h32 : mb (V 1) t (k + 1) = 32
            · have := mb_lo (t := t) (T := V 1) (k := k + 1) (by rw [h32]; decide)
              rw [if_pos h32, if_neg (fun q => q h32), rO, X12_wrongWords ht h6 (by omega), Option.bind_some, decide_eq_true (show (1 : Int32) ≠ 0 by decide)]
            · rw [if_neg h32, if_pos h32]
              rfl
          · rw [if_neg h62, if_pos h62]
            rfl
        cases hw : wtw (mb (V 1) t) k with
        | some p =>
          rw [hw] at st
          have hp := wtw_le hw
          refine zz_loop_inr ?_
          show f_X12_wrongTranscript_L4 (Rm m S V g) m (zi k) (zi (2 * n)) = _
          rw [st]
          unfold f_X12_wrongTranscript_J67 mE
          rw [if_neg (zi_neg (by omega))]
          rfl
        | none =>
          rw [hw] at st
          obtain ⟨n1, -, -, -, -, -, -, ele, hnL, ese⟩ := wtw_none hM (by omega) hw
          have hle10 := le'_is hM (show k ≤ t by omega)
          unfold f_X12_wrongTranscript_J67 mE at st
          rw [if_pos (show (-1 : Int32) < 0 by decide), X12_J74 ht h6 (by omega), ese, if_pos hle10, zi_one] at st
          rw [zz_loop_inl (b := fun st : (Int32 × Int32) => f_X12_wrongTranscript_L4 (Rm m S V g) m (st.1) (st.2)) (s := (zi k, zi (2 * n))) st]
          dsimp only
          have hleL : le' (mb (V 1) t) t k ≤ t := le'_le (by omega)
          generalize le' (mb (V 1) t) t k = e at hleL ele
          by_cases he : t ≤ e + 1
          · rw [if_pos he]
            refine zz_loop_inr ?_
            show f_X12_wrongTranscript_L4 (Rm m S V g) m (zi (e + 1)) (zi (2 * n + 1)) = _
            unfold f_X12_wrongTranscript_L4
            rw [rgI_2, Option.bind_some, ht, if_pos ((zi_le (by omega) (by omega)).mpr (by omega)), zz_ne, if_neg (show ¬ (2 : Int32) = 0 by decide), par1 n (by omega), if_pos rfl, Option.bind_some]
            rfl
          · rw [if_neg he]
            obtain ⟨s1, s2, s3, s4⟩ := se_spec hM (show e + 1 ≤ t by omega)
            have st2 : f_X12_wrongTranscript_L4 (Rm m S V g) m (zi (e + 1)) (zi (2 * n + 1)) = f_X12_wrongTranscript_J74 (Rm m S V g) m (zi (e + 1)) (zi (2 * n + 1)) := by
              unfold f_X12_wrongTranscript_L4
              rw [rgI_2, Option.bind_some, ht, if_neg (fun q => he ((zi_le (by omega) (by omega)).mp q)), if_neg (fun q => absurd ((zi_eqL (by omega) (by decide)).mp q) (by omega)), zz_ne, if_neg (show ¬ (2 : Int32) = 0 by decide), par1 n (by omega), if_neg (show ¬ (1 : Int32) = 0 by decide)]
            rw [X12_J74 ht h6 (by omega)] at st2
            generalize se (mb (V 1) t) t (e + 1) = s at st2 s1 s2 s3 s4
            by_cases h10 : mb (V 1) t s = 10
            · rw [if_pos h10, zi_one] at st2
              rw [if_neg (fun q => q h10), zz_loop_inl (b := fun st : (Int32 × Int32) => f_X12_wrongTranscript_L4 (Rm m S V g) m (st.1) (st.2)) (s := (zi (e + 1), zi (2 * n + 1))) st2]
              exact X12_wt ht h6 fu (s + 1) (n + 1) (by omega) (by omega) (by omega)
            · rw [if_neg h10] at st2
              rw [if_pos h10]
              exact zz_loop_inr st2
theorem X12_wrongTranscript (ht : S 2 = zi t) (h6 : t ≤ 600) : f_X12_wrongTranscript (Rm m S V g) m = some (mE (wt (mb (V 1) t) t 601 0 0)) := by
  unfold f_X12_wrongTranscript
  exact X12_wt ht h6 601 0 0 (by omega) (by omega) (by omega)
end
