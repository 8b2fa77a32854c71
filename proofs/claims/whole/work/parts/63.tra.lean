/-! ===== the grammar of transcripts ===== -/
theorem ww_one {M : Nat → Int32} {k : Nat} : ww M true 601 k 0 = (if lt6 M k = 0 then some k else if M (k + lt6 M k) = 10 then none else some (k + lt6 M k)) := by
  obtain ⟨g1, g2, g3⟩ := lt6_spec M k
  generalize lt6 M k = n at g1 g2 g3
  have e := ww_skip (M := M) (one := true) n (601 - n) k 0 g2 (by omega)
  rw [show 601 - n + n = 601 by omega, Nat.zero_add] at e
  rw [e, show 601 - n = 600 - n + 1 by omega, ww_succ]
  by_cases h0 : n = 0
  · subst h0
    have nl : ¬ ltr (M (k + 0)) := g3 (by omega)
    rw [if_neg (fun q => absurd q.2 (by decide)), if_neg (fun q => nl q.1), if_pos rfl]
    rfl
  · rw [if_neg h0]
    by_cases h10 : M (k + n) = 10
    · rw [if_pos ⟨Or.inl h10, by omega⟩, if_pos h10, if_pos h10]
    · have c1 : ¬ ((M (k + n) = 10 ∨ (M (k + n) = 32 ∧ true = false)) ∧ 0 < n) := by
        rintro ⟨q | ⟨-, q⟩, -⟩
        · exact h10 q
        · cases q
      have c2 : ¬ (ltr (M (k + n)) ∧ n < 6) := fun q => g3 q.2 q.1
      rw [if_neg c1, if_neg c2, if_neg h10]
/-- the line of a word -/
def wtw (M : Nat → Int32) (k : Nat) : Option Nat := if M k ≠ 62 then some k else if M (k + 1) ≠ 32 then some (k + 1) else ww M true 601 (k + 2) 0
/-- a transcript from its pair n on, which begins at k -/
def wt (M : Nat → Int32) (L : Nat) : Nat → Nat → Nat → Option Nat
  | 0, _, _ => none
  | f + 1, k, n => if L ≤ k then none else if n = 20 then some k else match wtw M k with
    | some p => some p
    | none => if L ≤ le' M L k + 1 then some L else if M (se M L (le' M L k + 1)) ≠ 10 then some (se M L (le' M L k + 1)) else wt M L f (se M L (le' M L k + 1) + 1) (n + 1)
theorem wt_succ {M : Nat → Int32} {L f k n : Nat} : wt M L (f + 1) k n = (if L ≤ k then none else if n = 20 then some k else match wtw M k with
    | some p => some p
    | none => if L ≤ le' M L k + 1 then some L else if M (se M L (le' M L k + 1)) ≠ 10 then some (se M L (le' M L k + 1)) else wt M L f (se M L (le' M L k + 1) + 1) (n + 1)) := rfl
theorem se_spec {M : Nat → Int32} {L k : Nat} (hM : ∀ j, L ≤ j → M j = 10) (hk : k ≤ L) : k ≤ se M L k ∧ se M L k ≤ L ∧ (∀ j, k ≤ j → j < se M L k → sgn (M j)) ∧ ¬ sgn (M (se M L k)) := by
  obtain ⟨g1, g2, g3, g4⟩ := fsr_spec (fun j => decide (¬ sgn (M j))) (L - k) k
  unfold se
  generalize fsr (fun j => decide (¬ sgn (M j))) (L - k) k = n at g1 g2 g3 g4
  refine ⟨g1, by omega, fun j h1 h2 => ?_, ?_⟩
  · have := g3 j h1 h2
    rw [decide_eq_false_iff_not, Decidable.not_not] at this
    exact this
  · by_cases hn : n < L
    · have := g4 (by omega)
      rw [decide_eq_true_eq] at this
      exact this
    · rw [hM n (by omega)]
      decide
theorem se_le {M : Nat → Int32} {L k : Nat} (hM : ∀ j, L ≤ j → M j = 10) (hk : k ≤ L) : se M L k ≤ le' M L k ∧ (M (se M L k) = 10 ↔ se M L k = le' M L k) := by
  obtain ⟨g1, g2, g3, g4⟩ := se_spec hM hk
  have h1 := le'_is hM hk
  have h2 := le'_ge M L k
  have hle : se M L k ≤ le' M L k := by
    rcases Nat.lt_or_ge (le' M L k) (se M L k) with q | q
    · have := g3 _ h2 q
      exact absurd h1 (sgn_n10 this)
    · exact q
  refine ⟨hle, fun q => ?_, fun q => by rw [q]; exact h1⟩
  rcases Nat.lt_or_ge (se M L k) (le' M L k) with q2 | q2
  · exact absurd q (le'_no g1 q2)
  · omega
/-- the line of a word that is right has signs alone -/
theorem wtw_none {M : Nat → Int32} {L k : Nat} (hM : ∀ j, L ≤ j → M j = 10) (hk : k ≤ L) (h : wtw M k = none) : ∃ n, M k = 62 ∧ M (k + 1) = 32 ∧ 1 ≤ n ∧ n ≤ 6 ∧ lt6 M (k + 2) = n ∧ (∀ j, k + 2 ≤ j → j < k + 2 + n → ltr (M j)) ∧ le' M L k = k + 2 + n ∧ k + 2 + n ≤ L ∧ se M L k = le' M L k := by
  unfold wtw at h
  have h62 : M k = 62 := Decidable.byContradiction fun q => by
    rw [if_pos q] at h
    cases h
  rw [if_neg (fun q => q h62)] at h
  have h32 : M (k + 1) = 32 := Decidable.byContradiction fun q => by
    rw [if_pos q] at h
    cases h
  rw [if_neg (fun q => q h32), ww_one] at h
  have h0 : lt6 M (k + 2) ≠ 0 := fun q => by
    rw [if_pos q] at h
    cases h
  rw [if_neg h0] at h
  have h10 : M (k + 2 + lt6 M (k + 2)) = 10 := Decidable.byContradiction fun q => by
    rw [if_neg q] at h
    cases h
  obtain ⟨g1, g2, g3⟩ := lt6_spec M (k + 2)
  have hlo : ∀ j, M j ≠ 10 → j < L := fun j q => by
    rcases Nat.lt_or_ge j L with q2 | q2
    · exact q2
    · exact absurd (hM j q2) q
  have hl := hlo _ (ltr_n10 (g2 (k + 2 + lt6 M (k + 2) - 1) (by omega) (by omega)))
  have hne : ∀ j, k ≤ j → j < k + 2 + lt6 M (k + 2) → sgn (M j) := fun j q1 q2 => by
    by_cases e1 : j = k
    · rw [e1, h62]
      decide
    · by_cases e2 : j = k + 1
      · rw [e2, h32]
        decide
      · have := g2 j (by omega) q2
        have e3 := Int32.le_iff_toInt_le.mp this.1
        have e4 := Int32.le_iff_toInt_le.mp this.2
        refine ⟨Int32.le_iff_toInt_le.mpr ?_, Int32.le_iff_toInt_le.mpr ?_⟩
        · have e5 : (97 : Int32).toInt = 97 := rfl
          have e6 : (32 : Int32).toInt = 32 := rfl
          omega
        · have e5 : (122 : Int32).toInt = 122 := rfl
          have e6 : (126 : Int32).toInt = 126 := rfl
          omega
  have ele : le' M L k = k + 2 + lt6 M (k + 2) := by
    rw [le'_skip (j := k + 2 + lt6 M (k + 2)) (by omega) (by omega) (fun j q1 q2 => sgn_n10 (hne j q1 q2)), le'_at h10]
  obtain ⟨s1, s2, s3, s4⟩ := se_spec hM hk
  refine ⟨lt6 M (k + 2), h62, h32, by omega, g1, rfl, g2, ele, by omega, ?_⟩
  obtain ⟨l1, l2⟩ := se_le hM hk
  rcases Nat.lt_or_ge (se M L k) (le' M L k) with q | q
  · exact absurd (hne _ s1 (by omega)) s4
  · omega
section
variable {h : ZH} {a L : Nat} {f : Nat → Int32}
theorem X2_transcriptWord {k : Nat} (hB : Byt h a L f) (hk : k < L) : f_X2_transcriptWord h a (zi k) = some (match wtw (mby f L) k with | none => zi (le' (mby f L) L k) | some p => zi p ^^^ (-1 : Int32)) := by
  have h6 := hB.le
  unfold f_X2_transcriptWord
  rw [hB.isO, X0_at hB (by omega), Option.bind_some, zi_one, show zi k + (2 : Int32) = zi (k + 2) from zi_add k 2]
  cases hw : wtw (mby f L) k with
  | none =>
    obtain ⟨n, h62, h32, h1, h2, e6, hl, ele, hnL, -⟩ := wtw_none (fun j hj => mby_hi hj) (by omega) hw
    have h10 : mby f L (k + 2 + n) = 10 := by
      rw [← ele]
      exact le'_is (fun j hj => mby_hi hj) (by omega)
    rw [if_pos ((bt_is (by decide) (by decide)).mpr h62), hB.isO, X0_at hB (by omega), Option.bind_some, if_pos ((bt_is (by decide) (by decide)).mpr h32), X2_lettersEnd hB (by omega), Option.bind_some, e6, if_neg (show ¬ n = 0 by omega), if_neg (zi_neg (by omega)), hB.isO, X0_at hB (by omega), Option.bind_some, X2_endsLine, Option.bind_some, if_neg (fun q => b01_0.mp q ((bt_end f L _).mpr h10)), ele]
  | some p =>
    unfold wtw at hw
    by_cases h62 : mby f L k = 62
    · rw [if_neg (fun q => q h62)] at hw
      rw [if_pos ((bt_is (by decide) (by decide)).mpr h62), hB.isO, X0_at hB (by omega), Option.bind_some]
      by_cases h32 : mby f L (k + 1) = 32
      · rw [if_neg (fun q => q h32), ww_one] at hw
        rw [if_pos ((bt_is (by decide) (by decide)).mpr h32), X2_lettersEnd hB (by omega), Option.bind_some]
        obtain ⟨g1, g2, g3⟩ := lt6_spec (mby f L) (k + 2)
        by_cases h0 : lt6 (mby f L) (k + 2) = 0
        · rw [if_pos h0] at hw
          injection hw with hw
          subst hw
          rw [if_pos h0, if_pos]
          rw [Int32.lt_iff_toInt_lt, xor_int (by omega)]
          have e2 : (0 : Int32).toInt = 0 := rfl
          omega
        · rw [if_neg h0] at hw
          have h10 : ¬ mby f L (k + 2 + lt6 (mby f L) (k + 2)) = 10 := fun q => by
            rw [if_pos q] at hw
            cases hw
          rw [if_neg h10] at hw
          injection hw with hw
          subst hw
          rw [if_neg h0, if_neg (zi_neg (by omega)), hB.isO, X0_at hB (by omega), Option.bind_some, X2_endsLine, Option.bind_some, if_pos (b01_f (fun q => h10 ((bt_end f L _).mp q)))]
      · rw [if_pos h32] at hw
        injection hw with hw
        subst hw
        rw [if_neg (fun q => h32 ((bt_is (by decide) (by decide)).mp q))]
    · rw [if_pos h62] at hw
      injection hw with hw
      subst hw
      rw [if_neg (fun q => h62 ((bt_is (by decide) (by decide)).mp q))]
theorem xor_xor1 {k : Nat} : (zi k ^^^ (-1 : Int32)) ^^^ (-1 : Int32) = zi k := by
  apply Int32.toBitVec_inj.mp
  rw [Int32.toBitVec_xor, Int32.toBitVec_xor, BitVec.xor_assoc, BitVec.xor_self, BitVec.xor_zero]
theorem wtw_le {M : Nat → Int32} {k p : Nat} (h : wtw M k = some p) : p ≤ k + 8 := by
  unfold wtw at h
  by_cases h1 : M k = 62
  · rw [if_neg (fun q => q h1)] at h
    by_cases h2 : M (k + 1) = 32
    · rw [if_neg (fun q => q h2), ww_one] at h
      obtain ⟨g1, -⟩ := lt6_spec M (k + 2)
      by_cases h3 : lt6 M (k + 2) = 0
      · rw [if_pos h3] at h
        injection h with h
        omega
      · rw [if_neg h3] at h
        by_cases h4 : M (k + 2 + lt6 M (k + 2)) = 10
        · rw [if_pos h4] at h
          cases h
        · rw [if_neg h4] at h
          injection h with h
          omega
    · rw [if_pos h2] at h
      injection h with h
      omega
  · rw [if_pos h1] at h
    injection h with h
    omega
theorem X2_wt_stop {k : Nat} {y : Int32} (hB : Byt h a L f) (hk : L ≤ k) (h2 : k ≤ L + 1) : f_X2_wrongInTranscript_L4 h a (zi k) y = some (.inr (-1)) := by
  have h6 := hB.le
  have J : f_X2_wrongInTranscript_J82 h a (zi k) = some (-1) := by
    unfold f_X2_wrongInTranscript_J82
    rw [hB.len, Option.bind_some, if_pos ((zi_le (by omega) (by omega)).mpr hk)]
  unfold f_X2_wrongInTranscript_L4
  rw [J, hB.len, Option.bind_some]
  by_cases q : (40 : Int32) < y
  · rw [if_pos q]
    rfl
  · rw [if_neg q, if_pos ((zi_le (by omega) (by omega)).mpr hk)]
    rfl
theorem X2_wt (hB : Byt h a L f) : ∀ (fu k n : Nat), L < k + fu → k ≤ L + 1 → n ≤ 20 → zz_loop (fun st : (Int32 × Int32) => f_X2_wrongInTranscript_L4 h a (st.1) (st.2)) (zi k, zi (2 * n + 1)) = some (mE (wt (mby f L) L fu k n))
  | 0, k, n, h1, h2, _ => zz_loop_inr (X2_wt_stop hB (by omega) h2)
  | fu + 1, k, n, h1, h2, hn => by
    have h6 := hB.le
    have hM : ∀ j, L ≤ j → mby f L j = 10 := fun j hj => mby_hi hj
    rw [wt_succ]
    by_cases hk : L ≤ k
    · rw [if_pos hk]
      exact zz_loop_inr (X2_wt_stop hB hk h2)
    · rw [if_neg hk]
      by_cases h20 : n = 20
      · rw [if_pos h20]
        subst h20
        refine zz_loop_inr ?_
        show f_X2_wrongInTranscript_L4 h a (zi k) (zi (2 * 20 + 1)) = _
        unfold f_X2_wrongInTranscript_L4 f_X2_wrongInTranscript_J82
        rw [if_pos (by decide), hB.len, Option.bind_some, if_neg (fun q => hk ((zi_le (by omega) (by omega)).mp q))]
        rfl
      · rw [if_neg h20]
        have st : f_X2_wrongInTranscript_L4 h a (zi k) (zi (2 * n + 1)) = ((f_X2_transcriptWord h a (zi k)).bind fun v6 => if 0 ≤ v6 then ((zg_I h a 0 1).bind fun v7 => if (v6 + (1 : Int32)) < v7 then ((f_X2_signsEnd h a (v6 + (1 : Int32))).bind fun v8 => zz_isO h a 0 <| (f_X0_at h a v8).bind fun v9 => (f_X2_endsLine h v9).bind fun v10 => if v10 = 0 then ((some (v8)).map Sum.inr) else (zz_let (v8 + (1 : Int32)) fun v11 => some (.inl (v11, zi (2 * n + 1) + (2 : Int32))))) else (((zg_I h a 0 1).bind fun v12 => some (v12)).map Sum.inr)) else ((some (v6 ^^^ (-1 : Int32))).map Sum.inr)) := by
          unfold f_X2_wrongInTranscript_L4
          rw [if_neg (fun q => absurd ((zi_Llt (by omega) (by decide)).mp q) (by omega)), hB.len, Option.bind_some, if_neg (fun q => hk ((zi_le (by omega) (by omega)).mp q))]
        rw [X2_transcriptWord hB (by omega), Option.bind_some] at st
        cases hw : wtw (mby f L) k with
        | some p =>
          rw [hw] at st
          have hp := wtw_le hw
          refine zz_loop_inr ?_
          show f_X2_wrongInTranscript_L4 h a (zi k) (zi (2 * n + 1)) = _
          rw [st]
          dsimp only
          rw [if_neg, xor_xor1]
          · rfl
          · rw [Int32.le_iff_toInt_le, xor_int (by omega)]
            have e2 : (0 : Int32).toInt = 0 := rfl
            omega
        | none =>
          rw [hw] at st
          dsimp only at st ⊢
          obtain ⟨n1, -, -, -, -, -, -, ele, hnL, -⟩ := wtw_none hM (by omega) hw
          have hleL : le' (mby f L) L k ≤ L := le'_le (by omega)
          generalize le' (mby f L) L k = e at st hleL ele
          rw [if_pos ((zi_Lle (by omega) (by decide)).mpr (Nat.zero_le _)), hB.len, Option.bind_some, zi_one] at st
          by_cases he : L ≤ e + 1
          · rw [if_pos he]
            rw [if_neg (fun q => absurd ((zi_lt (by omega) (by omega)).mp q) (by omega)), Option.bind_some] at st
            exact zz_loop_inr st
          · rw [if_neg he]
            obtain ⟨s1, s2, s3, s4⟩ := se_spec hM (show e + 1 ≤ L by omega)
            rw [if_pos ((zi_lt (by omega) (by omega)).mpr (by omega)), X2_signsEnd hB (by omega), Option.bind_some, hB.isO, X0_at hB (by omega), Option.bind_some, X2_endsLine, Option.bind_some, show zi (2 * n + 1) + (2 : Int32) = zi (2 * (n + 1) + 1) from zi_add (2 * n + 1) 2] at st
            generalize se (mby f L) L (e + 1) = s at st s1 s2 s3 s4
            by_cases h10 : mby f L s = 10
            · rw [if_neg (fun q => q h10)]
              rw [if_neg (fun q => b01_0.mp q ((bt_end f L _).mpr h10)), zz_let, zi_one] at st
              rw [zz_loop_inl (b := fun st : (Int32 × Int32) => f_X2_wrongInTranscript_L4 h a (st.1) (st.2)) (s := (zi k, zi (2 * n + 1))) st]
              exact X2_wt hB fu (s + 1) (n + 1) (by omega) (by omega) (by omega)
            · rw [if_pos h10]
              rw [if_pos (b01_f (fun q => h10 ((bt_end f L _).mp q)))] at st
              exact zz_loop_inr st
theorem X2_wrongInTranscript (hB : Byt h a L f) : f_X2_wrongInTranscript h a = some (mE (wt (mby f L) L 601 0 0)) := by
  have h6 := hB.le
  unfold f_X2_wrongInTranscript
  exact X2_wt hB 601 0 0 (by omega) (by omega) (by omega)
end
