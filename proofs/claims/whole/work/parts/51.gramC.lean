/-! ===== the class's grammar ===== -/
theorem mby_hi {f : Nat → Int32} {L k : Nat} (h : L ≤ k) : mby f L k = 10 := by
  unfold mby
  rw [if_neg (by omega)]
theorem mby_lo {f : Nat → Int32} {L k : Nat} (h : mby f L k ≠ 10) : k < L := by
  rcases Nat.lt_or_ge k L with q | q
  · exact q
  · exact absurd (mby_hi q) h
theorem xor_neg {k : Nat} (hk : k < 2147483648) : zi k ^^^ (-1 : Int32) < 0 := by
  rw [Int32.lt_iff_toInt_lt, xor_int hk]
  have : (0 : Int32).toInt = 0 := rfl
  omega
theorem xor_xor {k : Nat} : (zi k ^^^ (-1 : Int32)) ^^^ (-1 : Int32) = zi k := by
  apply Int32.toBitVec_inj.mp
  rw [Int32.toBitVec_xor, Int32.toBitVec_xor, BitVec.xor_assoc, BitVec.xor_self, BitVec.xor_zero]
theorem lt6_spec (M : Nat → Int32) (k : Nat) : lt6 M k ≤ 6 ∧ (∀ i, k ≤ i → i < k + lt6 M k → ltr (M i)) ∧ (lt6 M k < 6 → ¬ ltr (M (k + lt6 M k))) := by
  obtain ⟨g1, g2, g3, g4⟩ := fsr_spec (fun j => decide (¬ ltr (M (k + j)))) 6 0
  unfold lt6
  generalize fsr (fun j => decide (¬ ltr (M (k + j)))) 6 0 = n at g1 g2 g3 g4
  refine ⟨by omega, fun i h1 h2 => ?_, fun h => ?_⟩
  · have := g3 (i - k) (by omega) (by omega)
    rw [decide_eq_false_iff_not, Decidable.not_not, show k + (i - k) = i by omega] at this
    exact this
  · have := g4 (by omega)
    rw [decide_eq_true_eq] at this
    exact this
section
variable {h : ZH} {a L : Nat} {f : Nat → Int32}
theorem X2_ww {k0 : Int32} (hB : Byt h a L f) : ∀ (fu k c : Nat), k ≤ L → L < k + fu → c ≤ k → c < 600 ∨ k = L → zz_loop (fun st : (Int32 × Int32) => f_X2_words_L4 h a k0 (st.1) (st.2)) (zi k, zi c) = some (cE (mby f L) L k (ww (mby f L) false fu k 0)) := by
  have h6 := hB.le
  intro fu
  induction fu using Nat.strongRecOn with
  | ind fu ih =>
    intro k c hk hf hc hcc
    obtain ⟨l1, l2, l3⟩ := lt6_spec (mby f L) k
    have hlen := X2_lettersEnd (k := k) hB (by omega)
    generalize lt6 (mby f L) k = n at l1 l2 l3 hlen
    by_cases hn : n = 0
    · subst hn
      have n0 := l3 (by decide)
      rw [Nat.add_zero] at n0
      have ew : ww (mby f L) false fu k 0 = some k := by
        obtain ⟨f', rfl⟩ : ∃ f', fu = f' + 1 := ⟨fu - 1, by omega⟩
        rw [ww_succ, if_neg (fun q => absurd q.2 (by decide)), if_neg (fun q => n0 q.1)]
      rw [ew]
      refine zz_loop_inr ?_
      show f_X2_words_L4 h a k0 (zi k) (zi c) = _
      unfold f_X2_words_L4
      by_cases h600 : (600 : Int32) ≤ zi c
      · rw [if_pos h600]
        rfl
      · rw [if_neg h600, hlen, Option.bind_some, if_pos rfl, if_pos (xor_neg (by omega))]
        rfl
    · rw [if_neg hn] at hlen
      have hkn : k + n ≤ L := by
        have := mby_lo (sgn_n10 (ltr_sgn (l2 (k + n - 1) (by omega) (by omega))))
        omega
      have hc6 : c < 600 := by omega
      obtain ⟨f', rfl⟩ : ∃ f', fu = f' + 1 + n := ⟨fu - n - 1, by omega⟩
      have nle : ∀ i, k ≤ i → i < k + n → mby f L i ≠ 10 := fun i h1 h2 => sgn_n10 (ltr_sgn (l2 i h1 h2))
      rw [ww_skip n (f' + 1) k 0 l2 (by omega), Nat.zero_add, ww_succ]
      have hst : f_X2_words_L4 h a k0 (zi k) (zi c) = (if mby f L (k + n) = 10 then some (.inr (zi (k + n))) else if mby f L (k + n) = 32 then some (.inl (zi (k + n + 1), zi (c + 1))) else some (.inr (zi (k + n) ^^^ (-1 : Int32)))) := by
        unfold f_X2_words_L4
        rw [if_neg (fun q => absurd ((zi_Lle (by omega) (by decide)).mp q) (by omega)), hlen, Option.bind_some, if_neg (zi_neg (by omega)), hB.isO, X0_at hB (by omega), Option.bind_some, X2_endsLine, Option.bind_some]
        by_cases e1 : mby f L (k + n) = 10
        · rw [if_neg (fun q => b01_0.mp q ((bt_end f L (k + n)).mpr e1)), if_pos e1]
          rfl
        · rw [if_pos (b01_f (fun q => e1 ((bt_end f L (k + n)).mp q))), if_neg e1, hB.isO, Option.bind_some]
          by_cases e2 : mby f L (k + n) = 32
          · rw [if_pos ((bt_is (by decide) (by decide)).mpr e2), if_pos e2, zz_let, zi_one, zi_one]
          · rw [if_neg (fun q => e2 ((bt_is (by decide) (by decide)).mp q)), if_neg e2]
            rfl
      by_cases e1 : mby f L (k + n) = 10
      · rw [if_pos e1] at hst
        rw [if_pos ⟨Or.inl e1, by omega⟩, if_pos e1]
        rw [zz_loop_inr (b := fun st : (Int32 × Int32) => f_X2_words_L4 h a k0 (st.1) (st.2)) (s := (zi k, zi c)) hst]
        show _ = some (zi (le' (mby f L) L k))
        rw [le'_skip (by omega) hkn nle, le'_at e1]
      · rw [if_neg e1] at hst
        by_cases e2 : mby f L (k + n) = 32
        · rw [if_pos e2] at hst
          have hlt := mby_lo e1
          rw [if_pos ⟨Or.inr ⟨e2, rfl⟩, by omega⟩, if_neg e1]
          rw [zz_loop_inl (b := fun st : (Int32 × Int32) => f_X2_words_L4 h a k0 (st.1) (st.2)) (s := (zi k, zi c)) hst]
          rw [ih f' (by omega) (k + n + 1) (c + 1) (by omega) (by omega) (by omega) (by omega)]
          have e3 : le' (mby f L) L k = le' (mby f L) L (k + n + 1) := le'_skip (by omega) (by omega) (fun i h1 h2 => by
            by_cases q : i < k + n
            · exact nle i h1 q
            · rw [show i = k + n by omega]
              exact e1)
          unfold cE
          rw [e3]
        · rw [if_neg e2] at hst
          have nn : ¬ ((mby f L (k + n) = 10 ∨ (mby f L (k + n) = 32 ∧ false = false)) ∧ 0 < n) := by
            rintro ⟨q | ⟨q, -⟩, -⟩
            · exact e1 q
            · exact e2 q
          have n2 : ¬ (ltr (mby f L (k + n)) ∧ n < 6) := fun q => l3 q.2 q.1
          rw [if_neg nn, if_neg n2]
          rw [zz_loop_inr (b := fun st : (Int32 × Int32) => f_X2_words_L4 h a k0 (st.1) (st.2)) (s := (zi k, zi c)) hst]
          rfl
theorem X2_words {k : Nat} (hB : Byt h a L f) (hk : k ≤ L) : f_X2_words h a (zi k) = some (cE (mby f L) L k (ww (mby f L) false 601 k 0)) := by
  have h6 := hB.le
  unfold f_X2_words
  exact X2_ww hB 601 k 0 hk (by omega) (by omega) (by omega)
end
