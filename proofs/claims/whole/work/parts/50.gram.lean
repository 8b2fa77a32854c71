/-! ===== the grammar: what is said of a line ===== -/
theorem le'_ge (M : Nat → Int32) (L k : Nat) : k ≤ le' M L k := (fsr_spec _ _ _).1
theorem le'_le {M : Nat → Int32} {L k : Nat} (h : k ≤ L) : le' M L k ≤ L := by
  have := (fsr_spec (fun j => decide (M j = 10)) (L - k) k).2.1
  unfold le'
  omega
theorem le'_at {M : Nat → Int32} {L k : Nat} (h : M k = 10) : le' M L k = k := fsr_eq (Nat.le_refl _) (by omega) (fun j h1 h2 => by omega) (fun _ => decide_eq_true h)
theorem le'_no {M : Nat → Int32} {L k j : Nat} (h1 : k ≤ j) (h2 : j < le' M L k) : M j ≠ 10 := by
  have := (fsr_spec (fun j => decide (M j = 10)) (L - k) k).2.2.1 j h1 h2
  rw [decide_eq_false_iff_not] at this
  exact this
theorem le'_is {M : Nat → Int32} {L k : Nat} (hM : ∀ j, L ≤ j → M j = 10) (h : k ≤ L) : M (le' M L k) = 10 := by
  obtain ⟨g1, g2, g3, g4⟩ := fsr_spec (fun j => decide (M j = 10)) (L - k) k
  unfold le'
  generalize fsr (fun j => decide (M j = 10)) (L - k) k = n at g1 g2 g3 g4
  by_cases hn : n < L
  · have := g4 (by omega)
    rw [decide_eq_true_eq] at this
    exact this
  · exact hM n (by omega)
theorem le'_skip {M : Nat → Int32} {L k j : Nat} (h1 : k ≤ j) (h2 : j ≤ L) (h : ∀ i, k ≤ i → i < j → M i ≠ 10) : le' M L k = le' M L j := by
  obtain ⟨g1, g2, g3, g4⟩ := fsr_spec (fun j => decide (M j = 10)) (L - j) j
  refine fsr_eq (Nat.le_trans h1 g1) (by unfold le'; omega) (fun i hi1 hi2 => ?_) (fun hn => g4 (by unfold le' at hn; omega))
  by_cases q : i < j
  · exact decide_eq_false (h i hi1 q)
  · exact g3 i (by omega) hi2
def mE (o : Option Nat) : Int32 := match o with
  | none => -1
  | some p => zi p
def cE (M : Nat → Int32) (L k : Nat) (o : Option Nat) : Int32 := match o with
  | none => zi (le' M L k)
  | some p => zi p ^^^ (-1 : Int32)
theorem sgn_n10 {c : Int32} (h : sgn c) : c ≠ 10 := fun e => by
  rw [e] at h
  exact absurd h (by decide)
theorem ww_succ {M : Nat → Int32} {one : Bool} {f k n : Nat} : ww M one (f + 1) k n = (if (M k = 10 ∨ (M k = 32 ∧ one = false)) ∧ 0 < n then (if M k = 10 then none else ww M one f (k + 1) 0) else if ltr (M k) ∧ n < 6 then ww M one f (k + 1) (n + 1) else some k) := rfl
theorem ww_skip {M : Nat → Int32} {one : Bool} : ∀ (j f k n : Nat), (∀ i, k ≤ i → i < k + j → ltr (M i)) → n + j ≤ 6 → ww M one (f + j) k n = ww M one f (k + j) (n + j)
  | 0, f, k, n, _, _ => rfl
  | j + 1, f, k, n, h, hn => by
    have h0 := h k (Nat.le_refl _) (by omega)
    have n10 : ¬ (M k = 10 ∨ (M k = 32 ∧ one = false)) := by
      rintro (q | ⟨q, -⟩)
      · exact sgn_n10 (ltr_sgn h0) q
      · rw [q] at h0
        exact absurd h0 (by decide)
    rw [show f + (j + 1) = (f + j) + 1 by omega, ww_succ, if_neg (fun q => n10 q.1), if_pos ⟨h0, by omega⟩, ww_skip j f (k + 1) (n + 1) (fun i h1 h2 => h i (by omega) (by omega)) (by omega), show k + 1 + j = k + (j + 1) by omega, show n + 1 + j = n + (j + 1) by omega]
section
variable {m : Nat} {S : Nat → Int32} {V : Nat → Nat → Int32} {g : ZH} {t : Nat}
theorem mb_hi {T : Nat → Int32} {k : Nat} (h : t ≤ k) : mb T t k = 10 := by
  unfold mb
  rw [if_neg (by omega)]
theorem mb_lo {T : Nat → Int32} {k : Nat} (h : mb T t k ≠ 10) : k < t := by
  rcases Nat.lt_or_ge k t with q | q
  · exact q
  · exact absurd (mb_hi q) h
theorem X12_ww {one : Int32} {k0 : Int32} (ht : S 2 = zi t) (h6 : t ≤ 600) : ∀ (f k n : Nat), k ≤ t → t < k + f → n ≤ 6 → zz_loop (fun st : (Int32 × Int32) => f_X12_wrongWords_L5 (Rm m S V g) m k0 one (st.1) (st.2)) (zi k, zi n) = some (mE (ww (mb (V 1) t) (decide (one ≠ 0)) f k n))
  | 0, k, n, h1, h2, _ => by omega
  | f + 1, k, n, h1, h2, hn => by
    have J62 : ∀ c, c = mb (V 1) t k → ¬ ((c = 10 ∨ (c = 32 ∧ decide (one ≠ 0) = false)) ∧ 0 < n) → f_X12_wrongWords_J62 (Rm m S V g) m k0 one (zi k) (zi n) c = (if ltr c ∧ n < 6 then some (.inl (zi (k + 1), zi (n + 1))) else some (.inr (zi k))) := by
      intro c hc _
      unfold f_X12_wrongWords_J62
      rw [X12_isLetter, Option.bind_some]
      by_cases hl : ltr c
      · rw [if_neg (fun q => b01_0.mp q hl)]
        by_cases h6 : n < 6
        · rw [if_neg (fun q => absurd ((zi_Lle (by omega) (by decide)).mp q) (by omega)), if_pos ⟨hl, h6⟩, zi_one, zi_one]
        · rw [if_pos ((zi_Lle (by omega) (by decide)).mpr (by omega)), if_neg (fun q => h6 q.2)]
          rfl
      · rw [if_pos (b01_f hl), if_neg (fun q => hl q.1)]
        rfl
    have step : f_X12_wrongWords_L5 (Rm m S V g) m k0 one (zi k) (zi n) = (if ((mb (V 1) t k) = 10 ∨ ((mb (V 1) t k) = 32 ∧ decide (one ≠ 0) = false)) ∧ 0 < n then (if mb (V 1) t k = 10 then some (.inr (-1)) else some (.inl (zi (k + 1), zi 0))) else if ltr (mb (V 1) t k) ∧ n < 6 then some (.inl (zi (k + 1), zi (n + 1))) else some (.inr (zi k))) := by
      unfold f_X12_wrongWords_L5
      rw [rO, X12_byteAt ht h6 (by omega), Option.bind_some]
      generalize hc : mb (V 1) t k = c
      unfold f_X12_wrongWords_J30 f_X12_wrongWords_J34 f_X12_wrongWords_J35
      have hn0 : zi n ≤ 0 ↔ ¬ 0 < n := by
        rw [zi_leL (by omega) (by decide)]
        show n ≤ 0 ↔ _
        omega
      by_cases h10 : c = 10
      · rw [if_pos h10, if_neg (show ¬ (1 : Int32) = 0 by decide)]
        by_cases h0 : 0 < n
        · rw [if_neg (fun q => hn0.mp q h0), if_pos h10, if_pos ⟨Or.inl h10, h0⟩, if_pos h10]
          rfl
        · have nn : ¬ ((c = 10 ∨ (c = 32 ∧ decide (one ≠ 0) = false)) ∧ 0 < n) := fun q => h0 q.2
          rw [if_pos (hn0.mpr h0), J62 c hc.symm nn, if_neg nn]
      · rw [if_neg h10]
        by_cases h32 : c = 32
        · rw [if_pos h32]
          by_cases ho : one = 0
          · rw [if_pos ho, if_neg (show ¬ (1 : Int32) = 0 by decide)]
            by_cases h0 : 0 < n
            · rw [if_neg (fun q => hn0.mp q h0), if_neg h10, if_pos ⟨Or.inr ⟨h32, decide_eq_false (fun q => q ho)⟩, h0⟩, if_neg h10, zi_one]
              rfl
            · have nn : ¬ ((c = 10 ∨ (c = 32 ∧ decide (one ≠ 0) = false)) ∧ 0 < n) := fun q => h0 q.2
              rw [if_pos (hn0.mpr h0), J62 c hc.symm nn, if_neg nn]
          · have nn : ¬ ((c = 10 ∨ (c = 32 ∧ decide (one ≠ 0) = false)) ∧ 0 < n) := by
              rintro ⟨q | ⟨-, q⟩, -⟩
              · exact h10 q
              · rw [decide_eq_false_iff_not] at q
                exact q ho
            rw [if_neg ho, if_pos rfl, J62 c hc.symm nn, if_neg nn]
        · have nn : ¬ ((c = 10 ∨ (c = 32 ∧ decide (one ≠ 0) = false)) ∧ 0 < n) := by
            rintro ⟨q | ⟨q, -⟩, -⟩
            · exact h10 q
            · exact h32 q
          rw [if_neg h32, if_pos rfl, J62 c hc.symm nn, if_neg nn]
    rw [ww_succ]
    by_cases c1 : (mb (V 1) t k = 10 ∨ (mb (V 1) t k = 32 ∧ decide (one ≠ 0) = false)) ∧ 0 < n
    · rw [if_pos c1] at step ⊢
      by_cases c2 : mb (V 1) t k = 10
      · rw [if_pos c2] at step ⊢
        exact zz_loop_inr step
      · rw [if_neg c2] at step ⊢
        rw [zz_loop_inl (b := fun st : (Int32 × Int32) => f_X12_wrongWords_L5 (Rm m S V g) m k0 one (st.1) (st.2)) (s := (zi k, zi n)) step]
        exact X12_ww ht h6 f (k + 1) 0 (mb_lo c2) (by omega) (by omega)
    · rw [if_neg c1] at step ⊢
      by_cases c2 : ltr (mb (V 1) t k) ∧ n < 6
      · rw [if_pos c2] at step ⊢
        rw [zz_loop_inl (b := fun st : (Int32 × Int32) => f_X12_wrongWords_L5 (Rm m S V g) m k0 one (st.1) (st.2)) (s := (zi k, zi n)) step]
        exact X12_ww ht h6 f (k + 1) (n + 1) (mb_lo (sgn_n10 (ltr_sgn c2.1))) (by omega) (by omega)
      · rw [if_neg c2] at step ⊢
        exact zz_loop_inr step
theorem X12_wrongWords {k : Nat} {one : Int32} (ht : S 2 = zi t) (h6 : t ≤ 600) (hk : k ≤ t) : f_X12_wrongWords (Rm m S V g) m (zi k) one = some (mE (ww (mb (V 1) t) (decide (one ≠ 0)) 601 k 0)) := by
  unfold f_X12_wrongWords
  exact X12_ww ht h6 601 k 0 hk (by omega) (by omega)
end
