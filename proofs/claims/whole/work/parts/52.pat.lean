/-! ===== the grammar of patterns ===== -/
theorem wp_succ {M : Nat → Int32} {f k s : Nat} : wp M (f + 1) k s = (if M k = 10 then (if s = 0 then none else some k) else if ¬ sgn (M k) ∨ (s = 1 ∧ M k = 93) then some k else wp M f (k + 1) (if s = 3 then 0 else if s = 1 then 2 else if s = 2 then (if M k = 93 then 0 else 2) else if M k = 91 then 1 else if M k = 92 then 3 else 0)) := rfl
theorem wp_skip {M : Nat → Int32} : ∀ (j f k : Nat), (∀ i, k ≤ i → i < k + j → sgn (M i) ∧ M i ≠ 93) → wp M (f + j) k 2 = wp M f (k + j) 2
  | 0, f, k, _ => rfl
  | j + 1, f, k, h => by
    have h0 := h k (Nat.le_refl _) (by omega)
    have nn : ¬ (¬ sgn (M k) ∨ (2 = 1 ∧ M k = 93)) := by
      rintro (q | ⟨q, -⟩)
      · exact q h0.1
      · omega
    rw [show f + (j + 1) = (f + j) + 1 by omega, wp_succ, if_neg (sgn_n10 h0.1), if_neg nn, if_neg (by decide), if_neg (by decide), if_pos rfl, if_neg h0.2, wp_skip j f (k + 1) (fun i h1 h2 => h i (by omega) (by omega)), show k + 1 + j = k + (j + 1) by omega]
section
variable {m : Nat} {S : Nat → Int32} {V : Nat → Nat → Int32} {g : ZH} {t : Nat}
theorem X12_wp {k0 : Int32} (ht : S 2 = zi t) (h6 : t ≤ 600) : ∀ (f k s : Nat), k ≤ t → t < k + f → s ≤ 3 → zz_loop (fun st : (Int32 × Int32) => f_X12_wrongPattern_L4 (Rm m S V g) m k0 (st.1) (st.2)) (zi k, zi s) = some (mE (wp (mb (V 1) t) f k s))
  | 0, k, s, h1, h2, _ => by omega
  | f + 1, k, s, h1, h2, hs => by
    have zs : ∀ (c : Nat), (zi s = (OfNat.ofNat c : Int32) ↔ s = c) ∨ 2147483648 ≤ c := fun c => by
      rcases Nat.lt_or_ge c 2147483648 with q | q
      · exact Or.inl (zi_eq (by omega) q)
      · exact Or.inr q
    have z0 : zi s = 0 ↔ s = 0 := zi_eq (b := 0) (by omega) (by decide)
    have z1 : zi s = 1 ↔ s = 1 := zi_eq (b := 1) (by omega) (by decide)
    have z2 : zi s = 2 ↔ s = 2 := zi_eq (b := 2) (by omega) (by decide)
    have z3 : zi s = 3 ↔ s = 3 := zi_eq (b := 3) (by omega) (by decide)
    have J43 : ∀ c : Int32, f_X12_wrongPattern_J43 (Rm m S V g) m k0 (zi k) (zi s) c = some (.inl (zi (k + 1), zi (if s = 3 then 0 else if s = 1 then 2 else if s = 2 then (if c = 93 then 0 else 2) else if c = 91 then 1 else if c = 92 then 3 else 0))) := by
      intro c
      unfold f_X12_wrongPattern_J43 f_X12_wrongPattern_J104
      rw [zi_one]
      by_cases q3 : s = 3
      · rw [if_pos (z3.mpr q3), if_pos q3]
        rfl
      rw [if_neg (fun q => q3 (z3.mp q)), if_neg q3]
      by_cases q1 : s = 1
      · rw [if_pos (z1.mpr q1), if_pos q1]
        rfl
      rw [if_neg (fun q => q1 (z1.mp q)), if_neg q1]
      by_cases q2 : s = 2
      · rw [if_pos (z2.mpr q2), if_pos q2]
        by_cases c93 : c = 93
        · rw [if_pos c93, if_pos c93]
          rfl
        · rw [if_neg c93, if_neg c93]
          rfl
      rw [if_neg (fun q => q2 (z2.mp q)), if_neg q2]
      by_cases c91 : c = 91
      · rw [if_pos c91, if_pos c91]
        rfl
      rw [if_neg c91, if_neg c91]
      by_cases c92 : c = 92
      · rw [if_pos c92, if_pos c92]
        rfl
      rw [if_neg c92, if_neg c92]
      rfl
    have step : f_X12_wrongPattern_L4 (Rm m S V g) m k0 (zi k) (zi s) = (if mb (V 1) t k = 10 then (if s = 0 then some (.inr (-1)) else some (.inr (zi k))) else if ¬ sgn (mb (V 1) t k) ∨ (s = 1 ∧ mb (V 1) t k = 93) then some (.inr (zi k)) else some (.inl (zi (k + 1), zi (if s = 3 then 0 else if s = 1 then 2 else if s = 2 then (if mb (V 1) t k = 93 then 0 else 2) else if mb (V 1) t k = 91 then 1 else if mb (V 1) t k = 92 then 3 else 0)))) := by
      unfold f_X12_wrongPattern_L4
      rw [rO, X12_byteAt ht h6 (by omega), Option.bind_some]
      generalize mb (V 1) t k = c
      by_cases c10 : c = 10
      · rw [if_pos c10, if_pos c10]
        by_cases q0 : s = 0
        · rw [if_pos (z0.mpr q0), if_pos q0]
          rfl
        · rw [if_neg (fun q => q0 (z0.mp q)), if_neg q0]
          rfl
      · rw [if_neg c10, if_neg c10, rO, Option.bind_some, X12_isSign, Option.bind_some]
        by_cases hs : sgn c
        · rw [if_neg (fun q => b01_0.mp q hs)]
          by_cases q1 : s = 1
          · rw [if_pos (z1.mpr q1)]
            by_cases c93 : c = 93
            · rw [if_pos c93, if_pos (Or.inr ⟨q1, c93⟩)]
              rfl
            · rw [if_neg c93, if_neg (by rintro (q | ⟨-, q⟩); exact q hs; exact c93 q), J43 c]
          · rw [if_neg (fun q => q1 (z1.mp q)), if_neg (by rintro (q | ⟨q, -⟩); exact q hs; exact q1 q), J43 c]
        · rw [if_pos (b01_f hs), if_pos (Or.inl hs)]
          rfl
    rw [wp_succ]
    by_cases c1 : mb (V 1) t k = 10
    · rw [if_pos c1] at step ⊢
      by_cases c2 : s = 0
      · rw [if_pos c2] at step ⊢
        exact zz_loop_inr step
      · rw [if_neg c2] at step ⊢
        exact zz_loop_inr step
    · rw [if_neg c1] at step ⊢
      by_cases c2 : ¬ sgn (mb (V 1) t k) ∨ (s = 1 ∧ mb (V 1) t k = 93)
      · rw [if_pos c2] at step ⊢
        exact zz_loop_inr step
      · rw [if_neg c2] at step ⊢
        rw [zz_loop_inl (b := fun st : (Int32 × Int32) => f_X12_wrongPattern_L4 (Rm m S V g) m k0 (st.1) (st.2)) (s := (zi k, zi s)) step]
        refine X12_wp ht h6 f (k + 1) _ (mb_lo c1) (by omega) ?_
        repeat' split
        all_goals omega
theorem X12_wrongPattern {k : Nat} (ht : S 2 = zi t) (h6 : t ≤ 600) (hk : k ≤ t) : f_X12_wrongPattern (Rm m S V g) m (zi k) = some (mE (wp (mb (V 1) t) 601 k 0)) := by
  unfold f_X12_wrongPattern
  exact X12_wp ht h6 601 k 0 hk (by omega) (by omega)
end
section
variable {h : ZH} {a L : Nat} {f : Nat → Int32}
/-- where a choice ends -/
def che (M : Nat → Int32) (L k : Nat) : Nat := fsr (fun j => decide (¬ sgn (M j) ∨ M j = 93)) (L - k) k
theorem che_spec {k : Nat} (hk : k ≤ L) : k ≤ che (mby f L) L k ∧ che (mby f L) L k ≤ L ∧ (∀ i, k ≤ i → i < che (mby f L) L k → sgn (mby f L i) ∧ mby f L i ≠ 93) ∧ (¬ sgn (mby f L (che (mby f L) L k)) ∨ mby f L (che (mby f L) L k) = 93) := by
  obtain ⟨g1, g2, g3, g4⟩ := fsr_spec (fun j => decide (¬ sgn (mby f L j) ∨ mby f L j = 93)) (L - k) k
  unfold che
  generalize fsr (fun j => decide (¬ sgn (mby f L j) ∨ mby f L j = 93)) (L - k) k = n at g1 g2 g3 g4
  refine ⟨g1, by omega, fun i h1 h2 => ?_, ?_⟩
  · have := g3 i h1 h2
    rw [decide_eq_false_iff_not] at this
    exact ⟨Decidable.not_not.mp (fun q => this (Or.inl q)), fun q => this (Or.inr q)⟩
  · by_cases hn : n < L
    · have := g4 (by omega)
      rw [decide_eq_true_eq] at this
      exact this
    · refine Or.inl ?_
      rw [mby_hi (by omega)]
      decide
theorem X2_choice {k : Nat} (hB : Byt h a L f) (hk : k ≤ L) : f_X2_choice h a (zi k) = some (if che (mby f L) L k = k ∨ mby f L (che (mby f L) L k) ≠ 93 then zi (che (mby f L) L k) ^^^ (-1 : Int32) else zi (che (mby f L) L k + 1)) := by
  have h6 := hB.le
  obtain ⟨g1, g2, g3, g4⟩ := che_spec (f := f) hk
  generalize che (mby f L) L k = n at g1 g2 g3 g4
  unfold f_X2_choice
  have key := loop_to (b := fun st : Int32 => f_X2_choice_L2 h a (zi k) st) (fun i => zi i) k n g1 ?_
  · rw [show zz_loop (fun st : Int32 => f_X2_choice_L2 h a (zi k) st) (zi k) = zz_loop (fun st : Int32 => f_X2_choice_L2 h a (zi k) st) (zi n) from key]
    have J : f_X2_choice_J37 h a (zi k) (zi n) = some (if n = k ∨ mby f L n ≠ 93 then zi n ^^^ (-1 : Int32) else zi (n + 1)) := by
      unfold f_X2_choice_J37 f_X2_choice_J52
      by_cases e : n = k
      · rw [if_pos (by rw [e]), if_pos (Or.inl e)]
      · rw [if_neg (fun q => e ((zi_eq (by omega) (by omega)).mp q)), hB.isO, X0_at hB (by omega), Option.bind_some]
        by_cases e2 : mby f L n = 93
        · rw [if_pos ((bt_is (by decide) (by decide)).mpr e2), if_neg (by rintro (q | q); exact e q; exact q e2), zi_one]
        · rw [if_neg (fun q => e2 ((bt_is (by decide) (by decide)).mp q)), if_pos (Or.inr e2)]
    refine zz_loop_map ?_
    unfold f_X2_choice_L2
    rw [hB.len, Option.bind_some]
    by_cases hn : L ≤ n
    · rw [if_pos ((zi_le (by omega) (by omega)).mpr hn), J]
    · rw [if_neg (fun q => hn ((zi_le (by omega) (by omega)).mp q)), hB.isO, X0_at hB (by omega), Option.bind_some, X2_isSign, Option.bind_some]
      by_cases hs : sgn (mby f L n)
      · have h93 := g4.resolve_left (fun q => q hs)
        rw [if_neg (fun q => b01_0.mp q ((bt_sgn f L n).mpr hs)), hB.isO, Option.bind_some, if_pos ((bt_is (by decide) (by decide)).mpr h93), J]
      · rw [if_pos (b01_f (fun q => hs ((bt_sgn f L n).mp q))), J]
  · intro i h1 h2
    obtain ⟨s1, s2⟩ := g3 i h1 h2
    show f_X2_choice_L2 h a (zi k) (zi i) = _
    unfold f_X2_choice_L2
    rw [hB.len, Option.bind_some, if_neg (fun q => absurd ((zi_le (by omega) (by omega)).mp q) (by omega)), hB.isO, X0_at hB (by omega), Option.bind_some, X2_isSign, Option.bind_some, if_neg (fun q => b01_0.mp q ((bt_sgn f L i).mpr s1)), hB.isO, Option.bind_some, if_neg (fun q => s2 ((bt_is (by decide) (by decide)).mp q)), zi_one]
theorem X2_wp {k0 : Int32} (hB : Byt h a L f) : ∀ (fu k : Nat), k ≤ L → L < k + fu → zz_loop (fun st : Int32 => f_X2_pattern_L2 h a k0 st) (zi k) = some (cE (mby f L) L k (wp (mby f L) fu k 0)) := by
  have h6 := hB.le
  intro fu
  induction fu using Nat.strongRecOn with
  | ind fu ih =>
    intro k hk hf
    obtain ⟨f', rfl⟩ : ∃ f', fu = f' + 1 := ⟨fu - 1, by omega⟩
    have hst : f_X2_pattern_L2 h a k0 (zi k) = (if mby f L k = 10 then some (.inr (zi k)) else (f_X2_patternPart h a (zi k) (bt f L k)).bind fun v5 => if 0 ≤ v5 then (if v5 ≤ zi k then some (.inl (zi (k + 1))) else some (.inl v5)) else some (.inr v5)) := by
      unfold f_X2_pattern_L2 f_X2_pattern_J55
      rw [hB.len, Option.bind_some, if_neg (fun q => absurd ((zi_lt (by omega) (by omega)).mp q) (by omega)), hB.isO, X0_at hB (by omega), Option.bind_some, X2_endsLine, Option.bind_some, zi_one]
      by_cases e : mby f L k = 10
      · rw [if_neg (fun q => b01_0.mp q ((bt_end f L k).mpr e)), if_pos e]
        rfl
      · rw [if_pos (b01_f (fun q => e ((bt_end f L k).mp q))), if_neg e]
        rfl
    rw [wp_succ]
    by_cases e : mby f L k = 10
    · rw [if_pos e] at hst ⊢
      rw [if_pos rfl, zz_loop_inr (b := fun st : Int32 => f_X2_pattern_L2 h a k0 st) (s := zi k) hst]
      show _ = some (zi (le' (mby f L) L k))
      rw [le'_at e]
    · have hlt := mby_lo e
      rw [if_neg e] at hst ⊢
      have go : ∀ (n : Nat) (o : Nat → Option Nat), k < n → n ≤ L → (∀ i, k ≤ i → i < n → mby f L i ≠ 10) → f_X2_patternPart h a (zi k) (bt f L k) = some (zi n) → ∀ (fu2 : Nat), fu2 < f' + 1 → L < n + fu2 → zz_loop (fun st : Int32 => f_X2_pattern_L2 h a k0 st) (zi k) = some (cE (mby f L) L k (wp (mby f L) fu2 n 0)) := by
        intro n _ hn1 hn2 hnn hp fu2 h1 h2
        rw [hp, Option.bind_some, if_pos ((zi_Lle (by omega) (by decide)).mpr (Nat.zero_le _)), if_neg (fun q => absurd ((zi_le (by omega) (by omega)).mp q) (by omega))] at hst
        rw [zz_loop_inl (b := fun st : Int32 => f_X2_pattern_L2 h a k0 st) (s := zi k) hst, ih fu2 h1 n hn2 h2]
        unfold cE
        rw [le'_skip (by omega) hn2 hnn]
      have bad : ∀ (n : Nat), n ≤ L → f_X2_patternPart h a (zi k) (bt f L k) = some (zi n ^^^ (-1 : Int32)) → zz_loop (fun st : Int32 => f_X2_pattern_L2 h a k0 st) (zi k) = some (cE (mby f L) L k (some n)) := by
        intro n hn hp
        rw [hp, Option.bind_some, if_neg] at hst
        · exact zz_loop_inr (b := fun st : Int32 => f_X2_pattern_L2 h a k0 st) (s := zi k) hst
        · intro q
          have := xor_int (k := n) (by omega)
          have q2 := Int32.le_iff_toInt_le.mp q
          have e2 : (0 : Int32).toInt = 0 := rfl
          omega
      have hpp : f_X2_patternPart h a (zi k) (bt f L k) = (if ¬ sgn (mby f L k) then some (zi k ^^^ (-1 : Int32)) else if mby f L k = 92 then (if sgn (mby f L (k + 1)) then some (zi (k + 2)) else some (zi (k + 1) ^^^ (-1 : Int32))) else if mby f L k = 91 then some (if che (mby f L) L (k + 1) = k + 1 ∨ mby f L (che (mby f L) L (k + 1)) ≠ 93 then zi (che (mby f L) L (k + 1)) ^^^ (-1 : Int32) else zi (che (mby f L) L (k + 1) + 1)) else some (zi (k + 1))) := by
        unfold f_X2_patternPart
        rw [X2_isSign, Option.bind_some, zi_one, show zi k + (2 : Int32) = zi (k + 2) from zi_add k 2]
        by_cases hs : sgn (mby f L k)
        · rw [if_neg (fun q => b01_0.mp q ((bt_sgn f L k).mpr hs)), if_neg (show ¬ ¬ sgn (mby f L k) from fun q => q hs)]
          by_cases c92 : mby f L k = 92
          · rw [if_pos ((bt_is (by decide) (by decide)).mpr c92), if_pos c92, hB.isO, X0_at hB (by omega), Option.bind_some, X2_isSign, Option.bind_some]
            by_cases hs2 : sgn (mby f L (k + 1))
            · rw [if_neg (fun q => b01_0.mp q ((bt_sgn f L (k + 1)).mpr hs2)), if_pos hs2]
            · rw [if_pos (b01_f (fun q => hs2 ((bt_sgn f L (k + 1)).mp q))), if_neg hs2]
          · rw [if_neg (fun q => c92 ((bt_is (by decide) (by decide)).mp q)), if_neg c92]
            by_cases c91 : mby f L k = 91
            · rw [if_pos ((bt_is (by decide) (by decide)).mpr c91), if_pos c91, X2_choice hB (by omega), Option.bind_some]
            · rw [if_neg (fun q => c91 ((bt_is (by decide) (by decide)).mp q)), if_neg c91]
        · rw [if_pos (b01_f (fun q => hs ((bt_sgn f L k).mp q))), if_pos hs]
      by_cases hs : sgn (mby f L k)
      · rw [if_neg (fun q => q hs)] at hpp
        rw [if_neg (by rintro (q | ⟨q, -⟩); exact q hs; exact absurd q (by decide)), if_neg (by decide), if_neg (by decide), if_neg (by decide)]
        by_cases c92 : mby f L k = 92
        · rw [if_pos c92] at hpp
          rw [if_neg (by rw [c92]; decide), if_pos c92]
          obtain ⟨f2, rfl⟩ : ∃ f2, f' = f2 + 1 := ⟨f' - 1, by omega⟩
          rw [wp_succ]
          by_cases hs2 : sgn (mby f L (k + 1))
          · have hlt2 := mby_lo (sgn_n10 hs2)
            rw [if_pos hs2] at hpp
            rw [if_neg (sgn_n10 hs2), if_neg (by rintro (q | ⟨q, -⟩); exact q hs2; exact absurd q (by decide)), if_pos rfl]
            exact go (k + 2) (fun _ => none) (by omega) (by omega) (fun i h1 h2 => by
              have : i = k ∨ i = k + 1 := by omega
              rcases this with rfl | rfl
              · exact e
              · exact sgn_n10 hs2) hpp f2 (by omega) (by omega)
          · rw [if_neg hs2] at hpp
            have e1 : (if mby f L (k + 1) = 10 then (if 3 = 0 then none else some (k + 1)) else if ¬ sgn (mby f L (k + 1)) ∨ (3 = 1 ∧ mby f L (k + 1) = 93) then some (k + 1) else wp (mby f L) f2 (k + 1 + 1) (if 3 = 3 then 0 else if 3 = 1 then 2 else if 3 = 2 then (if mby f L (k + 1) = 93 then 0 else 2) else if mby f L (k + 1) = 91 then 1 else if mby f L (k + 1) = 92 then 3 else 0)) = some (k + 1) := by
              by_cases q : mby f L (k + 1) = 10
              · rw [if_pos q, if_neg (by decide)]
              · rw [if_neg q, if_pos (Or.inl hs2)]
            rw [e1]
            exact bad (k + 1) (by omega) hpp
        · rw [if_neg c92] at hpp
          by_cases c91 : mby f L k = 91
          · rw [if_pos c91] at hpp
            rw [if_pos c91]
            obtain ⟨g1, g2, g3, g4⟩ := che_spec (f := f) (L := L) (k := k + 1) (by omega)
            generalize che (mby f L) L (k + 1) = n at hpp g1 g2 g3 g4
            obtain ⟨f2, rfl⟩ : ∃ f2, f' = f2 + 1 := ⟨f' - 1, by omega⟩
            by_cases hn : n = k + 1
            · subst hn
              rw [if_pos (Or.inl rfl)] at hpp
              rw [wp_succ]
              have e1 : (if mby f L (k + 1) = 10 then (if 1 = 0 then none else some (k + 1)) else if ¬ sgn (mby f L (k + 1)) ∨ (1 = 1 ∧ mby f L (k + 1) = 93) then some (k + 1) else wp (mby f L) f2 (k + 1 + 1) (if 1 = 3 then 0 else if 1 = 1 then 2 else if 1 = 2 then (if mby f L (k + 1) = 93 then 0 else 2) else if mby f L (k + 1) = 91 then 1 else if mby f L (k + 1) = 92 then 3 else 0)) = some (k + 1) := by
                by_cases q : mby f L (k + 1) = 10
                · rw [if_pos q, if_neg (by decide)]
                · rw [if_neg q, if_pos (g4.elim Or.inl (fun q => Or.inr ⟨rfl, q⟩))]
              rw [e1]
              exact bad (k + 1) (by omega) hpp
            · obtain ⟨s1, s2⟩ := g3 (k + 1) (Nat.le_refl _) (by omega)
              rw [wp_succ, if_neg (sgn_n10 s1), if_neg (by rintro (q | ⟨-, q⟩); exact q s1; exact s2 q), if_neg (by decide), if_pos rfl]
              obtain ⟨f3, rfl⟩ : ∃ f3, f2 = (f3 + 1) + (n - (k + 1 + 1)) := ⟨f2 - (n - (k + 1 + 1)) - 1, by omega⟩
              rw [wp_skip (n - (k + 1 + 1)) (f3 + 1) (k + 1 + 1) (fun i h1 h2 => g3 i (by omega) (by omega)), show k + 1 + 1 + (n - (k + 1 + 1)) = n by omega, wp_succ]
              by_cases c93 : mby f L n = 93
              · have hlt3 := mby_lo (f := f) (L := L) (k := n) (by rw [c93]; decide)
                rw [if_neg (by rintro (q | q); exact hn q; exact q c93)] at hpp
                rw [if_neg (by rw [c93]; decide), if_neg (by rintro (q | ⟨q, -⟩); exact q (by rw [c93]; decide); exact absurd q (by decide)), if_neg (by decide), if_neg (by decide), if_pos rfl, if_pos c93]
                exact go (n + 1) (fun _ => none) (by omega) (by omega) (fun i h1 h2 => by
                  by_cases q1 : i = k
                  · rw [q1]
                    exact e
                  · by_cases q2 : i = n
                    · rw [q2, c93]
                      decide
                    · exact sgn_n10 (g3 i (by omega) (by omega)).1) hpp f3 (by omega) (by omega)
              · rw [if_pos (Or.inr c93)] at hpp
                have ns := g4.resolve_right c93
                have e1 : (if mby f L n = 10 then (if 2 = 0 then none else some n) else if ¬ sgn (mby f L n) ∨ (2 = 1 ∧ mby f L n = 93) then some n else wp (mby f L) f3 (n + 1) (if 2 = 3 then 0 else if 2 = 1 then 2 else if 2 = 2 then (if mby f L n = 93 then 0 else 2) else if mby f L n = 91 then 1 else if mby f L n = 92 then 3 else 0)) = some n := by
                  by_cases q : mby f L n = 10
                  · rw [if_pos q, if_neg (by decide)]
                  · rw [if_neg q, if_pos (Or.inl ns)]
                rw [e1]
                exact bad n (by omega) hpp
          · rw [if_neg c91] at hpp
            rw [if_neg c91, if_neg c92]
            exact go (k + 1) (fun _ => none) (by omega) (by omega) (fun i h1 h2 => by rw [show i = k by omega]; exact e) hpp f' (by omega) (by omega)
      · rw [if_pos hs] at hpp
        rw [if_pos (Or.inl hs)]
        exact bad k (by omega) hpp
theorem X2_pattern {k : Nat} (hB : Byt h a L f) (hk : k ≤ L) : f_X2_pattern h a (zi k) = some (cE (mby f L) L k (wp (mby f L) 601 k 0)) := by
  have h6 := hB.le
  unfold f_X2_pattern
  exact X2_wp hB 601 k hk (by omega)
end
