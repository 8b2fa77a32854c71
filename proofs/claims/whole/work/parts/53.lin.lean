/-! ===== numbers, digits, lines ===== -/
theorem X2_isDigit {h : ZH} {c lo hi : Int32} : f_X2_isDigit h c lo hi = some (b01 (dig c lo hi)) := inside_eq (h := h)
theorem bt_dig {f : Nat → Int32} {L k : Nat} {lo hi : Int32} (hlo : (48 : Int32) ≤ lo) : dig (bt f L k) lo hi ↔ dig (mby f L k) lo hi := by
  rcases bt_mby f L k with ⟨-, e⟩ | ⟨-, e1, e2⟩
  · rw [e]
  · rw [e1, e2]
    have h1 := Int32.le_iff_toInt_le.mp hlo
    have e3 : (48 : Int32).toInt = 48 := rfl
    constructor
    · intro q
      have := Int32.le_iff_toInt_le.mp q.1
      have e4 : (-1 : Int32).toInt = -1 := rfl
      omega
    · intro q
      have := Int32.le_iff_toInt_le.mp q.1
      have e4 : (10 : Int32).toInt = 10 := rfl
      omega
theorem dig_n10 {c lo hi : Int32} (hlo : (48 : Int32) ≤ lo) (h : dig c lo hi) : c ≠ 10 := fun e => by
  rw [e] at h
  have h1 := Int32.le_iff_toInt_le.mp hlo
  have := Int32.le_iff_toInt_le.mp h.1
  have e3 : (48 : Int32).toInt = 48 := rfl
  have e4 : (10 : Int32).toInt = 10 := rfl
  omega
theorem dgs_spec (M : Nat → Int32) (k : Nat) : dgs M k ≤ 6 ∧ (∀ i, k ≤ i → i < k + dgs M k → dig (M i) 48 57) ∧ (dgs M k < 6 → ¬ dig (M (k + dgs M k)) 48 57) := by
  obtain ⟨g1, g2, g3, g4⟩ := fsr_spec (fun j => decide (¬ dig (M (k + j)) 48 57)) 6 0
  unfold dgs
  generalize fsr (fun j => decide (¬ dig (M (k + j)) 48 57)) 6 0 = n at g1 g2 g3 g4
  refine ⟨by omega, fun i h1 h2 => ?_, fun h => ?_⟩
  · have := g3 (i - k) (by omega) (by omega)
    rw [decide_eq_false_iff_not, Decidable.not_not, show k + (i - k) = i by omega] at this
    exact this
  · have := g4 (by omega)
    rw [decide_eq_true_eq] at this
    exact this
section
variable {h : ZH} {a L : Nat} {f : Nat → Int32}
theorem X2_onlyDigit {k : Nat} {lo hi : Int32} (hB : Byt h a L f) (hk : k ≤ L) (hlo : (48 : Int32) ≤ lo) : f_X2_onlyDigit h a (zi k) lo hi = some (cE (mby f L) L k (wd (mby f L) k lo hi)) := by
  have h6 := hB.le
  unfold f_X2_onlyDigit wd
  rw [hB.isO, X0_at hB (by omega), Option.bind_some, X2_isDigit, Option.bind_some, zi_one]
  by_cases hd : dig (mby f L k) lo hi
  · have hlt := mby_lo (dig_n10 hlo hd)
    rw [if_neg (fun q => b01_0.mp q ((bt_dig hlo).mpr hd)), if_neg (show ¬ ¬ dig (mby f L k) lo hi from fun q => q hd), hB.isO, X0_at hB (by omega), Option.bind_some, X2_endsLine, Option.bind_some]
    by_cases e : mby f L (k + 1) = 10
    · rw [if_neg (fun q => b01_0.mp q ((bt_end f L (k + 1)).mpr e)), if_neg (show ¬ mby f L (k + 1) ≠ 10 from fun q => q e)]
      show _ = some (zi (le' (mby f L) L k))
      rw [le'_skip (j := k + 1) (by omega) (by omega) (fun i h1 h2 => by rw [show i = k by omega]; exact dig_n10 hlo hd), le'_at e]
    · rw [if_pos (b01_f (fun q => e ((bt_end f L (k + 1)).mp q))), if_pos e]
      rfl
  · rw [if_pos (b01_f (fun q => hd ((bt_dig hlo).mp q))), if_pos hd]
    rfl
theorem X2_fln_loop {c : Nat} {k0 : Int32} (hB : Byt h a L f) (hc : c < 1000000) : zz_loop (fun st : Int32 => f_X2_flagAndNumber_L61 h a k0 (zi c) st) 0 = some (if 0 < dgs (mby f L) c ∧ mby f L (c + dgs (mby f L) c) = 10 then zi (c + dgs (mby f L) c) else zi (c + dgs (mby f L) c) ^^^ (-1 : Int32)) := by
  obtain ⟨l1, l2, l3⟩ := dgs_spec (mby f L) c
  generalize dgs (mby f L) c = n at l1 l2 l3
  have key := loop_to (b := fun st : Int32 => f_X2_flagAndNumber_L61 h a k0 (zi c) st) (fun i => zi i) 0 n (Nat.zero_le _) ?_
  · rw [show (0 : Int32) = (fun i => zi i) 0 from rfl, key]
    have J : f_X2_flagAndNumber_J90 h a k0 (zi c) (zi n) = some (if 0 < n ∧ mby f L (c + n) = 10 then zi (c + n) else zi (c + n) ^^^ (-1 : Int32)) := by
      unfold f_X2_flagAndNumber_J90 f_X2_flagAndNumber_J116
      rw [zz_let, zi_add]
      by_cases hn : 0 < n
      · rw [if_neg (fun q => absurd ((zi_leL (by omega) (by decide)).mp q) (by show ¬ n ≤ 0; omega)), hB.isO, X0_at hB (by omega), Option.bind_some, X2_endsLine, Option.bind_some]
        by_cases e : mby f L (c + n) = 10
        · rw [if_neg (fun q => b01_0.mp q ((bt_end f L (c + n)).mpr e)), if_pos ⟨hn, e⟩]
        · rw [if_pos (b01_f (fun q => e ((bt_end f L (c + n)).mp q))), if_neg (fun q => e q.2)]
      · rw [if_pos ((zi_leL (by omega) (by decide)).mpr (by show n ≤ 0; omega)), if_neg (fun q => hn q.1)]
    refine zz_loop_map ?_
    show f_X2_flagAndNumber_L61 h a k0 (zi c) (zi n) = _
    unfold f_X2_flagAndNumber_L61
    by_cases h6 : n = 6
    · rw [if_pos ((zi_Lle (by omega) (by decide)).mpr (by omega)), J]
    · have := l3 (by omega)
      rw [if_neg (fun q => absurd ((zi_Lle (by omega) (by decide)).mp q) (by omega)), zi_add, hB.isO, X0_at hB (by omega), Option.bind_some, X2_isDigit, Option.bind_some, if_pos (b01_f (fun q => this ((bt_dig (by decide)).mp q))), J]
  · intro i _ hi
    have := l2 (c + i) (by omega) (by omega)
    show f_X2_flagAndNumber_L61 h a k0 (zi c) (zi i) = _
    unfold f_X2_flagAndNumber_L61
    rw [if_neg (fun q => absurd ((zi_Lle (by omega) (by decide)).mp q) (by omega)), zi_add, hB.isO, X0_at hB (by omega), Option.bind_some, X2_isDigit, Option.bind_some, if_neg (fun q => b01_0.mp q ((bt_dig (by decide)).mpr this)), zi_one]
theorem X2_flagAndNumber {k : Nat} (hB : Byt h a L f) (hk : k ≤ L) : f_X2_flagAndNumber h a (zi k) = some (cE (mby f L) L k (wf (mby f L) k)) := by
  have h6 := hB.le
  unfold f_X2_flagAndNumber wf f_X2_flagAndNumber_J58
  rw [hB.isO, X0_at hB (by omega), Option.bind_some, X2_isDigit, Option.bind_some, zi_one, show zi k + (2 : Int32) = zi (k + 2) from zi_add k 2, show zi k + (3 : Int32) = zi (k + 3) from zi_add k 3]
  by_cases hd : dig (mby f L k) 48 55
  · have hlt := mby_lo (dig_n10 (by decide) hd)
    rw [if_neg (fun q => b01_0.mp q ((bt_dig (by decide)).mpr hd)), if_neg (show ¬ ¬ dig (mby f L k) 48 55 from fun q => q hd), hB.isO, X0_at hB (by omega), Option.bind_some]
    by_cases e : mby f L (k + 1) = 32
    · have hlt1 := mby_lo (f := f) (L := L) (k := k + 1) (by rw [e]; decide)
      rw [if_pos ((bt_is (by decide) (by decide)).mpr e), if_neg (show ¬ mby f L (k + 1) ≠ 32 from fun q => q e), hB.isO, X0_at hB (by omega), Option.bind_some]
      have fin : ∀ c, (c = k + 2 ∨ (c = k + 3 ∧ mby f L (k + 2) = 45)) → some (if 0 < dgs (mby f L) c ∧ mby f L (c + dgs (mby f L) c) = 10 then zi (c + dgs (mby f L) c) else zi (c + dgs (mby f L) c) ^^^ (-1 : Int32)) = some (cE (mby f L) L k (if 0 < dgs (mby f L) c ∧ mby f L (c + dgs (mby f L) c) = 10 then none else some (c + dgs (mby f L) c))) := by
        intro c hc
        obtain ⟨l1, l2, l3⟩ := dgs_spec (mby f L) c
        generalize dgs (mby f L) c = n at l1 l2 l3
        by_cases q : 0 < n ∧ mby f L (c + n) = 10
        · rw [if_pos q, if_pos q]
          have hlt2 := mby_lo (dig_n10 (by decide) (l2 (c + n - 1) (by omega) (by omega)))
          show _ = some (zi (le' (mby f L) L k))
          rw [le'_skip (j := c + n) (by omega) (by omega) (fun i h1 h2 => ?_), le'_at q.2]
          by_cases i0 : i = k
          · rw [i0]
            exact dig_n10 (by decide) hd
          · by_cases i1 : i = k + 1
            · rw [i1, e]
              decide
            · by_cases i2 : c ≤ i
              · exact dig_n10 (by decide) (l2 i i2 h2)
              · rcases hc with hc | ⟨hc, q2⟩
                · omega
                · rw [show i = k + 2 by omega, q2]
                  decide
        · rw [if_neg q, if_neg q]
          rfl
      by_cases e2 : mby f L (k + 2) = 45
      · rw [if_pos ((bt_is (by decide) (by decide)).mpr e2), if_pos e2, X2_fln_loop hB (by omega)]
        exact fin (k + 3) (Or.inr ⟨rfl, e2⟩)
      · rw [if_neg (fun q => e2 ((bt_is (by decide) (by decide)).mp q)), if_neg e2, X2_fln_loop hB (by omega)]
        exact fin (k + 2) (Or.inl rfl)
    · rw [if_neg (fun q => e ((bt_is (by decide) (by decide)).mp q)), if_pos e]
      rfl
  · rw [if_pos (b01_f (fun q => hd ((bt_dig (by decide)).mp q))), if_pos hd]
    rfl
theorem X2_isKind {c : Int32} : f_X2_isKind h c = some (b01 (knd c)) := by
  unfold f_X2_isKind
  by_cases h1 : c = 62
  · rw [if_pos h1, b01_t (Or.inl h1)]
  rw [if_neg h1]
  by_cases h2 : c = 61
  · rw [if_pos h2, b01_t (Or.inr (Or.inl h2))]
  rw [if_neg h2]
  by_cases h3 : c = 63
  · rw [if_pos h3, b01_t (Or.inr (Or.inr (Or.inl h3)))]
  rw [if_neg h3]
  by_cases h4 : c = 64
  · rw [if_pos h4, b01_t (Or.inr (Or.inr (Or.inr (Or.inl h4))))]
  rw [if_neg h4]
  by_cases h5 : c = 33
  · rw [if_pos h5, b01_t (Or.inr (Or.inr (Or.inr (Or.inr (Or.inl h5)))))]
  rw [if_neg h5]
  by_cases h6 : c = 115
  · rw [if_pos h6, b01_t (Or.inr (Or.inr (Or.inr (Or.inr (Or.inr (Or.inl h6))))))]
  rw [if_neg h6]
  by_cases h7 : c = 98
  · rw [if_pos h7, b01_t (Or.inr (Or.inr (Or.inr (Or.inr (Or.inr (Or.inr (Or.inl h7)))))))]
  rw [if_neg h7]
  by_cases h8 : c = 35
  · rw [if_pos h8, b01_t (Or.inr (Or.inr (Or.inr (Or.inr (Or.inr (Or.inr (Or.inr h8)))))))]
  rw [if_neg h8, b01_f]
  rintro (q | q | q | q | q | q | q | q)
  · exact h1 q
  · exact h2 q
  · exact h3 q
  · exact h4 q
  · exact h5 q
  · exact h6 q
  · exact h7 q
  · exact h8 q
theorem cE_from {k j : Nat} {o : Option Nat} (h1 : le' (mby f L) L k = le' (mby f L) L j) : cE (mby f L) L j o = cE (mby f L) L k o := by
  unfold cE
  rw [h1]
theorem X2_scriptLine {k : Nat} (hB : Byt h a L f) (hk : k < L) (hn : mby f L k ≠ 10) : f_X2_scriptLine h a (zi k) = some (cE (mby f L) L k (wl (mby f L) k)) := by
  have h6 := hB.le
  have hb : bt f L k = mby f L k := by
    rcases bt_mby f L k with ⟨-, e⟩ | ⟨e, -⟩
    · exact e
    · omega
  unfold f_X2_scriptLine wl
  rw [hB.isO, X0_at hB (by omega), Option.bind_some, X2_isKind, Option.bind_some, zi_one, show zi k + (2 : Int32) = zi (k + 2) from zi_add k 2, hb]
  generalize hc : mby f L k = c at hn
  by_cases hK : knd c
  · rw [if_neg (fun q => b01_0.mp q hK), if_neg (show ¬ ¬ knd c from fun q => q hK), hB.isO, X0_at hB (by omega), Option.bind_some]
    by_cases e : mby f L (k + 1) = 32
    · have hlt1 := mby_lo (f := f) (L := L) (k := k + 1) (by rw [e]; decide)
      have esk : le' (mby f L) L k = le' (mby f L) L (k + 2) := le'_skip (by omega) (by omega) (fun i h1 h2 => by
        have : i = k ∨ i = k + 1 := by omega
        rcases this with rfl | rfl
        · rw [hc]
          exact hn
        · rw [e]
          decide)
      rw [if_pos ((bt_is (by decide) (by decide)).mpr e), if_neg (show ¬ mby f L (k + 1) ≠ 32 from fun q => q e), zz_let]
      rcases hK with q | q | q | q | q | q | q | q
      · subst q
        rw [if_neg (by decide), if_neg (by decide), if_pos rfl, if_pos rfl, X2_words hB (by omega), Option.bind_some, cE_from esk]
      · subst q
        rw [if_neg (by decide), if_pos rfl, if_neg (by decide), if_pos rfl, X2_pattern hB (by omega), Option.bind_some, cE_from esk]
      · subst q
        rw [if_neg (by decide), if_neg (by decide), if_neg (by decide), if_pos rfl, if_neg (by decide), if_neg (by decide), if_pos rfl, X2_flagAndNumber hB (by omega), Option.bind_some, cE_from esk]
      · subst q
        rw [if_neg (by decide), if_neg (by decide), if_neg (by decide), if_neg (by decide), if_pos rfl, if_neg (by decide), if_neg (by decide), if_neg (by decide), if_pos rfl, X2_onlyDigit hB (by omega) (by decide), Option.bind_some, cE_from esk]
      · subst q
        rw [if_pos rfl, if_neg (by decide), if_neg (by decide), if_neg (by decide), if_neg (by decide), if_pos rfl, X2_onlyDigit hB (by omega) (by decide), Option.bind_some, cE_from esk]
      · subst q
        rw [if_neg (by decide), if_neg (by decide), if_neg (by decide), if_neg (by decide), if_neg (by decide), if_neg (by decide), if_pos rfl, if_neg (by decide), if_neg (by decide), if_neg (by decide), if_neg (by decide), if_neg (by decide), if_neg (by decide), X2_onlyDigit hB (by omega) (by decide), Option.bind_some, cE_from esk]
      · subst q
        rw [if_neg (by decide), if_neg (by decide), if_neg (by decide), if_neg (by decide), if_neg (by decide), if_pos rfl, if_neg (by decide), if_neg (by decide), if_neg (by decide), if_neg (by decide), if_neg (by decide), if_neg (by decide), X2_onlyDigit hB (by omega) (by decide), Option.bind_some, cE_from esk]
      · subst q
        rw [if_neg (by decide), if_neg (by decide), if_neg (by decide), if_neg (by decide), if_neg (by decide), if_neg (by decide), if_neg (by decide), if_neg (by decide), if_neg (by decide), if_neg (by decide), if_neg (by decide), if_neg (by decide), if_pos rfl, X2_lineEnd hB (by omega), Option.bind_some]
        show _ = some (zi (le' (mby f L) L k))
        rw [esk]
    · rw [if_neg (fun q => e ((bt_is (by decide) (by decide)).mp q)), if_pos e]
      rfl
  · rw [if_pos (b01_f hK), if_pos hK]
    rfl
end
