/-! ===== the reference's lines; scripts ===== -/
theorem ww_le {M : Nat → Int32} {one : Bool} : ∀ (f k n p : Nat), ww M one f k n = some p → p ≤ k + f
  | 0, k, n, p, h => by
    have : k = p := Option.some.inj h
    omega
  | f + 1, k, n, p, h => by
    rw [ww_succ] at h
    by_cases c1 : (M k = 10 ∨ (M k = 32 ∧ one = false)) ∧ 0 < n
    · rw [if_pos c1] at h
      by_cases c2 : M k = 10
      · rw [if_pos c2] at h
        cases h
      · rw [if_neg c2] at h
        have := ww_le f (k + 1) 0 p h
        omega
    · rw [if_neg c1] at h
      by_cases c2 : ltr (M k) ∧ n < 6
      · rw [if_pos c2] at h
        have := ww_le f (k + 1) (n + 1) p h
        omega
      · rw [if_neg c2] at h
        have : k = p := Option.some.inj h
        omega
theorem wp_le {M : Nat → Int32} : ∀ (f k s p : Nat), wp M f k s = some p → p ≤ k + f
  | 0, k, s, p, h => by
    have : k = p := Option.some.inj h
    omega
  | f + 1, k, s, p, h => by
    rw [wp_succ] at h
    by_cases c1 : M k = 10
    · rw [if_pos c1] at h
      by_cases c2 : s = 0
      · rw [if_pos c2] at h
        cases h
      · rw [if_neg c2] at h
        have : k = p := Option.some.inj h
        omega
    · rw [if_neg c1] at h
      by_cases c2 : ¬ sgn (M k) ∨ (s = 1 ∧ M k = 93)
      · rw [if_pos c2] at h
        have : k = p := Option.some.inj h
        omega
      · rw [if_neg c2] at h
        have := wp_le f (k + 1) _ p h
        omega
theorem wd_le {M : Nat → Int32} {k p : Nat} {lo hi : Int32} (h : wd M k lo hi = some p) : p ≤ k + 1 := by
  unfold wd at h
  by_cases c1 : ¬ dig (M k) lo hi
  · rw [if_pos c1] at h
    have : k = p := Option.some.inj h
    omega
  · rw [if_neg c1] at h
    by_cases c2 : M (k + 1) ≠ 10
    · rw [if_pos c2] at h
      have : k + 1 = p := Option.some.inj h
      omega
    · rw [if_neg c2] at h
      cases h
theorem wf_le {M : Nat → Int32} {k p : Nat} (h : wf M k = some p) : p ≤ k + 9 := by
  unfold wf at h
  by_cases c1 : ¬ dig (M k) 48 55
  · rw [if_pos c1] at h
    have : k = p := Option.some.inj h
    omega
  · rw [if_neg c1] at h
    by_cases c2 : M (k + 1) ≠ 32
    · rw [if_pos c2] at h
      have : k + 1 = p := Option.some.inj h
      omega
    · rw [if_neg c2] at h
      have fin : ∀ c, c ≤ k + 3 → (if 0 < dgs M c ∧ M (c + dgs M c) = 10 then none else some (c + dgs M c)) = some p → p ≤ k + 9 := by
        intro c hc h
        have := (dgs_spec M c).1
        by_cases c3 : 0 < dgs M c ∧ M (c + dgs M c) = 10
        · rw [if_pos c3] at h
          cases h
        · rw [if_neg c3] at h
          have : c + dgs M c = p := Option.some.inj h
          omega
      by_cases c4 : M (k + 2) = 45
      · rw [if_pos c4] at h
        exact fin _ (by omega) h
      · rw [if_neg c4] at h
        exact fin _ (by omega) h
theorem wl_le {M : Nat → Int32} {k p : Nat} (h : wl M k = some p) : p ≤ k + 603 := by
  unfold wl at h
  by_cases c1 : ¬ knd (M k)
  · rw [if_pos c1] at h
    have : k = p := Option.some.inj h
    omega
  rw [if_neg c1] at h
  by_cases c2 : M (k + 1) ≠ 32
  · rw [if_pos c2] at h
    have : k + 1 = p := Option.some.inj h
    omega
  rw [if_neg c2] at h
  by_cases c3 : M k = 62
  · rw [if_pos c3] at h
    have := ww_le _ _ _ _ h
    omega
  rw [if_neg c3] at h
  by_cases c3 : M k = 61
  · rw [if_pos c3] at h
    have := wp_le _ _ _ _ h
    omega
  rw [if_neg c3] at h
  by_cases c3 : M k = 63
  · rw [if_pos c3] at h
    have := wf_le h
    omega
  rw [if_neg c3] at h
  by_cases c3 : M k = 64
  · rw [if_pos c3] at h
    have := wd_le h
    omega
  rw [if_neg c3] at h
  by_cases c3 : M k = 33
  · rw [if_pos c3] at h
    have := wd_le h
    omega
  rw [if_neg c3] at h
  by_cases c3 : M k = 35
  · rw [if_pos c3] at h
    cases h
  rw [if_neg c3] at h
  have := wd_le h
  omega
section
variable {m : Nat} {S : Nat → Int32} {V : Nat → Nat → Int32} {g : ZH} {t : Nat}
theorem X12_wrongDigit {k : Nat} {lo hi : Int32} (ht : S 2 = zi t) (h6 : t ≤ 600) (hk : k < 1000000) : f_X12_wrongDigit (Rm m S V g) m (zi k) lo hi = some (mE (wd (mb (V 1) t) k lo hi)) := by
  unfold f_X12_wrongDigit wd
  rw [rO, X12_byteAt ht h6 (by omega), Option.bind_some, X12_in, Option.bind_some, zi_one]
  by_cases hd : dig (mb (V 1) t k) lo hi
  · rw [if_neg (fun q => b01_0.mp q hd), if_neg (show ¬ ¬ dig (mb (V 1) t k) lo hi from fun q => q hd), rO, X12_byteAt ht h6 (by omega), Option.bind_some]
    by_cases e : mb (V 1) t (k + 1) = 10
    · rw [if_pos e, if_neg (show ¬ mb (V 1) t (k + 1) ≠ 10 from fun q => q e)]
      rfl
    · rw [if_neg e, if_pos e]
      rfl
  · rw [if_pos (b01_f hd), if_pos hd]
    rfl
theorem X12_fl_loop {c : Nat} {k0 : Int32} (ht : S 2 = zi t) (h6 : t ≤ 600) (hc : c < 2000000) : zz_loop (fun st : (Int32 × Int32) => f_X12_wrongFlag_L60 (Rm m S V g) m k0 (st.1) (st.2)) (zi c, 0) = some (mE (if 0 < dgs (mb (V 1) t) c ∧ mb (V 1) t (c + dgs (mb (V 1) t) c) = 10 then none else some (c + dgs (mb (V 1) t) c))) := by
  obtain ⟨l1, l2, l3⟩ := dgs_spec (mb (V 1) t) c
  generalize dgs (mb (V 1) t) c = n at l1 l2 l3
  have key := loop_to (b := fun st : (Int32 × Int32) => f_X12_wrongFlag_L60 (Rm m S V g) m k0 (st.1) (st.2)) (fun i => (zi (c + i), zi i)) 0 n (Nat.zero_le _) ?_
  · rw [show (zi c, (0 : Int32)) = (fun i => (zi (c + i), zi i)) 0 from rfl, key]
    have J : f_X12_wrongFlag_J93 (Rm m S V g) m k0 (zi (c + n)) (zi n) = some (mE (if 0 < n ∧ mb (V 1) t (c + n) = 10 then none else some (c + n))) := by
      unfold f_X12_wrongFlag_J93
      by_cases hn : 0 < n
      · rw [if_neg (fun q => absurd ((zi_leL (by omega) (by decide)).mp q) (by show ¬ n ≤ 0; omega)), rO, X12_byteAt ht h6 (by omega), Option.bind_some]
        by_cases e : mb (V 1) t (c + n) = 10
        · rw [if_pos e, if_pos ⟨hn, e⟩]
          rfl
        · rw [if_neg e, if_neg (fun q => e q.2)]
          rfl
      · rw [if_pos ((zi_leL (by omega) (by decide)).mpr (by show n ≤ 0; omega)), if_neg (fun q => hn q.1)]
        rfl
    refine zz_loop_map ?_
    show f_X12_wrongFlag_L60 (Rm m S V g) m k0 (zi (c + n)) (zi n) = _
    unfold f_X12_wrongFlag_L60
    rw [rO, X12_byteAt ht h6 (by omega), Option.bind_some, in_48_57, Option.bind_some]
    by_cases hd : dig (mb (V 1) t (c + n)) 48 57
    · have h6' : n = 6 := by
        by_cases q : n = 6
        · exact q
        · exact absurd hd (l3 (by omega))
      rw [if_neg (fun q => b01_0.mp q hd), if_pos ((zi_Lle (by omega) (by decide)).mpr (by omega)), J]
    · rw [if_pos (b01_f hd), J]
  · intro i _ hi
    have := l2 (c + i) (by omega) (by omega)
    show f_X12_wrongFlag_L60 (Rm m S V g) m k0 (zi (c + i)) (zi i) = _
    unfold f_X12_wrongFlag_L60
    rw [rO, X12_byteAt ht h6 (by omega), Option.bind_some, in_48_57, Option.bind_some, if_neg (fun q => b01_0.mp q this), if_neg (fun q => absurd ((zi_Lle (by omega) (by decide)).mp q) (by omega)), zi_one, zi_one]
    rfl
theorem X12_wrongFlag {k : Nat} (ht : S 2 = zi t) (h6 : t ≤ 600) (hk : k < 1000000) : f_X12_wrongFlag (Rm m S V g) m (zi k) = some (mE (wf (mb (V 1) t) k)) := by
  unfold f_X12_wrongFlag wf f_X12_wrongFlag_J56
  rw [rO, X12_byteAt ht h6 (by omega), Option.bind_some, in_48_55, Option.bind_some, zi_one, show zi k + (2 : Int32) = zi (k + 2) from zi_add k 2]
  by_cases hd : dig (mb (V 1) t k) 48 55
  · rw [if_neg (fun q => b01_0.mp q hd), if_neg (show ¬ ¬ dig (mb (V 1) t k) 48 55 from fun q => q hd), rO, X12_byteAt ht h6 (by omega), Option.bind_some]
    by_cases e : mb (V 1) t (k + 1) = 32
    · rw [if_pos e, if_neg (show ¬ mb (V 1) t (k + 1) ≠ 32 from fun q => q e), zz_let, rO, X12_byteAt ht h6 (by omega), Option.bind_some]
      by_cases e2 : mb (V 1) t (k + 2) = 45
      · rw [if_pos e2, if_pos e2, zz_let, zi_one, X12_fl_loop ht h6 (by omega)]
      · rw [if_neg e2, if_neg e2, zz_let, Int32.add_zero, X12_fl_loop ht h6 (by omega)]
    · rw [if_neg e, if_pos e]
      rfl
  · rw [if_pos (b01_f hd), if_pos hd]
    rfl
theorem X12_wrongLine {k : Nat} (ht : S 2 = zi t) (h6 : t ≤ 600) (hk : k < t) : f_X12_wrongLine (Rm m S V g) m (zi k) = some (mE (wl (mb (V 1) t) k)) := by
  unfold f_X12_wrongLine wl
  rw [rO, X12_byteAt ht h6 (by omega), Option.bind_some]
  have J : ∀ c, mb (V 1) t k = c → knd c → f_X12_wrongLine_J56 (Rm m S V g) m (zi k) c = some (mE (if mb (V 1) t (k + 1) ≠ 32 then some (k + 1) else if c = 62 then ww (mb (V 1) t) false 601 (k + 2) 0 else if c = 61 then wp (mb (V 1) t) 601 (k + 2) 0 else if c = 63 then wf (mb (V 1) t) (k + 2) else if c = 64 then wd (mb (V 1) t) (k + 2) 48 55 else if c = 33 then wd (mb (V 1) t) (k + 2) 49 57 else if c = 35 then none else wd (mb (V 1) t) (k + 2) 48 51)) := by
    intro c hc hK
    unfold f_X12_wrongLine_J56
    rw [zi_one, show zi k + (2 : Int32) = zi (k + 2) from zi_add k 2, rO, X12_byteAt ht h6 (by omega), Option.bind_some]
    by_cases e : mb (V 1) t (k + 1) = 32
    · have hlt1 := mb_lo (T := V 1) (t := t) (k := k + 1) (by rw [e]; decide)
      rw [if_pos e, if_neg (show ¬ mb (V 1) t (k + 1) ≠ 32 from fun q => q e)]
      simp only [rO, X12_wrongDigit ht h6 (show k + 2 < 1000000 by omega), X12_wrongPattern ht h6 (show k + 2 ≤ t by omega), X12_wrongWords ht h6 (show k + 2 ≤ t by omega), X12_wrongFlag ht h6 (show k + 2 < 1000000 by omega), Option.bind_some]
      rcases hK with q | q | q | q | q | q | q | q <;> subst q
      · rw [if_neg (by decide), if_neg (by decide), if_neg (by decide), if_pos rfl, if_pos rfl]
        rfl
      · rw [if_neg (by decide), if_neg (by decide), if_pos rfl, if_neg (by decide), if_pos rfl]
      · rw [if_neg (by decide), if_neg (by decide), if_neg (by decide), if_neg (by decide), if_pos rfl, if_neg (by decide), if_neg (by decide), if_pos rfl]
      · rw [if_neg (by decide), if_neg (by decide), if_neg (by decide), if_neg (by decide), if_neg (by decide), if_pos rfl, if_neg (by decide), if_neg (by decide), if_neg (by decide), if_pos rfl]
      · rw [if_pos rfl, if_neg (by decide), if_neg (by decide), if_neg (by decide), if_neg (by decide), if_pos rfl]
      · rw [if_neg (by decide), if_neg (by decide), if_neg (by decide), if_neg (by decide), if_neg (by decide), if_neg (by decide), if_neg (by decide), if_neg (by decide), if_neg (by decide), if_neg (by decide), if_neg (by decide), if_neg (by decide)]
      · rw [if_neg (by decide), if_neg (by decide), if_neg (by decide), if_neg (by decide), if_neg (by decide), if_neg (by decide), if_neg (by decide), if_neg (by decide), if_neg (by decide), if_neg (by decide), if_neg (by decide), if_neg (by decide)]
      · rw [if_neg (by decide), if_pos rfl, if_neg (by decide), if_neg (by decide), if_neg (by decide), if_neg (by decide), if_neg (by decide), if_pos rfl]
        rfl
    · rw [if_neg e, if_pos e]
      rfl
  generalize hc : mb (V 1) t k = c
  by_cases hK : knd c
  · rw [if_neg (show ¬ ¬ knd c from fun q => q hK), ← J c hc hK]
    rcases hK with q | q | q | q | q | q | q | q
    · rw [if_pos q]
    · rw [if_pos q]
      split <;> rfl
    · rw [if_pos q]
      repeat' split
      all_goals rfl
    · rw [if_pos q]
      repeat' split
      all_goals rfl
    · rw [if_pos q]
      repeat' split
      all_goals rfl
    · rw [if_pos q]
      repeat' split
      all_goals rfl
    · rw [if_pos q]
      repeat' split
      all_goals rfl
    · rw [if_pos q]
      repeat' split
      all_goals rfl
  · rw [if_pos hK, if_neg (fun q => hK (by rw [q]; decide)), if_neg (fun q => hK (by rw [q]; decide)), if_neg (fun q => hK (by rw [q]; decide)), if_neg (fun q => hK (by rw [q]; decide)), if_neg (fun q => hK (by rw [q]; decide)), if_neg (fun q => hK (by rw [q]; decide)), if_neg (fun q => hK (by rw [q]; decide)), if_neg (fun q => hK (by rw [q]; decide))]
    rfl
theorem wsc_succ {M : Nat → Int32} {L f k ln : Nat} : wsc M L (f + 1) k ln = (if L ≤ k then none else if M k = 10 then wsc M L f (k + 1) (ln + 1) else if 40 < ln then some k else match wl M k with
    | some p => some p
    | none => wsc M L f (le' M L k + 1) (ln + 1)) := rfl
theorem X12_scr_end {k : Nat} {w l : Int32} {h0 : ZH} (ht : S 2 = zi t) (h6 : t ≤ 600) (hk : k < t) : zz_loop (fun st : Int32 => f_X12_script_L53 h0 m w l (Rm m S V g) st) (zi k) = some (.inl (w, zi (le' (mb (V 1) t) t k + 1), l)) := by
  have e1 := le'_ge (mb (V 1) t) t k
  have e2 := le'_le (M := mb (V 1) t) (show k ≤ t by omega)
  have e3 := fun j h1 h2 => le'_no (M := mb (V 1) t) (L := t) (k := k) (j := j) h1 h2
  generalize hn : le' (mb (V 1) t) t k = n at e1 e2 e3
  have key := loop_to (b := fun st : Int32 => f_X12_script_L53 h0 m w l (Rm m S V g) st) (fun i => zi i) k n e1 ?_
  · rw [show zz_loop (fun st : Int32 => f_X12_script_L53 h0 m w l (Rm m S V g) st) (zi k) = zz_loop (fun st : Int32 => f_X12_script_L53 h0 m w l (Rm m S V g) st) (zi n) from key]
    refine zz_loop_inr ?_
    unfold f_X12_script_L53
    rw [rgI_2, Option.bind_some, ht, zi_one]
    by_cases hL : t ≤ n
    · rw [if_pos ((zi_le (by omega) (by omega)).mpr hL)]
      rfl
    · have h10 : mb (V 1) t n = 10 := by
        rw [← hn]
        exact le'_is (fun j hj => mb_hi hj) (by omega)
      have hv : V 1 n = 10 := by
        rw [← h10]
        unfold mb
        rw [if_pos (by omega)]
      rw [if_neg (fun q => hL ((zi_le (by omega) (by omega)).mp q)), rgR_1, Option.bind_some, rl_1 (by omega), Option.bind_some, if_pos hv]
      rfl
  · intro i h1 h2
    have hv : V 1 i ≠ 10 := by
      have := e3 i h1 h2
      unfold mb at this
      rw [if_pos (by omega)] at this
      exact this
    show f_X12_script_L53 h0 m w l (Rm m S V g) (zi i) = _
    unfold f_X12_script_L53
    rw [rgI_2, Option.bind_some, ht, zi_one, if_neg (fun q => absurd ((zi_le (by omega) (by omega)).mp q) (by omega)), rgR_1, Option.bind_some, rl_1 (by omega), Option.bind_some, if_neg hv]
theorem X12_scr {h0 : ZH} (ht : S 2 = zi t) (h6 : t ≤ 600) : ∀ (fu k l : Nat), t ≤ k + fu → k ≤ 601 → l ≤ k → zz_loop (fun st : (Int32 × Int32 × Int32) => f_X12_script_L11 h0 m (Rm m S V g) (st.1) (st.2.1) (st.2.2)) (-1, zi k, zi l) = f_X12_script_J84 h0 m (mE (wsc (mb (V 1) t) t fu k (l + 1))) (Rm m S V g)
  | 0, k, l, h1, h2, _ => by
    refine zz_loop_map ?_
    show f_X12_script_L11 h0 m (Rm m S V g) (-1) (zi k) (zi l) = _
    unfold f_X12_script_L11
    rw [rgI_2, Option.bind_some, ht, if_pos ((zi_le (by omega) (by omega)).mpr (by omega))]
    rfl
  | fu + 1, k, l, h1, h2, hl => by
    rw [wsc_succ]
    by_cases hL : t ≤ k
    · rw [if_pos hL]
      refine zz_loop_map ?_
      show f_X12_script_L11 h0 m (Rm m S V g) (-1) (zi k) (zi l) = _
      unfold f_X12_script_L11
      rw [rgI_2, Option.bind_some, ht, if_pos ((zi_le (by omega) (by omega)).mpr hL)]
      rfl
    · rw [if_neg hL]
      have ev : mb (V 1) t k = V 1 k := by
        unfold mb
        rw [if_pos (by omega)]
      have bad : ∀ p, zz_loop (fun st : (Int32 × Int32 × Int32) => f_X12_script_L11 h0 m (Rm m S V g) (st.1) (st.2.1) (st.2.2)) (zi p, zi (le' (mb (V 1) t) t k + 1), zi (l + 1)) = f_X12_script_J84 h0 m (mE (some p)) (Rm m S V g) ∨ 2147483648 ≤ p := by
        intro p
        rcases Nat.lt_or_ge p 2147483648 with q | q
        · refine Or.inl (zz_loop_map ?_)
          show f_X12_script_L11 h0 m (Rm m S V g) (zi p) (zi (le' (mb (V 1) t) t k + 1)) (zi (l + 1)) = _
          unfold f_X12_script_L11
          rw [rgI_2, Option.bind_some]
          by_cases q2 : S 2 ≤ zi (le' (mb (V 1) t) t k + 1)
          · rw [if_pos q2]
            rfl
          · rw [if_neg q2, if_pos ((zi_Lle q (by decide)).mpr (Nat.zero_le _))]
            rfl
        · exact Or.inr q
      have st : f_X12_script_L11 h0 m (Rm m S V g) (-1) (zi k) (zi l) = (if mb (V 1) t k = 10 then some (.inl (-1, zi (k + 1), zi (l + 1))) else if 40 < l + 1 then some (.inl (zi k, zi (le' (mb (V 1) t) t k + 1), zi (l + 1))) else some (.inl (mE (wl (mb (V 1) t) k), zi (le' (mb (V 1) t) t k + 1), zi (l + 1)))) := by
        unfold f_X12_script_L11 f_X12_script_J52
        rw [rgI_2, Option.bind_some, ht, if_neg (fun q => hL ((zi_le (by omega) (by omega)).mp q)), if_neg (by decide), rgR_1, Option.bind_some, rl_1 (by omega), Option.bind_some, zi_one, zi_one, ev]
        by_cases e : V 1 k = 10
        · rw [if_pos e, if_pos e]
        · rw [if_neg e, if_neg e]
          by_cases e4 : 40 < l + 1
          · rw [if_neg (fun q => absurd ((zi_leL (by omega) (by decide)).mp q) (by omega)), if_pos e4, X12_scr_end ht h6 (by omega)]
          · rw [if_pos ((zi_leL (by omega) (by decide)).mpr (by omega)), if_neg e4, rO, X12_wrongLine ht h6 (by omega), Option.bind_some, X12_scr_end ht h6 (by omega)]
      by_cases e : mb (V 1) t k = 10
      · rw [if_pos e] at st ⊢
        rw [zz_loop_inl (b := fun st : (Int32 × Int32 × Int32) => f_X12_script_L11 h0 m (Rm m S V g) (st.1) (st.2.1) (st.2.2)) (s := (-1, zi k, zi l)) st]
        exact X12_scr ht h6 fu (k + 1) (l + 1) (by omega) (by omega) (by omega)
      · rw [if_neg e] at st ⊢
        by_cases e4 : 40 < l + 1
        · rw [if_pos e4] at st ⊢
          rw [zz_loop_inl (b := fun st : (Int32 × Int32 × Int32) => f_X12_script_L11 h0 m (Rm m S V g) (st.1) (st.2.1) (st.2.2)) (s := (-1, zi k, zi l)) st]
          exact (bad k).resolve_right (by omega)
        · rw [if_neg e4] at st ⊢
          rw [zz_loop_inl (b := fun st : (Int32 × Int32 × Int32) => f_X12_script_L11 h0 m (Rm m S V g) (st.1) (st.2.1) (st.2.2)) (s := (-1, zi k, zi l)) st]
          cases hw : wl (mb (V 1) t) k with
          | some p => exact (bad p).resolve_right (by have := wl_le hw; omega)
          | none =>
            have q1 := le'_ge (mb (V 1) t) t k
            have q2 := le'_le (M := mb (V 1) t) (show k ≤ t by omega)
            exact X12_scr ht h6 fu (le' (mb (V 1) t) t k + 1) (l + 1) (by omega) (by omega) (by omega)
end
section
variable {h : ZH} {a L : Nat} {f : Nat → Int32}
theorem X2_scr (hB : Byt h a L f) : ∀ (fu k ln : Nat), L ≤ k + fu → k ≤ 601 → ln ≤ k + 1 → zz_loop (fun st : (Int32 × Int32) => f_X2_wrongInScript_L4 h a (st.1) (st.2)) (zi k, zi ln) = some (mE (wsc (mby f L) L fu k ln))
  | 0, k, ln, h1, h2, h3 => by
    have h6 := hB.le
    refine zz_loop_inr ?_
    show f_X2_wrongInScript_L4 h a (zi k) (zi ln) = _
    unfold f_X2_wrongInScript_L4
    by_cases q : (600 : Int32) < zi ln
    · rw [if_pos q]
      rfl
    · rw [if_neg q, hB.len, Option.bind_some, if_pos ((zi_le (by omega) (by omega)).mpr (by omega))]
      rfl
  | fu + 1, k, ln, h1, h2, h3 => by
    have h6 := hB.le
    rw [wsc_succ]
    by_cases hL : L ≤ k
    · rw [if_pos hL]
      refine zz_loop_inr ?_
      show f_X2_wrongInScript_L4 h a (zi k) (zi ln) = _
      unfold f_X2_wrongInScript_L4
      by_cases q : (600 : Int32) < zi ln
      · rw [if_pos q]
        rfl
      · rw [if_neg q, hB.len, Option.bind_some, if_pos ((zi_le (by omega) (by omega)).mpr (by omega))]
        rfl
    · rw [if_neg hL]
      have hb : bt f L k = mby f L k := by
        rcases bt_mby f L k with ⟨-, e⟩ | ⟨e, -⟩
        · exact e
        · omega
      have st : f_X2_wrongInScript_L4 h a (zi k) (zi ln) = (if mby f L k = 10 then some (.inl (zi (k + 1), zi (ln + 1))) else if 40 < ln then some (.inr (zi k)) else (f_X2_scriptLine h a (zi k)).bind fun v5 => if 0 ≤ v5 then some (.inl (v5 + 1, zi (ln + 1))) else some (.inr (v5 ^^^ (-1 : Int32)))) := by
        unfold f_X2_wrongInScript_L4
        rw [if_neg (fun q => absurd ((zi_Llt (by omega) (by decide)).mp q) (by omega)), hB.len, Option.bind_some, if_neg (fun q => hL ((zi_le (by omega) (by omega)).mp q)), hB.isO, X0_at hB (by omega), Option.bind_some, zi_one, zi_one, hb]
        by_cases e : mby f L k = 10
        · rw [if_pos e, if_pos e]
        · rw [if_neg e, if_neg e]
          by_cases e4 : 40 < ln
          · rw [if_neg (fun q => absurd ((zi_leL (by omega) (by decide)).mp q) (by omega)), if_pos e4]
            rfl
          · rw [if_pos ((zi_leL (by omega) (by decide)).mpr (by omega)), if_neg e4]
            rfl
      by_cases e : mby f L k = 10
      · rw [if_pos e] at st ⊢
        rw [zz_loop_inl (b := fun st : (Int32 × Int32) => f_X2_wrongInScript_L4 h a (st.1) (st.2)) (s := (zi k, zi ln)) st]
        exact X2_scr hB fu (k + 1) (ln + 1) (by omega) (by omega) (by omega)
      · rw [if_neg e] at st ⊢
        by_cases e4 : 40 < ln
        · rw [if_pos e4] at st ⊢
          exact zz_loop_inr (b := fun st : (Int32 × Int32) => f_X2_wrongInScript_L4 h a (st.1) (st.2)) (s := (zi k, zi ln)) st
        · rw [if_neg e4] at st ⊢
          rw [X2_scriptLine hB (by omega) e, Option.bind_some] at st
          cases hw : wl (mby f L) k with
          | some p =>
            have hp := wl_le hw
            rw [hw] at st
            have n0 : ¬ (0 : Int32) ≤ cE (mby f L) L k (some p) := by
              intro q
              have := xor_int (k := p) (by omega)
              have q2 := Int32.le_iff_toInt_le.mp q
              have e2 : (0 : Int32).toInt = 0 := rfl
              rw [show cE (mby f L) L k (some p) = zi p ^^^ (-1 : Int32) from rfl] at q2
              omega
            rw [if_neg n0, show cE (mby f L) L k (some p) = zi p ^^^ (-1 : Int32) from rfl, xor_xor] at st
            exact zz_loop_inr (b := fun st : (Int32 × Int32) => f_X2_wrongInScript_L4 h a (st.1) (st.2)) (s := (zi k, zi ln)) st
          | none =>
            have q1 := le'_ge (mby f L) L k
            have q2 := le'_le (M := mby f L) (show k ≤ L by omega)
            rw [hw, show cE (mby f L) L k none = zi (le' (mby f L) L k) from rfl, if_pos ((zi_Lle (by omega) (by decide)).mpr (Nat.zero_le _)), zi_one] at st
            rw [zz_loop_inl (b := fun st : (Int32 × Int32) => f_X2_wrongInScript_L4 h a (st.1) (st.2)) (s := (zi k, zi ln)) st]
            exact X2_scr hB fu (le' (mby f L) L k + 1) (ln + 1) (by omega) (by omega) (by omega)
theorem X2_wrongInScript (hB : Byt h a L f) : f_X2_wrongInScript h a = some (mE (wsc (mby f L) L 601 0 1)) := by
  have h6 := hB.le
  unfold f_X2_wrongInScript
  exact X2_scr hB 601 0 1 (by omega) (by omega) (by omega)
end
