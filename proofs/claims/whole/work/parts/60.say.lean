/-! ===== a line of words is said ===== -/
theorem ww_word {M : Nat → Int32} {one : Bool} : ∀ (fu k j : Nat), j ≤ 6 → ww M one fu k j = none → ∃ n fu', 1 ≤ j + n ∧ j + n ≤ 6 ∧ (∀ i, k ≤ i → i < k + n → ltr (M i)) ∧ (M (k + n) = 10 ∨ (M (k + n) = 32 ∧ one = false ∧ ww M one fu' (k + n + 1) 0 = none))
  | 0, k, j, _, h => by cases h
  | fu + 1, k, j, hj, h => by
    rw [ww_succ] at h
    by_cases c : (M k = 10 ∨ (M k = 32 ∧ one = false)) ∧ 0 < j
    · rw [if_pos c] at h
      refine ⟨0, fu, by omega, by omega, fun i h1 h2 => by omega, ?_⟩
      by_cases c2 : M k = 10
      · exact Or.inl c2
      · rw [if_neg c2] at h
        have := c.1.resolve_left c2
        exact Or.inr ⟨this.1, this.2, h⟩
    · rw [if_neg c] at h
      by_cases c2 : ltr (M k) ∧ j < 6
      · rw [if_pos c2] at h
        obtain ⟨n, fu', h1, h2, h3, h4⟩ := ww_word fu (k + 1) (j + 1) (by omega) h
        refine ⟨n + 1, fu', by omega, by omega, fun i q1 q2 => ?_, ?_⟩
        · by_cases e : i = k
          · rw [e]
            exact c2.1
          · exact h3 i (by omega) (by omega)
        · rw [show k + (n + 1) = k + 1 + n by omega]
          exact h4
      · rw [if_neg c2] at h
        cases h
theorem ltr_n10 {c : Int32} (h : ltr c) : c ≠ 10 := fun e => by
  rw [e] at h
  exact absurd h (by decide)
theorem ltr_n32 {c : Int32} (h : ltr c) : c ≠ 32 := fun e => by
  rw [e] at h
  exact absurd h (by decide)
theorem lt6_eq {M : Nat → Int32} {k n : Nat} (h6 : n ≤ 6) (h1 : ∀ i, k ≤ i → i < k + n → ltr (M i)) (h2 : ¬ ltr (M (k + n))) : lt6 M k = n := by
  obtain ⟨g1, g2, g3⟩ := lt6_spec M k
  rcases Nat.lt_trichotomy (lt6 M k) n with q | q | q
  · exact absurd (h1 _ (by omega) (by omega)) (g3 (by omega))
  · exact q
  · exact absurd (g2 _ (by omega) (by omega)) h2
/-- the script that runs -/
def Scr (b : Nat) (Q : Nat → Option Nat) (g g1 : ZH) (a L i ns : Nat) (f : Nat → Int32) : Prop := i < ns ∧ ns ≤ 10 ∧ Q i = some a ∧ L ≤ 600 ∧ ∃ r, b + 101 ≤ a ∧ b + 101 ≤ r ∧ g a = some (.inr (0, [.ref r, .int (zi L)])) ∧ g r = some (.inl (0, L, .inl f)) ∧ g1 a = g a ∧ g1 r = g r
section
variable {b m : Nat} {S V : Nat → Nat → Int32} {Q : Nat → Option Nat} {g g1 g2 : ZH} {Sm : Nat → Int32} {Vm : Nat → Nat → Int32} {nr nw nt t ns p nf a L i : Nat} {f : Nat → Int32}
theorem Scr.byt (h : Scr b Q g g1 a L i ns f) : Byt (Cl b S V Q g1) a L f := by
  obtain ⟨-, -, -, h6, r, h1, h2, h3, h4, h5, h7⟩ := h
  refine ⟨r, L, ?_, ?_, Nat.le_refl _, h6⟩
  · unfold Cl
    rw [if_neg (by omega), h5, h3]
  · unfold Cl
    rw [if_neg (by omega), h7, h4]
theorem Scr.m31 (h : Scr b Q g g1 a L i ns f) (hr : Rrn b S V Q g Sm Vm nr nw nt t ns p nf) : ∀ j, j < L → Vm 31 (600 * i + j) = mby f L j := by
  obtain ⟨hi, -, hQ, h6, r, h1, h2, h3, h4, h5, h7⟩ := h
  obtain ⟨-, -, -, hsc⟩ := hr.1.2.2.2.2.2.2.2
  obtain ⟨a', r', L', f', q1, -, -, q2, q3, q4, q5, q6, q7⟩ := hsc i hi
  rw [hQ] at q1
  injection q1 with q1
  subst q1
  rw [h3] at q2
  simp only [Option.some.injEq, Sum.inr.injEq, Prod.mk.injEq, List.cons.injEq, Value.ref.injEq, true_and] at q2
  rw [← q2.1, h4] at q3
  simp only [Option.some.injEq, Sum.inl.injEq, Prod.mk.injEq, true_and] at q3
  obtain ⟨q3, q8⟩ := q3
  subst q3 q8
  intro j hj
  unfold mby
  rw [if_pos hj, q6 j hj]
/-- one word -/
theorem say_word {e k n : Nat} {a1 a2 : Int32} {h h' : ZH} (hs : Scr b Q g g1 a L i ns f) (hr : Rrn b S V Q g Sm Vm nr nw nt t ns p nf) (h1 : 1 ≤ n) (h6 : n ≤ 6) (hl : ∀ i, k ≤ i → i < k + n → ltr (mby f L i)) (hke : k + n ≤ e) (heL : e ≤ L) (hend : (k + n = e ∧ mby f L (k + n) = 10) ∨ mby f L (k + n) = 32) :
    ∃ (o : Option Bool) (S' V' : Nat → Nat → Int32) (Sm' : Nat → Int32) (Vm' : Nat → Nat → Int32), Rrn b S' V' Q g Sm' Vm' nr nw nt t ns p nf ∧
      f_X7_saysAll_L3 h (b + 56) a a2 (zi e) (zi k) (Cl b S V Q g1) = some (match o with | none => .inl (zi (k + n + 1), Cl b S' V' Q g1) | some P => .inr (b01 (P = true), Cl b S' V' Q g1)) ∧
      f_X12_saysAll_L2 h' m a1 (zi (600 * i + e)) (zi (600 * i + k)) (Rm m Sm Vm g2) = some (match o with | none => .inl (zi (600 * i + (k + n + 1)), Rm m Sm' Vm' g2) | some P => .inr (b01 (P = true), Rm m Sm' Vm' g2)) := by
  have hB := fun S V => hs.byt (S := S) (V := V)
  have hm := hs.m31 hr
  obtain ⟨hi, hns, -, hL6, -⟩ := id hs
  obtain ⟨⟨⟨a1', a2', a3⟩, ⟨b1, b2, b3⟩, ⟨c1, c2, c3⟩, d1, RI1, RI2, HR1⟩, -, -, -, hwd, -⟩ := id hr.1
  have hnl : ¬ ltr (mby f L (k + n)) := fun q => by
    rcases hend with ⟨-, e⟩ | e
    · exact ltr_n10 q e
    · exact ltr_n32 q e
  have e6 : lt6 (mby f L) k = n := lt6_eq h6 hl hnl
  have mo1 : S 52 3 = Vm 28 1 := hr.2.2.1.1 1 (by decide)
  have hE := Ent_words (b := b) (V := V) (Q := Q) (g := g1) b1 b3
  have hlen : ∀ w, w < nw → ∃ l, l ≤ 6 ∧ V 7 w = zi l := fun w hw => by
    obtain ⟨l, -, q1, q2, -⟩ := hwd w hw
    exact ⟨l, q1, q2⟩
  have hlenm : ∀ w, w < nw → ∃ l, l ≤ 6 ∧ Vm 6 w = zi l := fun w hw => by
    obtain ⟨l, -, q1, -, q2, -⟩ := hwd w hw
    exact ⟨l, q1, q2⟩
  have scan : f_X12_saysAll_L2 h' m a1 (zi (600 * i + e)) (zi (600 * i + k)) (Rm m Sm Vm g2) = f_X12_saysAll_J34 h' m a1 (zi (600 * i + e)) (zi (600 * i + k)) (zi (600 * i + (k + n))) (Rm m Sm Vm g2) := by
    unfold f_X12_saysAll_L2
    rw [if_neg (fun q => absurd ((zi_le (by omega) (by omega)).mp q) (by omega))]
    have key := loop_to (b := fun st : Int32 => f_X12_saysAll_L10 h' m a1 (zi (600 * i + e)) (zi (600 * i + k)) (Rm m Sm Vm g2) st) (fun j => zi (600 * i + j)) k (k + n) (by omega) (fun j q1 q2 => by
      show f_X12_saysAll_L10 h' m a1 (zi (600 * i + e)) (zi (600 * i + k)) (Rm m Sm Vm g2) (zi (600 * i + j)) = _
      unfold f_X12_saysAll_L10
      rw [if_neg (fun q => absurd ((zi_le (by omega) (by omega)).mp q) (by omega)), rgR_31, Option.bind_some, rl_31 (by omega), Option.bind_some, hm j (by omega), if_neg (ltr_n32 (hl j q1 q2)), zi_one]
      rfl)
    refine Eq.trans key (zz_loop_map ?_)
    show f_X12_saysAll_L10 h' m a1 (zi (600 * i + e)) (zi (600 * i + k)) (Rm m Sm Vm g2) (zi (600 * i + (k + n))) = _
    unfold f_X12_saysAll_L10
    by_cases q : k + n = e
    · rw [if_pos ((zi_le (by omega) (by omega)).mpr (by omega))]
    · rw [if_neg (fun q2 => absurd ((zi_le (by omega) (by omega)).mp q2) (by omega)), rgR_31, Option.bind_some, rl_31 (by omega), Option.bind_some, hm (k + n) (by omega), if_pos (hend.resolve_left (fun q3 => q q3.1))]
  rw [scan]
  unfold f_X7_saysAll_L3 f_X12_saysAll_J34
  rw [if_neg (fun q => absurd ((zi_le (by omega) (by omega)).mp q) (by omega)), X2_lettersEnd (hB S V) (by omega), Option.bind_some, e6, if_neg (show ¬ n = 0 by omega), if_neg (fun q => absurd ((zi_le (by omega) (by omega)).mp q) (by omega))]
  simp only [cgR_56_1, cgR_51_1, cgI_52_3, Option.bind_some, rgR_28, rlL_28 (i := 1) (by decide)]
  rw [mo1, show Vm 28 (OfNat.ofNat 1) = Vm 28 1 from rfl]
  by_cases h0 : Vm 28 1 = 0
  · rw [if_pos h0, if_pos h0]
    have ew := hE.find (hB S V) (s := k) (e := k + n) hlen (by omega) (by omega)
    have em := X12_wordAt (m := m) (S := Sm) (V := Vm) (g := g2) (ar := m + 22) (cap := 6000) (at' := 600 * i + k) (n := n) (T := Vm 31) (fun j hj => rl_31 hj) b2 b3 hlenm (by omega) (by decide)
    rw [show k + n - k = n by omega, find_congr (a := 600 * i + k) (B' := Vm 31) hwd (by omega) (fun j hj => by rw [bt_lt (show k + j < L by omega), ← hm (k + j) (by omega), Nat.add_assoc])] at ew
    generalize (if fsr (stq 6 (Vm 6) (Vm 5) (Vm 31) (600 * i + k) n) nw 0 < nw then zi (fsr (stq 6 (Vm 6) (Vm 5) (Vm 31) (600 * i + k) n) nw 0) else -1) = w at ew em
    obtain ⟨r, S', V', Sm', Vm', q1, q2, q3, q4⟩ := hr.hear (w := w)
    have eh := X8_hear (b := b) (V := V) (Q := Q) (g := g1) (w := w) a1' a3 b1 b3 c3 RI1 HR1.hi
    have es := X12_says (m := m) (g := g2) (w := w) a2' a3 c3 RI2
    rw [q1] at eh
    rw [q2] at es
    have eh : f_X8_hear (Cl b S V Q g1) (b + 51) w = some (r, Cl b S' V' Q g1) := eh
    have es : f_X12_says (Rm m Sm Vm g2) m w = some (r, Rm m Sm' Vm' g2) := es
    simp only [cgR_56_0, cgR_4_0, cO_5, cO_51, ew, eh, Option.bind_some, rgR_31, rO]
    rw [zi_sub (show 600 * i + k ≤ 600 * i + (k + n) by omega), show 600 * i + (k + n) - (600 * i + k) = n by omega, em]
    simp only [Option.bind_some, rO, es, cp_56_7, cgI_56_7, rp_36, rgI_36, up_self]
    rcases q3 with rfl | ⟨ff, f1, f4, rfl⟩
    · refine ⟨none, _, _, _, _, q4, ?_, ?_⟩
      · rw [if_pos rfl, zz_let, zi_one]
      · rw [if_pos (by decide), zz_let, zi_one]
        rfl
    · refine ⟨some false, _, _, _, _, q4, ?_, ?_⟩
      · rw [if_neg (fun q => absurd ((zi_eqL (by omega) (by decide)).mp q) (by omega))]
        rfl
      · rw [if_neg (fun q => absurd ((zi_leL (by omega) (by decide)).mp q) (by omega))]
        rfl
  · rw [if_neg h0, if_neg h0]
    refine ⟨some false, S, V, Sm, Vm, hr, ?_, ?_⟩
    · rfl
    · rfl
theorem say_all {e k fu : Nat} (hs : Scr b Q g g1 a L i ns f) (hr : Rrn b S V Q g Sm Vm nr nw nt t ns p nf) (hw : ww (mby f L) false fu k 0 = none) (he : le' (mby f L) L k = e) :
    ∃ (P : Bool) (S' V' : Nat → Nat → Int32) (Sm' : Nat → Int32) (Vm' : Nat → Nat → Int32), f_X7_saysAll (Cl b S V Q g1) (b + 56) a (zi k) (zi e) = some (b01 (P = true), Cl b S' V' Q g1) ∧ f_X12_saysAll (Rm m Sm Vm g2) m (zi (600 * i + k)) (zi (600 * i + e)) = some (b01 (P = true), Rm m Sm' Vm' g2) ∧ Rrn b S' V' Q g Sm' Vm' nr nw nt t ns p nf := by
  obtain ⟨hi, hns, -, hL6, -⟩ := id hs
  have hlt : ∀ k' fu', ww (mby f L) false fu' k' 0 = none → k' < L := by
    intro k' fu' q
    obtain ⟨n, fu2, h1, h2, h3, h4⟩ := ww_word fu' k' 0 (by omega) q
    exact mby_lo (ltr_n10 (h3 k' (Nat.le_refl _) (by omega)))
  have he2 := le'_le (M := mby f L) (Nat.le_of_lt (hlt k fu hw))
  rw [he] at he2
  unfold f_X7_saysAll f_X12_saysAll
  have key := loop_rel (b1 := fun st : (Int32 × ZH) => f_X7_saysAll_L3 (Cl b S V Q g1) (b + 56) a (zi k) (zi e) (st.1) (st.2)) (b2 := fun st : (Int32 × ZH) => f_X12_saysAll_L2 (Rm m Sm Vm g2) m (zi (600 * i + k)) (zi (600 * i + e)) (st.1) (st.2)) (fun s1 s2 => ∃ (k' : Nat) (S' V' : Nat → Nat → Int32) (Sm' : Nat → Int32) (Vm' : Nat → Nat → Int32), s1 = (zi k', Cl b S' V' Q g1) ∧ s2 = (zi (600 * i + k'), Rm m Sm' Vm' g2) ∧ Rrn b S' V' Q g Sm' Vm' nr nw nt t ns p nf ∧ (k' = e + 1 ∨ (le' (mby f L) L k' = e ∧ ∃ fu', ww (mby f L) false fu' k' 0 = none))) (fun r1 r2 => ∃ (P : Bool) (S' V' : Nat → Nat → Int32) (Sm' : Nat → Int32) (Vm' : Nat → Nat → Int32), r1 = (b01 (P = true), Cl b S' V' Q g1) ∧ r2 = (b01 (P = true), Rm m Sm' Vm' g2) ∧ Rrn b S' V' Q g Sm' Vm' nr nw nt t ns p nf) (fun s => e + 1 - s.1.toNatClampNeg) ?_ (zi k, Cl b S V Q g1) (zi (600 * i + k), Rm m Sm Vm g2) ⟨k, S, V, Sm, Vm, rfl, rfl, hr, Or.inr ⟨he, fu, hw⟩⟩
  · obtain ⟨r1, r2, e1, e2, P, S', V', Sm', Vm', q1, q2, q3⟩ := key
    exact ⟨P, S', V', Sm', Vm', by rw [e1, q1], by rw [e2, q2], q3⟩
  · rintro s1 s2 ⟨k', S', V', Sm', Vm', rfl, rfl, hr', hc⟩
    rcases hc with rfl | ⟨hle, fu', hw'⟩
    · refine Or.inr ⟨_, _, ?_, ?_, true, S', V', Sm', Vm', rfl, rfl, hr'⟩
      · show f_X7_saysAll_L3 _ _ _ _ _ (zi (e + 1)) _ = _
        unfold f_X7_saysAll_L3
        rw [if_pos ((zi_le (by omega) (by omega)).mpr (by omega))]
        rfl
      · show f_X12_saysAll_L2 _ _ _ _ (zi (600 * i + (e + 1))) _ = _
        unfold f_X12_saysAll_L2
        rw [if_pos ((zi_le (by omega) (by omega)).mpr (by omega))]
        rfl
    · obtain ⟨n, fu2, h1, h2, h3, h4⟩ := ww_word fu' k' 0 (by omega) hw'
      have hkL := hlt k' fu' hw'
      have hnL : k' + n - 1 < L := mby_lo (ltr_n10 (h3 (k' + n - 1) (by omega) (by omega)))
      have hsk := le'_skip (M := mby f L) (L := L) (k := k') (j := k' + n) (by omega) (by omega) (fun j q1 q2 => ltr_n10 (h3 j q1 q2))
      rw [hle] at hsk
      have hne : k' + n ≤ e := by
        rw [hsk]
        exact le'_ge _ _ _
      have hend : (k' + n = e ∧ mby f L (k' + n) = 10) ∨ mby f L (k' + n) = 32 := by
        rcases h4 with q | q
        · refine Or.inl ⟨?_, q⟩
          rw [hsk, le'_at q]
        · exact Or.inr q.1
      obtain ⟨o, S2, V2, Sm2, Vm2, g1', g2', g3'⟩ := say_word (g2 := g2) (m := m) (a1 := zi (600 * i + k)) (a2 := zi k) (h := Cl b S V Q g1) (h' := Rm m Sm Vm g2) hs hr' (show 1 ≤ n by omega) (by omega) h3 hne he2 hend
      cases o with
      | none =>
        refine Or.inl ⟨_, _, g2', g3', ⟨k' + n + 1, S2, V2, Sm2, Vm2, rfl, rfl, g1', ?_⟩, ?_⟩
        · rcases h4 with q | q
          · refine Or.inl ?_
            rw [hsk, le'_at q]
          · refine Or.inr ⟨?_, fu2, q.2.2⟩
            rw [hsk]
            have := hlt _ _ q.2.2
            refine (le'_skip (by omega) (by omega) (fun j q1 q2 => ?_)).symm
            rw [show j = k' + n by omega, q.1]
            decide
        · show e + 1 - (zi (k' + n + 1)).toNatClampNeg < e + 1 - (zi k').toNatClampNeg
          rw [zi_nat (by omega), zi_nat (by omega)]
          omega
      | some P => exact Or.inr ⟨_, _, g2', g3', P, S2, V2, Sm2, Vm2, rfl, rfl, g1'⟩
end
