/-! ===== a line comes out alike ===== -/
theorem dig_zi {c hi : Int32} {u : Nat} (h : dig c 48 hi) (hu : hi = zi (48 + u)) (h9 : u ≤ 9) : ∃ d, d ≤ u ∧ c - 48 = zi d := by
  obtain ⟨h1, h2⟩ := h
  have hn : ¬ c < 0 := fun q => by
    rw [Int32.lt_iff_toInt_lt] at q
    have := Int32.le_iff_toInt_le.mp h1
    have e1 : (0 : Int32).toInt = 0 := rfl
    have e2 : (48 : Int32).toInt = 48 := rfl
    omega
  obtain ⟨e, hlt⟩ := zi_of hn
  generalize c.toNatClampNeg = n at e hlt
  subst e hu
  have := (zi_Lle hlt (by decide)).mp h1
  have := (zi_le hlt (by omega)).mp h2
  have h48 : (48 : Nat) ≤ n := by assumption
  exact ⟨n - 48, by omega, zi_sub (b := 48) h48⟩
theorem nar_b1 : vp_nar .boolean (1 : Int32) = 1 := rfl
theorem nar_b0 : vp_nar .boolean (0 : Int32) = 0 := rfl
/-- j digits from c on as a number -/
def nmb (M : Nat → Int32) (c : Nat) : Nat → Int32
  | 0 => 0
  | j + 1 => nmb M c j * 10 + M (c + j) - 48
section
variable {b m : Nat} {S V : Nat → Nat → Int32} {Q : Nat → Option Nat} {g g1 g2 : ZH} {Sm : Nat → Int32} {Vm : Nat → Nat → Int32} {nr nw nt t ns p nf a L i : Nat} {f : Nat → Int32}
theorem X7_number {h : ZH} {s e : Nat} (hB : Byt h a L f) (hs : s < L) (he : e ≤ L) (hc : (if mby f L s = 45 then s + 1 else s) ≤ e) : f_X7_numberAt h a (zi s) (zi e) = some (if mby f L s = 45 then - nmb (mby f L) (s + 1) (e - (s + 1)) else nmb (mby f L) s (e - s)) := by
  have h6 := hB.le
  have lp : ∀ (c : Nat) (y : Int32), c ≤ e → zz_loop (fun st : (Int32 × Int32) => f_X7_numberAt_L32 h a (zi s) (zi e) y (st.1) (st.2)) (0, zi c) = some (if y = 0 then nmb (mby f L) c (e - c) else - nmb (mby f L) c (e - c)) := by
    intro c y hce
    refine loop_seq (b := fun st : (Int32 × Int32) => f_X7_numberAt_L32 h a (zi s) (zi e) y (st.1) (st.2)) (e - c) (fun j => (nmb (mby f L) c j, zi (c + j))) _ (fun j hj => ?_) ?_
    · show f_X7_numberAt_L32 h a (zi s) (zi e) y (nmb (mby f L) c j) (zi (c + j)) = _
      unfold f_X7_numberAt_L32
      rw [if_neg (fun q => absurd ((zi_le (by omega) (by omega)).mp q) (by omega)), hB.isO, X0_at hB (by omega), Option.bind_some, bt_lt (show c + j < L by omega), zz_let, zi_one]
      rfl
    · show f_X7_numberAt_L32 h a (zi s) (zi e) y (nmb (mby f L) c (e - c)) (zi (c + (e - c))) = _
      unfold f_X7_numberAt_L32
      rw [if_pos ((zi_le (by omega) (by omega)).mpr (by omega))]
      by_cases hy : y = 0
      · rw [if_pos hy, if_pos hy]
        rfl
      · rw [if_neg hy, if_neg hy]
        rfl
  unfold f_X7_numberAt f_X7_numberAt_J15 f_X7_numberAt_J30
  rw [hB.isO, X0_at hB (by omega), Option.bind_some, bt_lt hs]
  by_cases c45 : mby f L s = 45
  · rw [if_pos c45] at hc
    rw [if_pos c45, if_pos c45, if_neg (by decide), zi_one, lp (s + 1) 1 hc, if_neg (by decide)]
  · rw [if_neg c45] at hc
    rw [if_neg c45, if_neg c45, if_pos rfl, lp s 0 hc, if_pos rfl]
theorem X12_number {h : ZH} {M : Nat → Int32} {B k e d : Nat} (h31 : ∀ j, j < L → Vm 31 (B + j) = M j) (hBL : B + L ≤ 6000) (hs : k + 4 < L) (he : e ≤ L) (hd : d < 8) (hc : (if M (k + 4) = 45 then k + 4 + 1 else k + 4) ≤ e) :
    (if M (k + 4) = 45 then (f_X12_comesOut_J161 h m (zi (B + k)) (zi (B + e)) (zi d) (1 : Int32) (Rm m Sm Vm g2)) else (f_X12_comesOut_J161 h m (zi (B + k)) (zi (B + e)) (zi d) (0 : Int32) (Rm m Sm Vm g2))) = some (b01 (Vm 28 (4 + d) = (if M (k + 4) = 45 then - nmb M (k + 4 + 1) (e - (k + 4 + 1)) else nmb M (k + 4) (e - (k + 4)))), Rm m Sm Vm g2) := by
  have lp : ∀ (c : Nat) (y : Int32), c ≤ e → zz_loop (fun st : (Int32 × Int32) => f_X12_comesOut_L180 h m (zi (B + k)) (zi (B + e)) (zi d) y (Rm m Sm Vm g2) (st.1) (st.2)) (0, zi (B + c)) = some (b01 (Vm 28 (4 + d) = (if y = 0 then nmb M c (e - c) else - nmb M c (e - c))), Rm m Sm Vm g2) := by
    intro c y hce
    refine loop_seq (b := fun st : (Int32 × Int32) => f_X12_comesOut_L180 h m (zi (B + k)) (zi (B + e)) (zi d) y (Rm m Sm Vm g2) (st.1) (st.2)) (e - c) (fun j => (nmb M c j, zi (B + c + j))) _ (fun j hj => ?_) ?_
    · show f_X12_comesOut_L180 h m (zi (B + k)) (zi (B + e)) (zi d) y (Rm m Sm Vm g2) (nmb M c j) (zi (B + c + j)) = _
      unfold f_X12_comesOut_L180
      rw [if_neg (fun q => absurd ((zi_le (by omega) (by omega)).mp q) (by omega)), rgR_31, Option.bind_some, rl_31 (by omega), Option.bind_some, show Vm 31 (B + c + j) = M (c + j) by rw [Nat.add_assoc]; exact h31 (c + j) (by omega), zz_let, zi_one, Int32.mul_comm]
      rfl
    · show f_X12_comesOut_L180 h m (zi (B + k)) (zi (B + e)) (zi d) y (Rm m Sm Vm g2) (nmb M c (e - c)) (zi (B + c + (e - c))) = _
      unfold f_X12_comesOut_L180 f_X12_comesOut_J232
      rw [if_pos ((zi_le (by omega) (by omega)).mpr (by omega)), rgR_28, Option.bind_some, zi_Ladd, rl_28 (by omega), Option.bind_some]
      by_cases hy : y = 0
      · rw [if_pos hy, if_pos hy]
        by_cases e1 : Vm 28 (4 + d) = nmb M c (e - c)
        · rw [if_pos e1, b01_t e1]
          rfl
        · rw [if_neg e1, b01_f e1]
          rfl
      · rw [if_neg hy, if_neg hy]
        by_cases e1 : Vm 28 (4 + d) = - nmb M c (e - c)
        · rw [if_pos e1, b01_t e1]
          rfl
        · rw [if_neg e1, b01_f e1]
          rfl
  unfold f_X12_comesOut_J161 f_X12_comesOut_J177
  by_cases c45 : M (k + 4) = 45
  · rw [if_pos c45] at hc
    rw [if_pos c45, if_pos c45, if_neg (by decide), zz_let, show zi (B + k) + (5 : Int32) = zi (B + (k + 4 + 1)) from zi_add (B + k) 5, lp (k + 4 + 1) 1 hc, if_neg (by decide)]
  · rw [if_neg c45] at hc
    rw [if_neg c45, if_neg c45, if_pos rfl, zz_let, show zi (B + k) + (4 : Int32) = zi (B + (k + 4)) from zi_add (B + k) 4, lp (k + 4) 0 hc, if_pos rfl]
theorem X7_back {d : Nat} (hd : d < 4) : f_X7_goBack (Cl b S V Q g1) (b + 56) (zi d) = some (if V 58 d = 0 then (0, Cl b S V Q g1) else (1, Cl b (mS S 52 (bw (amo S V 52) 0 12 (amo S V (61 + 2 * d)))) (mV V 52 (bw (amo S V 52) 0 12 (amo S V (61 + 2 * d)))) Q g1)) := by
  have hM : isM (61 + 2 * d) := by
    unfold isM
    omega
  unfold f_X7_goBack
  simp only [cgR_56_2, cN_57, cgR_56_3, cN_58, cl_58 hd, cgR_56_1, cgR_51_1, cl_pt hd, Option.bind_some]
  rw [if_neg (zi_neg (by omega)), if_neg (fun q => absurd ((zi_le (by omega) (by omega)).mp q) (by omega)), if_neg (fun q => absurd ((zi_le (by omega) (by omega)).mp q) (by omega))]
  by_cases h0 : V 58 d = 0
  · rw [if_pos h0, if_pos h0]
  · rw [if_neg h0, if_neg h0, cO_52, X4_become (Or.inl rfl) hM (by omega), Option.bind_some]
theorem X7_keep {d : Nat} (hd : d < 4) : f_X7_keepPoint (Cl b S V Q g1) (b + 56) (zi d) = some (1, Cl b (mS S (61 + 2 * d) (bw (amo S V (61 + 2 * d)) 0 12 (amo S V 52))) (va_up (mV V (61 + 2 * d) (bw (amo S V (61 + 2 * d)) 0 12 (amo S V 52))) 58 (va_up (V 58) d 1)) Q g1) := by
  have hM : isM (61 + 2 * d) := by
    unfold isM
    omega
  have e58 : mV V (61 + 2 * d) (bw (amo S V (61 + 2 * d)) 0 12 (amo S V 52)) 58 = V 58 := up_ne _ _ (by omega)
  unfold f_X7_keepPoint
  simp only [cgR_56_2, cN_57, cgR_56_3, cN_58, cgR_56_1, cgR_51_1, cl_pt hd, Option.bind_some]
  rw [if_neg (zi_neg (by omega)), if_neg (fun q => absurd ((zi_le (by omega) (by omega)).mp q) (by omega)), if_pos ((zi_lt (by omega) (by omega)).mpr hd), cM_O hM, X4_become hM (Or.inl rfl) (by omega), Option.bind_some, cgR_56_3, Option.bind_some, cs_58 _ hd, Option.bind_some, e58, nar_b1]
/-- a line, but for an empty one -/
theorem com_line {k e : Nat} (hs : Scr b Q g g1 a L i ns f) (hr : Rrn b S V Q g Sm Vm nr nw nt t ns p nf) (h10 : mby f L k ≠ 10) (hwl : wl (mby f L) k = none) (he : le' (mby f L) L k = e) :
    ∃ (P : Bool) (S' V' : Nat → Nat → Int32) (Sm' : Nat → Int32) (Vm' : Nat → Nat → Int32), (if mby f L k = 62 then f_X7_saysAll (Cl b S V Q g1) (b + 56) a (zi (k + 2)) (zi e) else f_X7_comesOut (Cl b S V Q g1) (b + 56) a (zi k) (zi e)) = some (b01 (P = true), Cl b S' V' Q g1) ∧ f_X12_comesOut (Rm m Sm Vm g2) m (zi (600 * i + k)) (zi (600 * i + e)) = some (b01 (P = true), Rm m Sm' Vm' g2) ∧ Rrn b S' V' Q g Sm' Vm' nr nw nt t ns p nf := by
  have hB := hs.byt (S := S) (V := V)
  have hm := hs.m31 hr
  obtain ⟨hi, hns, -, hL6, -⟩ := id hs
  have hkL := mby_lo h10
  unfold wl at hwl
  have hkn : knd (mby f L k) := Decidable.byContradiction fun q => by
    rw [if_pos q] at hwl
    cases hwl
  rw [if_neg (fun q => q hkn)] at hwl
  have h32 : mby f L (k + 1) = 32 := Decidable.byContradiction fun q => by
    rw [if_pos q] at hwl
    cases hwl
  rw [if_neg (fun q => q h32)] at hwl
  have h110 : mby f L (k + 1) ≠ 10 := by
    rw [h32]
    decide
  have hk1 := mby_lo h110
  have heL : e ≤ L := by
    rw [← he]
    exact le'_le (by omega)
  have sk2 : le' (mby f L) L (k + 2) = e := by
    rw [← he]
    refine (le'_skip (by omega) (by omega) (fun j q1 q2 => ?_)).symm
    have : j = k ∨ j = k + 1 := by omega
    rcases this with rfl | rfl
    · exact h10
    · exact h110
  have hk2e : k + 2 ≤ e := by
    rw [← sk2]
    exact le'_ge _ _ _
  have mk : Vm 31 (600 * i + k) = mby f L k := hm k hkL
  have mo := hr.2.2.1.1
  have eM : f_X12_comesOut (Rm m Sm Vm g2) m (zi (600 * i + k)) (zi (600 * i + e)) = f_X12_comesOut_J29 (Rm m Sm Vm g2) m (zi (600 * i + k)) (zi (600 * i + e)) (mby f L k) (if e ≤ k + 2 then 0 else mby f L (k + 2) - 48) (Rm m Sm Vm g2) := by
    unfold f_X12_comesOut
    rw [rgR_31, Option.bind_some, rl_31 (by omega), Option.bind_some, mk, show zi (600 * i + k) + (2 : Int32) = zi (600 * i + (k + 2)) from zi_add (600 * i + k) 2]
    by_cases q : e ≤ k + 2
    · rw [if_pos ((zi_le (by omega) (by omega)).mpr (by omega)), if_pos q]
    · rw [if_neg (fun q2 => absurd ((zi_le (by omega) (by omega)).mp q2) (by omega)), if_neg q, Option.bind_some, rl_31 (by omega), Option.bind_some, hm (k + 2) (by omega)]
  have dgt : mby f L (k + 2) ≠ 10 → k + 2 < L ∧ k + 2 < e := fun q => by
    have h1 := mby_lo q
    refine ⟨h1, ?_⟩
    rcases Nat.lt_or_ge (k + 2) e with q2 | q2
    · exact q2
    · have h2 := le'_is (M := mby f L) (L := L) (k := k + 2) (fun j hj => mby_hi hj) (by omega)
      rw [sk2, show e = k + 2 by omega] at h2
      exact absurd h2 q
  rw [eM]
  unfold f_X12_comesOut_J29 f_X7_comesOut
  rw [show zi k + (2 : Int32) = zi (k + 2) from zi_add k 2, show zi (600 * i + k) + (2 : Int32) = zi (600 * i + (k + 2)) from zi_add (600 * i + k) 2, zz_let, hB.isO, X0_at hB (by omega), Option.bind_some, zz_let, hB.isO, X0_at hB (by omega), Option.bind_some, bt_lt hkL]
  rcases hkn with c | c | c | c | c | c | c | c
  · -- >
    rw [if_pos c] at hwl
    obtain ⟨P, S', V', Sm', Vm', q1, q2, q3⟩ := say_all (m := m) (g2 := g2) hs hr hwl sk2
    refine ⟨P, S', V', Sm', Vm', ?_, ?_, q3⟩
    · rw [if_pos c]
      exact q1
    · rw [c]
      rw [if_neg (by decide), if_neg (by decide), if_pos rfl, rO, q2, Option.bind_some]
      exact b01_ok
  · -- =
    rw [c] at hwl ⊢
    rw [if_neg (by decide), if_pos rfl] at hwl
    rw [if_neg (by decide), if_neg (by decide), if_pos rfl, if_neg (by decide), if_pos rfl]
    have m3 : S 52 4 = Vm 28 3 := mo 3 (by decide)
    simp only [cgR_56_1, cgR_51_1, cgI_52_4, cgR_56_0, Option.bind_some, rgR_28, rlL_28 (i := 3) (by decide), rO]
    rw [m3, show Vm 28 (OfNat.ofNat 3) = Vm 28 3 from rfl]
    rcases hr.2.2.1.2 with q | q
    · rw [if_pos q, if_pos q]
      exact ⟨false, S, V, Sm, Vm, rfl, rfl, hr⟩
    · have n2 : ¬ Vm 28 3 = (-2 : Int32) := by
        rcases q with q | ⟨j, hj, q⟩
        · rw [q]
          decide
        · rw [q]
          exact fun q2 => zi_neg (n := j) (by have := hr.1.1.2.2.1.2.2; omega) (by rw [q2]; decide)
      rw [if_neg n2, if_neg n2]
      obtain ⟨n, sg, t1, t2, t3, t4, t5⟩ := txs (b := b) (m := m) (Q := Q) (g1 := g1) (g2 := g2) hr.1.1 hr.1.2.2.2.2.2.1 q
      obtain ⟨P, p1, p2⟩ := fits_matches hB cel_4 t2 t1 t3 t4 t5 hm (by omega) (k0 := k + 2) (by omega) hwl
      rw [sk2] at p1 p2
      rw [p1, p2]
      refine ⟨P, S, V, Sm, Vm, ?_, ?_, hr⟩
      · cases P <;> rfl
      · cases P <;> rfl
  · -- ?
    rw [c] at hwl ⊢
    rw [if_neg (by decide), if_neg (by decide), if_pos rfl] at hwl
    unfold wf at hwl
    have hd : dig (mby f L (k + 2)) 48 55 := Decidable.byContradiction fun q => by
      rw [if_pos q] at hwl
      cases hwl
    rw [if_neg (fun q => q hd)] at hwl
    have h3 : mby f L (k + 2 + 1) = 32 := Decidable.byContradiction fun q => by
      rw [if_pos q] at hwl
      cases hwl
    rw [if_neg (fun q => q h3)] at hwl
    obtain ⟨k2L, k2e⟩ := dgt (dig_n10 (by decide) hd)
    obtain ⟨d, hd7, ed⟩ := dig_zi (u := 7) hd rfl (by decide)
    have h4 : mby f L (k + 4) ≠ 10 := fun q => by
      have q2 : mby f L (k + 2 + 2) = 10 := q
      dsimp only at hwl
      rw [q2, if_neg (show ¬ (10 : Int32) = 45 by decide)] at hwl
      have h0 : ¬ (0 < dgs (mby f L) (k + 2 + 2) ∧ mby f L (k + 2 + 2 + dgs (mby f L) (k + 2 + 2)) = 10) := fun ⟨q3, _⟩ => by
        have := (dgs_spec (mby f L) (k + 2 + 2)).2.1 (k + 2 + 2) (Nat.le_refl _) (by omega)
        exact dig_n10 (by decide) this q2
      rw [if_neg h0] at hwl
      cases hwl
    have k4L := mby_lo h4
    have hce : (if mby f L (k + 4) = 45 then k + 4 + 1 else k + 4) ≤ e := by
      have hsk : le' (mby f L) L k = le' (mby f L) L (if mby f L (k + 4) = 45 then k + 4 + 1 else k + 4) := by
        refine le'_skip (by split <;> omega) (by split <;> omega) (fun j q1 q2 => ?_)
        have hj : j = k ∨ j = k + 1 ∨ j = k + 2 ∨ j = k + 3 ∨ j = k + 4 := by
          split at q2 <;> omega
        rcases hj with rfl | rfl | rfl | rfl | rfl
        · exact h10
        · exact h110
        · exact dig_n10 (by decide) hd
        · rw [show k + 3 = k + 2 + 1 from rfl, h3]
          decide
        · exact h4
      rw [← he, hsk]
      exact le'_ge _ _ _
    rw [if_neg (by decide), if_neg (by decide), if_neg (by decide), if_pos rfl, if_neg (by decide), if_neg (by decide), if_neg (by decide), if_pos rfl, bt_lt k2L, if_neg (show ¬ e ≤ k + 2 by omega), ed]
    simp only [cgR_56_1, cgR_51_1, cO_52, Option.bind_some, rgR_31]
    rw [X4_flag (Or.inl rfl) (by omega), Option.bind_some, show zi (k + 2) + (2 : Int32) = zi (k + 4) from zi_add (k + 2) 2, X7_number hB k4L heL hce, Option.bind_some, show zi (600 * i + k) + (4 : Int32) = zi (600 * i + (k + 4)) from zi_add (600 * i + k) 4, rl_31 (by omega), Option.bind_some, hm (k + 4) k4L, X12_number (M := mby f L) hm (by omega) k4L heL (by omega) hce, mo (4 + d) (by omega)]
    refine ⟨decide (Vm 28 (4 + d) = (if mby f L (k + 4) = 45 then - nmb (mby f L) (k + 4 + 1) (e - (k + 4 + 1)) else nmb (mby f L) (k + 4) (e - (k + 4)))), S, V, Sm, Vm, ?_, ?_, hr⟩
    · by_cases q : Vm 28 (4 + d) = (if mby f L (k + 4) = 45 then - nmb (mby f L) (k + 4 + 1) (e - (k + 4 + 1)) else nmb (mby f L) (k + 4) (e - (k + 4)))
      · rw [if_pos q, decide_eq_true q, b01_t rfl]
      · rw [if_neg q, decide_eq_false q, b01_f (by decide)]
    · rw [b01_congr (decide_eq_true_iff).symm]
  · -- @
    rw [c] at hwl ⊢
    rw [if_neg (by decide), if_neg (by decide), if_neg (by decide), if_pos rfl] at hwl
    unfold wd at hwl
    have hd : dig (mby f L (k + 2)) 48 55 := Decidable.byContradiction fun q => by
      rw [if_pos q] at hwl
      cases hwl
    obtain ⟨k2L, k2e⟩ := dgt (dig_n10 (by decide) hd)
    rw [if_neg (by decide), if_neg (by decide), if_neg (by decide), if_neg (by decide), if_pos rfl, if_neg (by decide), if_neg (by decide), if_neg (by decide), if_neg (by decide), if_pos rfl, bt_lt k2L, if_neg (show ¬ e ≤ k + 2 by omega)]
    have m3 : S 52 1 = Vm 28 0 := mo 0 (by decide)
    simp only [cgR_56_1, cgR_51_1, cgI_52_1, Option.bind_some, rgR_28, rlL_28 (i := 0) (by decide)]
    rw [m3, show Vm 28 (OfNat.ofNat 0) = Vm 28 0 from rfl]
    refine ⟨decide (Vm 28 0 = mby f L (k + 2) - 48), S, V, Sm, Vm, ?_, ?_, hr⟩ <;>
    · by_cases q : Vm 28 0 = mby f L (k + 2) - 48
      · rw [if_pos q, decide_eq_true q, b01_t rfl]
      · rw [if_neg q, decide_eq_false q, b01_f (by decide)]
  · -- !
    rw [c] at hwl ⊢
    rw [if_neg (by decide), if_neg (by decide), if_neg (by decide), if_neg (by decide), if_pos rfl] at hwl
    unfold wd at hwl
    have hd : dig (mby f L (k + 2)) 49 57 := Decidable.byContradiction fun q => by
      rw [if_pos q] at hwl
      cases hwl
    obtain ⟨k2L, k2e⟩ := dgt (dig_n10 (by decide) hd)
    rw [if_neg (by decide), if_pos rfl, if_pos rfl, bt_lt k2L, if_neg (show ¬ e ≤ k + 2 by omega)]
    have m3 : S 52 3 = Vm 28 1 := mo 1 (by decide)
    simp only [cgR_56_1, cgR_51_1, cgI_52_3, Option.bind_some, rgR_28, rlL_28 (i := 1) (by decide)]
    rw [m3, show Vm 28 (OfNat.ofNat 1) = Vm 28 1 from rfl]
    refine ⟨decide (Vm 28 1 = mby f L (k + 2) - 48), S, V, Sm, Vm, ?_, ?_, hr⟩ <;>
    · by_cases q : Vm 28 1 = mby f L (k + 2) - 48
      · rw [if_pos q, decide_eq_true q, b01_t rfl]
      · rw [if_neg q, decide_eq_false q, b01_f (by decide)]
  · -- s
    rw [c] at hwl ⊢
    rw [if_neg (by decide), if_neg (by decide), if_neg (by decide), if_neg (by decide), if_neg (by decide), if_neg (by decide)] at hwl
    unfold wd at hwl
    have hd : dig (mby f L (k + 2)) 48 51 := Decidable.byContradiction fun q => by
      rw [if_pos q] at hwl
      cases hwl
    obtain ⟨k2L, k2e⟩ := dgt (dig_n10 (by decide) hd)
    obtain ⟨d, hd3, ed⟩ := dig_zi (u := 3) hd rfl (by decide)
    rw [if_neg (by decide), if_neg (by decide), if_neg (by decide), if_neg (by decide), if_neg (by decide), if_neg (by decide), if_pos rfl, if_neg (by decide), if_neg (by decide), if_neg (by decide), if_neg (by decide), if_neg (by decide), if_neg (by decide), if_pos rfl, bt_lt k2L, if_neg (show ¬ e ≤ k + 2 by omega), ed, cO_56, X7_keep (by omega), Option.bind_some, zi_Ladd, rO, show f_X12_copy (Rm m Sm Vm g2) m 0 (zi (1 + d)) = _ from X12_copy (f := 0) (t := 1 + d) (by omega) (by omega) (by omega), Option.bind_some, rgR_29, Option.bind_some, rs_29 _ (by omega), Option.bind_some, nar_b1]
    exact ⟨true, _, _, _, _, rfl, rfl, hr.keep (by omega) _ rfl⟩
  · -- b
    rw [c] at hwl ⊢
    rw [if_neg (by decide), if_neg (by decide), if_neg (by decide), if_neg (by decide), if_neg (by decide), if_neg (by decide)] at hwl
    unfold wd at hwl
    have hd : dig (mby f L (k + 2)) 48 51 := Decidable.byContradiction fun q => by
      rw [if_pos q] at hwl
      cases hwl
    obtain ⟨k2L, k2e⟩ := dgt (dig_n10 (by decide) hd)
    obtain ⟨d, hd3, ed⟩ := dig_zi (u := 3) hd rfl (by decide)
    have e58 := (hr.2.2.2.2.2 d (by omega)).1
    rw [if_neg (by decide), if_neg (by decide), if_neg (by decide), if_neg (by decide), if_neg (by decide), if_pos rfl, if_neg (by decide), if_neg (by decide), if_neg (by decide), if_neg (by decide), if_neg (by decide), if_pos rfl, bt_lt k2L, if_neg (show ¬ e ≤ k + 2 by omega), ed, cO_56, X7_back (by omega), Option.bind_some, zi_Ladd, rgR_29, Option.bind_some, rl_29 (by omega), Option.bind_some, rO, show f_X12_copy (Rm m Sm Vm g2) m (zi (1 + d)) 0 = _ from X12_copy (f := 1 + d) (t := 0) (by omega) (by omega) (by omega), Option.bind_some]
    rw [show Vm 29 (OfNat.ofNat 1 + d) = Vm 29 (1 + d) from rfl, ← e58]
    by_cases h0 : V 58 d = 0
    · rw [if_pos h0, if_pos h0]
      exact ⟨false, S, V, Sm, Vm, rfl, rfl, hr⟩
    · rw [if_neg h0, if_neg h0]
      exact ⟨true, _, _, _, _, rfl, rfl, hr.back (by omega) h0 _ rfl⟩
  · -- #
    rw [c]
    exact ⟨true, S, V, Sm, Vm, rfl, rfl, hr⟩
end
