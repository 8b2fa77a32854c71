/-! ===== the class: acts, saying, hearing ===== -/
theorem actF_rng (ru : Nat → Nat → Int32) (hs hm : Nat → Int32) (hv : Nat → Nat → Int32) (mo : Nat → Int32) (r : Nat) : (actF ru hs hm hv mo r).1 = 0 ∨ ((actF ru hs hm hv mo r).1 = 1 ∨ (actF ru hs hm hv mo r).1 = 2 ∨ (actF ru hs hm hv mo r).1 = 3 ∨ (actF ru hs hm hv mo r).1 = 4) ∧ (actF ru hs hm hv mo r).2 = mo := by
  unfold actF
  repeat' split
  all_goals first
    | exact Or.inl rfl
    | exact Or.inr ⟨Or.inl rfl, rfl⟩
    | exact Or.inr ⟨Or.inr (Or.inl rfl), rfl⟩
    | exact Or.inr ⟨Or.inr (Or.inr (Or.inl rfl)), rfl⟩
    | exact Or.inr ⟨Or.inr (Or.inr (Or.inr rfl)), rfl⟩
def sayF1 (ru : Nat → Nat → Int32) (r : Nat) (q : Int32 × (Nat → Int32)) : Int32 × (Nat → Int32) := if q.1 = 0 then (zi r, va_up (va_up q.2 0 (if ru r 8 < 0 then q.2 0 else ru r 8)) 3 (ru r 7)) else (-1 - q.1, q.2)
def sayF (nr : Nat) (ru : Nat → Nat → Int32) (hs hm : Nat → Int32) (hv : Nat → Nat → Int32) (mo : Nat → Int32) (w : Int32) : Int32 × (Nat → Int32) :=
  if w < 0 ∨ ffit nr ru mo w = nr then (-1, va_up mo 3 (-1)) else sayF1 ru (ffit nr ru mo w) (actF ru hs hm hv mo (ffit nr ru mo w))
section
variable {b : Nat} {S V : Nat → Nat → Int32} {Q : Nat → Option Nat} {g : ZH} {o : Nat}
theorem X10_act {r : Nat} (hM : isM o) (hr : r < 30) (hok : actOK (cru S r 4) (cru S r 5) (cru S r 6)) (hHI : HI (chs S) (chm S)) : f_X10_act (Cl b S V Q g) (b + 4) (b + (13 + r)) (b + o) = some ((actF (cru S) (chs S) (chm S) (chv V) (amo S V o) r).1, Cl b (mS S o (actF (cru S) (chs S) (chm S) (chv V) (amo S V o) r).2) (mV V o (actF (cru S) (chs S) (chm S) (chv V) (amo S V o) r).2) Q g) := by
  have take : ∀ {ka : Nat} {x wanted : Int32}, ka < 4 → (wanted = 1 ∧ x = 0 ∨ wanted = 2) → f_X10_takeItem (Cl b S V Q g) (b + 4) (zi ka) wanted x (b + o) = some (if chs S ka = wanted then (if (0 : Int32) ≤ x ∧ x ≤ chm S ka - 1 then (0, Cl b (mS S o (va_up (amo S V o) 11 (chv V ka x.toNatClampNeg))) (mV V o (va_up (amo S V o) 11 (chv V ka x.toNatClampNeg))) Q g) else (3, Cl b S V Q g)) else (if chs S ka = 0 then 1 else 2, Cl b S V Q g)) := by
    intro ka x wanted hka hw
    unfold f_X10_takeItem
    rw [if_neg (zi_neg (by omega)), cgR_4_3, Option.bind_some, cN_12, Option.bind_some, if_pos ((zi_lt (by omega) (by decide)).mpr hka), Option.bind_some, cl_ho hka, Option.bind_some, cO_ho hka]
    unfold f_X3_faultAt
    rw [cgI_ho_1 hka, Option.bind_some, show S (43 + 2 * ka) 1 = chs S ka from rfl]
    by_cases h0 : chs S ka = 0
    · have hne : ¬ chs S ka = wanted := by
        rw [h0]
        rcases hw with ⟨rfl, -⟩ | rfl <;> decide
      rw [if_pos h0, Option.bind_some, if_neg (by decide), if_neg hne, if_pos h0]
    · rw [if_neg h0, Option.bind_some]
      by_cases h1 : chs S ka = wanted
      · rw [if_pos h1, if_pos h1, cgI_ho_2 hka, Option.bind_some, show S (43 + 2 * ka) 2 = chm S ka from rfl]
        have hc : ∃ c, 1 ≤ c ∧ c ≤ 4 ∧ chm S ka = zi c := by
          rcases hHI ka hka with q | ⟨-, q⟩ | ⟨-, q⟩
          · exact absurd q h0
          · exact ⟨1, by omega, by omega, q⟩
          · exact q
        obtain ⟨c, hc1, hc4, ec⟩ := hc
        rw [ec, show zi c - (1 : Int32) = zi (c - 1) from zi_sub (b := 1) hc1]
        by_cases hx : x < 0
        · rw [if_pos hx, Option.bind_some, if_neg (by decide), if_neg]
          intro q
          have q1 := Int32.le_iff_toInt_le.mp q.1
          rw [Int32.lt_iff_toInt_lt] at hx
          omega
        · rw [if_neg hx]
          obtain ⟨ex, hxb⟩ := zi_of hx
          generalize x.toNatClampNeg = k at ex hxb ⊢
          subst ex
          by_cases hk : k < c
          · rw [if_pos ((zi_lt hxb (by omega)).mpr hk), Option.bind_some, if_pos rfl, if_pos ⟨(zi_Lle hxb (by decide)).mpr (Nat.zero_le _), (zi_le hxb (by omega)).mpr (by omega)⟩, Option.bind_some, cl_ho hka, Option.bind_some, cO_ho hka]
            unfold f_X3_item
            rw [if_neg (zi_neg hxb), cgR_ho hka, Option.bind_some, cN_ho hka, Option.bind_some, if_pos ((zi_lt hxb (by decide)).mpr (by omega)), Option.bind_some, cl_hi hka (by omega), Option.bind_some, Option.bind_some, cM_O hM, show (7 : Int32) = zi 7 from rfl, X4_setFlag hM (by decide), Option.bind_some]
            rfl
          · rw [if_neg (fun q => hk ((zi_lt hxb (by omega)).mp q)), Option.bind_some, if_neg (by decide), if_neg (fun q => absurd ((zi_le hxb (by omega)).mp q.2) (by omega))]
      · rw [if_neg h1, if_neg h1, if_neg h0, Option.bind_some, if_neg (by decide)]
  unfold f_X10_act actF
  rw [cgI_ru_4 hr, Option.bind_some, show S (13 + r) 4 = cru S r 4 from rfl]
  have e5 : ∀ {S' V' : Nat → Nat → Int32}, S' (13 + r) 5 = cru S r 5 → zg_I (Cl b S' V' Q g) (b + (13 + r)) 4 5 = some (cru S r 5) := fun h => by rw [cgI_ru_5 hr, h]
  have e6 : ∀ {S' V' : Nat → Nat → Int32}, S' (13 + r) 6 = cru S r 6 → zg_I (Cl b S' V' Q g) (b + (13 + r)) 4 6 = some (cru S r 6) := fun h => by rw [cgI_ru_6 hr, h]
  rw [e5 rfl, e6 rfl]
  have hne : o ≠ 13 + r := by
    intro e
    unfold isM at hM
    omega
  have e5' : ∀ {S' V' : Nat → Nat → Int32}, (∀ q, q ≠ o → S' q = S q) → zg_I (Cl b S' V' Q g) (b + (13 + r)) 4 5 = some (cru S r 5) := fun h => e5 (by rw [h _ (Ne.symm hne)]; rfl)
  have e6' : ∀ {S' V' : Nat → Nat → Int32}, (∀ q, q ≠ o → S' q = S q) → zg_I (Cl b S' V' Q g) (b + (13 + r)) 4 6 = some (cru S r 6) := fun h => e6 (by rw [h _ (Ne.symm hne)]; rfl)
  generalize cru S r 5 = a at hok e5 e5' ⊢
  generalize cru S r 6 = c at hok e6 e6' ⊢
  generalize cru S r 4 = act at hok ⊢
  rcases hok with rfl | ⟨rfl, ⟨ha0, ha1⟩, hb⟩ | ⟨rfl, ⟨ha0, ha1⟩, hb0, hb1⟩ | ⟨rfl, ⟨ha0, ha1⟩, hb0, hb1⟩ | ⟨rfl, ha0, ha1⟩ | ⟨rfl, ⟨ha0, ha1⟩, hb0, hb1⟩ | ⟨rfl, ha0, ha1⟩
  · rw [if_neg (by decide), if_neg (by decide), if_neg (by decide), if_neg (by decide), if_neg (by decide), if_neg (by decide), if_neg (by decide), if_neg (by decide), if_neg (by decide), if_neg (by decide), if_neg (by decide), if_neg (by decide), mS_id, mV_id]
  · obtain ⟨ka, hka, rfl⟩ := zi_rng (u := 7) ha0 ha1 (by decide)
    rw [if_pos rfl, if_pos rfl, Option.bind_some, Option.bind_some, cM_O hM, X4_flag hM (by omega), Option.bind_some, Option.bind_some, cM_O hM, X4_setFlag hM (by omega), Option.bind_some, zi_nat (by omega)]
  · obtain ⟨ka, hka, rfl⟩ := zi_rng (u := 7) ha0 ha1 (by decide)
    obtain ⟨kb, hkb, rfl⟩ := zi_rng (u := 7) hb0 hb1 (by decide)
    rw [if_neg (by decide), if_pos rfl, if_neg (by decide), if_pos rfl, cO_4]
    unfold f_X10_divide
    rw [e6' (fun _ _ => rfl), e5' (fun _ _ => rfl), Option.bind_some, cM_O hM, X4_flag hM (by omega), Option.bind_some, zi_nat (by omega), zi_nat (by omega)]
    by_cases h0 : amo S V o (4 + kb) = 0
    · rw [if_pos h0, if_pos h0, Option.bind_some, mS_id, mV_id]
    · rw [if_neg h0, if_neg h0, Option.bind_some, zz_ne, if_neg h0, cM_O hM, X4_setFlag hM (by omega), Option.bind_some, Option.bind_some]
  · obtain ⟨ka, hka, rfl⟩ := zi_rng (u := 3) ha0 ha1 (by decide)
    obtain ⟨kb, hkb, rfl⟩ := zi_rng (u := 7) hb0 hb1 (by decide)
    rw [if_neg (by decide), if_neg (by decide), if_pos rfl, if_neg (by decide), if_neg (by decide), if_pos rfl, Option.bind_some, Option.bind_some, cM_O hM, X4_flag hM (by omega), Option.bind_some, cO_4, take (by omega) (Or.inr rfl), Option.bind_some, zi_nat (by omega), zi_nat (by omega)]
    by_cases h2 : chs S ka = 2
    · rw [if_pos h2, if_pos h2]
      by_cases h3 : (0 : Int32) ≤ amo S V o (4 + kb) ∧ amo S V o (4 + kb) ≤ chm S ka - 1
      · rw [if_pos h3, if_pos h3]
      · rw [if_neg h3, if_neg h3, mS_id, mV_id]
    · rw [if_neg h2, if_neg h2, mS_id, mV_id]
  · obtain ⟨ka, hka, rfl⟩ := zi_rng (u := 3) ha0 ha1 (by decide)
    rw [if_neg (by decide), if_neg (by decide), if_neg (by decide), if_pos rfl, if_neg (by decide), if_neg (by decide), if_neg (by decide), if_pos rfl, Option.bind_some, cO_4, take (by omega) (Or.inl ⟨rfl, rfl⟩), Option.bind_some, zi_nat (by omega)]
    by_cases h2 : chs S ka = 1
    · have h3 : (0 : Int32) ≤ 0 ∧ (0 : Int32) ≤ chm S ka - 1 := by
        rcases hHI ka (by omega) with q | ⟨-, q⟩ | ⟨q, -⟩
        · rw [h2] at q
          exact absurd q (by decide)
        · rw [q]
          decide
        · rw [h2] at q
          exact absurd q (by decide)
      rw [if_pos h2, if_pos h2, if_pos h3]
      rfl
    · rw [if_neg h2, if_neg h2, mS_id, mV_id]
  · obtain ⟨ka, hka, rfl⟩ := zi_rng (u := 7) ha0 ha1 (by decide)
    have hb : ¬ c = 0 := by
      intro e
      subst e
      exact absurd hb0 (by decide)
    rw [if_neg (by decide), if_neg (by decide), if_neg (by decide), if_neg (by decide), if_pos rfl, if_neg (by decide), if_neg (by decide), if_neg (by decide), if_neg (by decide), if_pos rfl, cM_2 hM, Option.bind_some]
    unfold f_X10_nextSeed f_X10_drawn
    rw [Option.bind_some, cM_p2 _ hM, Option.bind_some, e5' (fun q hq => up_ne _ _ hq), Option.bind_some, cM_2 hM, Option.bind_some, e6' (fun q hq => up_ne _ _ hq), Option.bind_some, if_pos hb0, zz_ne, if_neg hb, Option.bind_some, cM_O hM]
    rw [show va_up S o (va_up (S o) 2 (S o 2 * 1103515245 + 12345)) o 2 = S o 2 * 1103515245 + 12345 from by rw [up_self, up_self]]
    have h9 := X4_setFlag (b := b) (S := va_up S o (va_up (S o) 2 (S o 2 * 1103515245 + 12345))) (V := V) (Q := Q) (g := g) (j := ka) (v := ((((S o 2 * 1103515245 + 12345 : Int32).toUInt32 >>> ((16 : Int32).toUInt32 &&& Int32.toUInt32 31)).toInt32 &&& (32767 : Int32)) - (((S o 2 * 1103515245 + 12345 : Int32).toUInt32 >>> ((16 : Int32).toUInt32 &&& Int32.toUInt32 31)).toInt32 &&& (32767 : Int32)) / c * c)) hM (by omega)
    rw [h9, Option.bind_some, zi_nat (by omega)]
    have em : amo (va_up S o (va_up (S o) 2 (S o 2 * 1103515245 + 12345))) V o = va_up (amo S V o) 2 (amo S V o 2 * 1103515245 + 12345) := by
      have h8 := amo_m (S := S) (V := V) (o := o) (mo := va_up (amo S V o) 2 (amo S V o 2 * 1103515245 + 12345))
      rw [mS_2, mV_lo (by decide)] at h8
      exact h8
    rw [em]
    rw [show va_up S o (va_up (S o) 2 (S o 2 * 1103515245 + 12345)) = mS S o (va_up (amo S V o) 2 (S o 2 * 1103515245 + 12345)) from (mS_2 _).symm, mS_mS]
    rfl
  · rw [if_neg (by decide), if_neg (by decide), if_neg (by decide), if_neg (by decide), if_neg (by decide), if_pos rfl, if_neg (by decide), if_neg (by decide), if_neg (by decide), if_neg (by decide), if_neg (by decide), if_pos rfl, Option.bind_some, cM_p3 _ hM, Option.bind_some, mS_1, mV_lo (by decide)]
theorem X1_has_words {w : Int32} {nw : Nat} (hnw : S 5 3 = zi nw) (hn : nw ≤ 16) : f_X1_has (Cl b S V Q g) (b + 5) w = some (b01 ((0 : Int32) ≤ w ∧ w < zi nw)) := by
  unfold f_X1_has
  by_cases h0 : w < 0
  · rw [if_pos h0, b01_f]
    intro q
    have q1 := Int32.le_iff_toInt_le.mp q.1
    rw [Int32.lt_iff_toInt_lt] at h0
    omega
  · rw [if_neg h0, cgI_5_3, Option.bind_some, hnw]
    obtain ⟨e, hb⟩ := zi_of h0
    generalize w.toNatClampNeg = k at e hb
    subst e
    by_cases h1 : k < nw
    · rw [if_neg (fun q => absurd ((zi_le (by omega) hb).mp q) (by omega)), cgR_5_2, Option.bind_some, cN_7, Option.bind_some, if_neg (fun q => absurd ((zi_le (by decide) hb).mp q) (by omega)), b01_t ⟨(zi_Lle hb (by decide)).mpr (Nat.zero_le _), (zi_lt hb (by omega)).mpr h1⟩]
    · rw [if_pos ((zi_le (by omega) hb).mpr (by omega)), b01_f (fun q => h1 ((zi_lt hb (by omega)).mp q.2))]
theorem ffit_none {nr nw nt : Nat} {ru : Nat → Nat → Int32} {mo : Nat → Int32} {w : Int32} (hRI : RI nr ru nw nt) (hn : nw ≤ 16) (h : ¬ w < zi nw) : ffit nr ru mo w = nr := by
  unfold ffit
  refine fsr_eq (Nat.zero_le _) (by omega) (fun j _ hj => ?_) (fun h => by omega)
  refine decide_eq_false (fun q => ?_)
  obtain ⟨-, ⟨k, hk, e⟩, -⟩ := hRI j hj
  rw [q.1, e] at h
  exact h ((zi_lt (by omega) (by omega)).mpr hk)
theorem X10_say {nr nw nt : Nat} {w : Int32} (hM : isM o) (hnr : S 4 4 = zi nr) (hn30 : nr ≤ 30) (hnw : S 5 3 = zi nw) (hn16 : nw ≤ 16) (hRI : RI nr (cru S) nw nt) (hHI : HI (chs S) (chm S)) : f_X10_say (Cl b S V Q g) (b + 4) (b + o) w = some ((sayF nr (cru S) (chs S) (chm S) (chv V) (amo S V o) w).1, Cl b (mS S o (sayF nr (cru S) (chs S) (chm S) (chv V) (amo S V o) w).2) (mV V o (sayF nr (cru S) (chs S) (chm S) (chv V) (amo S V o) w).2) Q g) := by
  have J35 : ∀ h : ZH, f_X10_say_J35 h (b + 4) (b + o) w (Cl b S V Q g) = some (-1, Cl b (mS S o (va_up (amo S V o) 3 (-1))) (mV V o (va_up (amo S V o) 3 (-1))) Q g) := by
    intro h
    unfold f_X10_say_J35
    rw [cM_p4 _ hM, Option.bind_some, mS_3, mV_lo (by decide)]
  have Jn : ∀ h : ZH, f_X10_say_J21 h (b + 4) (b + o) w (-1) (Cl b S V Q g) = some (-1, Cl b (mS S o (va_up (amo S V o) 3 (-1))) (mV V o (va_up (amo S V o) 3 (-1))) Q g) := by
    intro h
    unfold f_X10_say_J21
    rw [if_pos (by decide), J35]
  have hne : ∀ r, r < 30 → o ≠ 13 + r := by
    intro r hr e
    unfold isM at hM
    omega
  have Jk : ∀ (h : ZH) (r : Nat), r < nr → f_X10_say_J21 h (b + 4) (b + o) w (zi r) (Cl b S V Q g) = some ((sayF1 (cru S) r (actF (cru S) (chs S) (chm S) (chv V) (amo S V o) r)).1, Cl b (mS S o (sayF1 (cru S) r (actF (cru S) (chs S) (chm S) (chv V) (amo S V o) r)).2) (mV V o (sayF1 (cru S) r (actF (cru S) (chs S) (chm S) (chv V) (amo S V o) r)).2) Q g) := by
    intro h r hr
    obtain ⟨-, -, -, hok, -, ⟨ht0, ht1⟩⟩ := hRI r hr
    unfold f_X10_say_J21
    rw [if_neg (zi_neg (by omega)), cgR_4_2, Option.bind_some, cN_11, Option.bind_some, if_pos ((zi_lt (by omega) (by decide)).mpr (by omega)), Option.bind_some, cl_ru (by omega), Option.bind_some, cO_4, X10_act hM (by omega) hok hHI, Option.bind_some]
    unfold sayF1
    generalize actF (cru S) (chs S) (chm S) (chv V) (amo S V o) r = q
    dsimp only
    by_cases hq : q.1 = 0
    · rw [if_pos hq, if_pos hq, cgI_ru_8 (by omega), Option.bind_some]
      have rowR : ∀ mo : Nat → Int32, mS S o mo (13 + r) = S (13 + r) := fun mo => up_ne _ _ (Ne.symm (hne r (by omega)))
      have J87 : ∀ mo : Nat → Int32, f_X10_say_J87 h (b + 4) (b + o) w (zi r) (b + (13 + r)) (Cl b (mS S o mo) (mV V o mo) Q g) = some (zi r, Cl b (mS S o (va_up mo 3 (cru S r 7))) (mV V o (va_up mo 3 (cru S r 7))) Q g) := by
        intro mo
        unfold f_X10_say_J87
        rw [cgI_ru_7 (by omega), Option.bind_some, cM_p4 _ hM, Option.bind_some, rowR]
        have h1 := mS_3 (S := mS S o mo) (V := mV V o mo) (o := o) (S (13 + r) 7)
        have h2 := mV_lo (S := mS S o mo) (V := mV V o mo) (o := o) (k := 3) (by decide) (S (13 + r) 7)
        rw [amo_m, mS_mS] at h1
        rw [amo_m, mV_mV] at h2
        rw [← h1, show mV V o mo = mV V o (va_up mo 3 (S (13 + r) 7)) from h2.symm]
        rfl
      rw [rowR, show S (13 + r) 8 = cru S r 8 from rfl]
      by_cases h8 : cru S r 8 = -1
      · rw [if_pos h8, J87, if_pos (by rw [h8]; decide), up_id]
      · have h9 : ¬ cru S r 8 < 0 := by
          intro q9
          apply h8
          rw [Int32.le_iff_toInt_le] at ht0
          rw [Int32.lt_iff_toInt_lt] at q9
          rw [← Int32.toInt_inj]
          have e1 : (-1 : Int32).toInt = -1 := rfl
          have e2 : (0 : Int32).toInt = 0 := rfl
          omega
        rw [if_neg h8, Option.bind_some, cM_p1 _ hM, Option.bind_some, if_neg h9]
        have h1 := mS_0 (S := mS S o q.2) (V := mV V o q.2) (o := o) (cru S r 8)
        have h2 := mV_lo (S := mS S o q.2) (V := mV V o q.2) (o := o) (k := 0) (by decide) (cru S r 8)
        rw [amo_m, mS_mS] at h1
        rw [amo_m, mV_mV] at h2
        rw [← h1, show mV V o q.2 = mV V o (va_up q.2 0 (cru S r 8)) from h2.symm, J87]
    · rw [if_neg hq, if_neg hq]
  unfold f_X10_say sayF
  rw [cgR_4_0, Option.bind_some, cO_5, X1_has_words hnw hn16, Option.bind_some]
  by_cases hw : w < 0
  · rw [if_pos (Or.inl hw), b01_f (fun q => by
      have q1 := Int32.le_iff_toInt_le.mp q.1
      rw [Int32.lt_iff_toInt_lt] at hw
      omega), if_pos rfl, Jn]
  · by_cases hw2 : w < zi nw
    · rw [b01_t ⟨by rw [Int32.le_iff_toInt_le]; rw [Int32.lt_iff_toInt_lt] at hw; omega, hw2⟩, if_neg (by decide), cO_4, X10_firstThatFits hM hnr hn30 hRI, Option.bind_some]
      by_cases hf : ffit nr (cru S) (amo S V o) w = nr
      · rw [if_pos hf, if_pos (Or.inr hf), Jn]
      · rw [if_neg hf, if_neg (fun q => q.elim hw hf), Jk]
        obtain ⟨-, g2, -⟩ := fsr_spec (fun r => decide (fitsP (cru S) (amo S V o) w r)) nr 0
        rw [show fsr (fun r => decide (fitsP (cru S) (amo S V o) w r)) nr 0 = ffit nr (cru S) (amo S V o) w from rfl] at g2
        omega
    · rw [b01_f (fun q => hw2 q.2), if_pos rfl, if_pos (Or.inr (ffit_none hRI hn16 hw2)), Jn]
end
