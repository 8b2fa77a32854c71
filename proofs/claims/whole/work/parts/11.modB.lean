theorem zi_rng {x : Int32} {u : Nat} (h0 : (0 : Int32) ≤ x) (hu : x ≤ zi u) (hb : u < 2147483648) : ∃ k, k ≤ u ∧ x = zi k := by
  have h1 : ¬ x < 0 := by
    rw [Int32.lt_iff_toInt_lt]
    rw [Int32.le_iff_toInt_le] at h0
    omega
  obtain ⟨e, hk⟩ := zi_of h1
  refine ⟨x.toNatClampNeg, ?_, e⟩
  rw [e, zi_le hk hb] at hu
  exact hu
/-! ===== what an act does to a moment ===== -/
def actF (ru : Nat → Nat → Int32) (hs hm : Nat → Int32) (hv : Nat → Nat → Int32) (mo : Nat → Int32) (r : Nat) : Int32 × (Nat → Int32) :=
  if ru r 4 = 1 then (0, va_up mo (4 + (ru r 5).toNatClampNeg) (mo (4 + (ru r 5).toNatClampNeg) + ru r 6))
  else if ru r 4 = 2 then (if mo (4 + (ru r 6).toNatClampNeg) = 0 then (4, mo) else (0, va_up mo (4 + (ru r 5).toNatClampNeg) (12 / mo (4 + (ru r 6).toNatClampNeg))))
  else if ru r 4 = 3 then (if hs (ru r 5).toNatClampNeg = 2 then (if (0 : Int32) ≤ mo (4 + (ru r 6).toNatClampNeg) ∧ mo (4 + (ru r 6).toNatClampNeg) ≤ hm (ru r 5).toNatClampNeg - 1 then (0, va_up mo 11 (hv (ru r 5).toNatClampNeg (mo (4 + (ru r 6).toNatClampNeg)).toNatClampNeg)) else (3, mo)) else (if hs (ru r 5).toNatClampNeg = 0 then 1 else 2, mo))
  else if ru r 4 = 4 then (if hs (ru r 5).toNatClampNeg = 1 then (0, va_up mo 11 (hv (ru r 5).toNatClampNeg 0)) else (if hs (ru r 5).toNatClampNeg = 0 then 1 else 2, mo))
  else if ru r 4 = 5 then (0, va_up (va_up mo 2 (mo 2 * 1103515245 + 12345)) (4 + (ru r 5).toNatClampNeg) (((((mo 2 * 1103515245 + 12345 : Int32).toUInt32 >>> ((16 : Int32).toUInt32 &&& Int32.toUInt32 31)).toInt32) &&& (32767 : Int32)) - ((((mo 2 * 1103515245 + 12345 : Int32).toUInt32 >>> ((16 : Int32).toUInt32 &&& Int32.toUInt32 31)).toInt32) &&& (32767 : Int32)) / ru r 6 * ru r 6))
  else if ru r 4 = 6 then (0, va_up mo 1 (ru r 5))
  else (0, mo)
/-- what act, a and b of a rule must keep -/
def actOK (act a b : Int32) : Prop := act = 0 ∨ (act = 1 ∧ (0 ≤ a ∧ a ≤ 7) ∧ (-1000 ≤ b ∧ b ≤ 1000)) ∨ (act = 2 ∧ (0 ≤ a ∧ a ≤ 7) ∧ (0 ≤ b ∧ b ≤ 7)) ∨ (act = 3 ∧ (0 ≤ a ∧ a ≤ 3) ∧ (0 ≤ b ∧ b ≤ 7)) ∨ (act = 4 ∧ (0 ≤ a ∧ a ≤ 3)) ∨ (act = 5 ∧ (0 ≤ a ∧ a ≤ 7) ∧ (1 ≤ b ∧ b ≤ 100)) ∨ (act = 6 ∧ (1 ≤ a ∧ a ≤ 9))
section
variable {m : Nat} {S : Nat → Int32} {V : Nat → Nat → Int32} {g : ZH}
def mru (V : Nat → Nat → Int32) : Nat → Nat → Int32 := fun r j => V (11 + j) r
def mhv (V : Nat → Nat → Int32) : Nat → Nat → Int32 := fun a j => V 24 a + zi j
theorem X12_drawn {h : ZH} {x : Int32} : f_X12_drawn h x = some (x * 1103515245 + 12345) := rfl
theorem X12_acts {r : Nat} (hr : r < 30) (hok : actOK (V 15 r) (V 16 r) (V 17 r)) : f_X12_acts (Rm m S V g) m (zi r) = some ((actF (mru V) (V 22) (V 23) (mhv V) (V 28) r).1, Rm m S (va_up V 28 (actF (mru V) (V 22) (V 23) (mhv V) (V 28) r).2) g) := by
  unfold f_X12_acts actF
  rw [rgR_16, Option.bind_some, rl_16 hr, Option.bind_some, rgR_17, Option.bind_some, rl_17 hr, Option.bind_some, rgR_15, Option.bind_some, rl_15 hr, Option.bind_some]
  rw [show mru V r 4 = V 15 r from rfl, show mru V r 5 = V 16 r from rfl, show mru V r 6 = V 17 r from rfl]
  generalize V 16 r = a at hok ⊢
  generalize V 17 r = b at hok ⊢
  generalize V 15 r = act at hok ⊢
  rcases hok with rfl | ⟨rfl, ⟨ha0, ha1⟩, hb⟩ | ⟨rfl, ⟨ha0, ha1⟩, hb0, hb1⟩ | ⟨rfl, ⟨ha0, ha1⟩, hb0, hb1⟩ | ⟨rfl, ha0, ha1⟩ | ⟨rfl, ⟨ha0, ha1⟩, hb0, hb1⟩ | ⟨rfl, ha0, ha1⟩
  · rw [if_neg (by decide), if_neg (by decide), if_neg (by decide), if_neg (by decide), if_neg (by decide), if_neg (by decide), if_neg (by decide), if_neg (by decide), if_neg (by decide), if_neg (by decide), if_neg (by decide), if_neg (by decide), up_id]
  · obtain ⟨ka, hka, rfl⟩ := zi_rng (u := 7) ha0 ha1 (by decide)
    rw [if_pos rfl, if_pos rfl]
    simp (disch := omega) only [rgR_28, rl_28, rs_28, zi_Ladd, zi_nat, Option.bind_some]
  · obtain ⟨ka, hka, rfl⟩ := zi_rng (u := 7) ha0 ha1 (by decide)
    obtain ⟨kb, hkb, rfl⟩ := zi_rng (u := 7) hb0 hb1 (by decide)
    rw [if_neg (by decide), if_pos rfl, if_neg (by decide), if_pos rfl]
    simp (disch := omega) only [rgR_28, rl_28, rs_28, zi_Ladd, zi_nat, Option.bind_some]
    by_cases h0 : V 28 (4 + kb) = 0
    · rw [if_pos h0, if_pos h0, up_id]
    · rw [if_neg h0, if_neg h0, zz_ne, if_neg h0]
  · obtain ⟨ka, hka, rfl⟩ := zi_rng (u := 3) ha0 ha1 (by decide)
    obtain ⟨kb, hkb, rfl⟩ := zi_rng (u := 7) hb0 hb1 (by decide)
    rw [if_neg (by decide), if_neg (by decide), if_pos rfl, if_neg (by decide), if_neg (by decide), if_pos rfl]
    simp (disch := omega) only [rgR_28, rl_28, rsL_28, rgR_22, rl_22, rgR_23, rl_23, rgR_24, rl_24, zi_Ladd, zi_nat, Option.bind_some, in_0_v, b01_0]
    by_cases h2 : V 22 ka = 2
    · rw [if_pos h2, if_pos h2]
      by_cases h3 : (0 : Int32) ≤ V 28 (4 + kb) ∧ V 28 (4 + kb) ≤ V 23 ka - 1
      · rw [if_neg (fun q => q h3), if_pos h3]
        obtain ⟨e, -⟩ := zi_of (x := V 28 (4 + kb)) (by
          have := Int32.le_iff_toInt_le.mp h3.1
          rw [Int32.lt_iff_toInt_lt]
          omega)
        rw [show mhv V ka (V 28 (4 + kb)).toNatClampNeg = V 24 ka + V 28 (4 + kb) from by unfold mhv; rw [← e]]
      · rw [if_pos h3, if_neg h3, up_id]
    · rw [if_neg h2, if_neg h2, up_id]
      by_cases h3 : V 22 ka = 0
      · rw [if_pos h3, if_pos h3]
      · rw [if_neg h3, if_neg h3]
  · obtain ⟨ka, hka, rfl⟩ := zi_rng (u := 3) ha0 ha1 (by decide)
    rw [if_neg (by decide), if_neg (by decide), if_neg (by decide), if_pos rfl, if_neg (by decide), if_neg (by decide), if_neg (by decide), if_pos rfl]
    simp (disch := omega) only [rgR_28, rsL_28, rgR_22, rl_22, rgR_24, rl_24, zi_nat, Option.bind_some]
    by_cases h2 : V 22 ka = 1
    · rw [if_pos h2, if_pos h2]
      rw [show mhv V ka 0 = V 24 ka from Int32.add_zero _]
    · rw [if_neg h2, if_neg h2, up_id]
      by_cases h3 : V 22 ka = 0
      · rw [if_pos h3, if_pos h3]
      · rw [if_neg h3, if_neg h3]
  · obtain ⟨ka, hka, rfl⟩ := zi_rng (u := 7) ha0 ha1 (by decide)
    rw [if_neg (by decide), if_neg (by decide), if_neg (by decide), if_neg (by decide), if_pos rfl, if_neg (by decide), if_neg (by decide), if_neg (by decide), if_neg (by decide), if_pos rfl]
    have hb : ¬ b = 0 := by
      intro e
      subst e
      exact absurd hb0 (by decide)
    simp (disch := omega) only [rgR_28, rlL_28, rsL_28, rs_28, zi_Ladd, zi_nat, Option.bind_some, X12_drawn, up_self, up_up, zz_ne, if_neg hb]
  · rw [if_neg (by decide), if_neg (by decide), if_neg (by decide), if_neg (by decide), if_neg (by decide), if_pos rfl, if_neg (by decide), if_neg (by decide), if_neg (by decide), if_neg (by decide), if_neg (by decide), if_pos rfl]
    simp (disch := omega) only [rgR_28, rsL_28, Option.bind_some]
/-! ===== saying a word ===== -/
abbrev fitsP (ru : Nat → Nat → Int32) (mo : Nat → Int32) (w : Int32) (r : Nat) : Prop := w = ru r 1 ∧ (ru r 0 < 0 ∨ ru r 0 = mo 0) ∧ (ru r 2 < 0 ∨ ru r 3 ≤ mo (4 + (ru r 2).toNatClampNeg))
def ffit (nr : Nat) (ru : Nat → Nat → Int32) (mo : Nat → Int32) (w : Int32) : Nat := fsr (fun r => decide (fitsP ru mo w r)) nr 0
def sn (S : Nat → Int32) : Int32 := if S 27 = 0 then 0 else 1
def showV (S : Nat → Int32) (V : Nat → Nat → Int32) (t : Int32) (k : Nat) : Nat → Nat → Int32 := va_up (va_up V 28 (va_up (V 28) 3 t)) 21 (va_up (V 21) k (V 21 k + sn S))
theorem X12_shows_n : f_X12_shows (Rm m S V g) m (-1) = some (Rm m S (showV S V (-1) 24) g) := by
  unfold f_X12_shows showV sn
  rw [rgR_28, Option.bind_some, rsL_28 _ (by decide), Option.bind_some, rgR_21, Option.bind_some, if_neg (by decide)]
  unfold f_X12_shows_J21
  rw [rlL_21 (by decide), Option.bind_some, rgI_27, Option.bind_some]
  unfold f_X12_shows_J35
  rw [rsL_21 _ (by decide), rsL_21 _ (by decide), Option.bind_some, Option.bind_some]
  by_cases h : S 27 = 0
  · rw [if_pos h, if_pos h]
    rfl
  · rw [if_neg h, if_neg h]
    rfl
theorem X12_shows_k {k : Nat} (hk : k < 24) : f_X12_shows (Rm m S V g) m (zi k) = some (Rm m S (showV S V (zi k) k) g) := by
  unfold f_X12_shows showV sn
  rw [rgR_28, Option.bind_some, rsL_28 _ (by decide), Option.bind_some, rgR_21, Option.bind_some, if_pos ((zi_Lle (by omega) (by decide)).mpr (Nat.zero_le _))]
  unfold f_X12_shows_J21
  rw [rl_21 (by omega), Option.bind_some, rgI_27, Option.bind_some]
  unfold f_X12_shows_J35
  rw [rs_21 _ (by omega), rs_21 _ (by omega), Option.bind_some, Option.bind_some]
  by_cases h : S 27 = 0
  · rw [if_pos h, if_pos h]
    rfl
  · rw [if_neg h, if_neg h]
    rfl
/-- what the rules keep -/
def RI (nr : Nat) (ru : Nat → Nat → Int32) (nw nt : Nat) : Prop := ∀ r, r < nr → ((-1 : Int32) ≤ ru r 0 ∧ ru r 0 ≤ 7) ∧ (∃ k, k < nw ∧ ru r 1 = zi k) ∧ ((-1 : Int32) ≤ ru r 2 ∧ ru r 2 ≤ 7) ∧ actOK (ru r 4) (ru r 5) (ru r 6) ∧ (∃ k, k < nt ∧ ru r 7 = zi k) ∧ ((-1 : Int32) ≤ ru r 8 ∧ ru r 8 ≤ 7)
def saysM1 (S : Nat → Int32) (V : Nat → Nat → Int32) (r : Nat) (q : Int32 × (Nat → Int32)) : Int32 × (Nat → Int32) × (Nat → Nat → Int32) :=
  if q.1 ≤ 0 then (0, S, showV S (va_up (va_up V 28 (va_up q.2 0 (if V 19 r < 0 then q.2 0 else V 19 r))) 20 (va_up (V 20) r (V 20 r + sn S))) (V 18 r) (V 18 r).toNatClampNeg)
  else (q.1, va_up S 25 (if S 27 = 0 then S 25 else q.1), va_up V 28 q.2)
def saysM (S : Nat → Int32) (V : Nat → Nat → Int32) (nr : Nat) (w : Int32) : Int32 × (Nat → Int32) × (Nat → Nat → Int32) :=
  if w < 0 ∨ ffit nr (mru V) (V 28) w = nr then (0, va_up S 26 (S 26 + sn S), showV S V (-1) 24)
  else saysM1 (va_up S 26 (S 26 + sn S)) V (ffit nr (mru V) (V 28) w) (actF (mru V) (V 22) (V 23) (mhv V) (V 28) (ffit nr (mru V) (V 28) w))
theorem X12_says_J102 {h : ZH} {w : Int32} {nr nw nt r : Nat} (hnr : S 10 = zi nr) (hn30 : nr ≤ 30) (hnt : nt ≤ 24) (hRI : RI nr (mru V) nw nt) (hr : r ≤ nr) : f_X12_says_J102 h m w (zi r) (Rm m S V g) = some
    (if w < 0 ∨ r = nr then (0, Rm m S (showV S V (-1) 24) g) else ((saysM1 S V r (actF (mru V) (V 22) (V 23) (mhv V) (V 28) r)).1, Rm m (saysM1 S V r (actF (mru V) (V 22) (V 23) (mhv V) (V 28) r)).2.1 (saysM1 S V r (actF (mru V) (V 22) (V 23) (mhv V) (V 28) r)).2.2 g)) := by
  have J114 : f_X12_says_J114 h m w (Rm m S V g) = some (0, Rm m S (showV S V (-1) 24) g) := by
    unfold f_X12_says_J114
    rw [rO, X12_shows_n, Option.bind_some]
  unfold f_X12_says_J102
  by_cases hw : w < 0
  · rw [if_pos hw, if_pos (Or.inl hw), J114]
  · rw [if_neg hw, rgI_10, Option.bind_some, hnr]
    by_cases hrn : r = nr
    · rw [if_pos (by rw [hrn]), if_pos (Or.inr hrn), J114]
    · rw [if_neg (by rw [zi_eq (by omega) (by omega)]; exact hrn), if_neg (fun q => q.elim hw hrn), rO]
      have hr1 : r < nr := by omega
      obtain ⟨-, -, -, hok, ⟨kt, hkt, htx⟩, -⟩ := hRI r hr1
      rw [X12_acts (by omega) hok, Option.bind_some]
      generalize actF (mru V) (V 22) (V 23) (mhv V) (V 28) r = q
      have htx : V 18 r = zi kt := htx
      unfold saysM1
      dsimp only
      by_cases hq : q.1 ≤ 0
      · rw [if_pos hq, if_pos hq, rgR_28, Option.bind_some, rgR_19, Option.bind_some, rl_19 (by omega), Option.bind_some]
        rw [show va_up V 28 q.2 19 = V 19 from rfl]
        have J201 : ∀ (z : Int32) (V' : Nat → Nat → Int32), V' 18 = V 18 → f_X12_says_J201 h m w (zi r) z (V' 20 r) (zi r) (m + 15) (Rm m S V' g) = some (0, Rm m S (showV S (va_up V' 20 (va_up (V' 20) r (V' 20 r + z))) (V 18 r) (V 18 r).toNatClampNeg) g) := by
          intro z V' h18
          unfold f_X12_says_J201
          rw [rs_20 _ (by omega), Option.bind_some, rgR_18, Option.bind_some, rl_18 (by omega), Option.bind_some, rO]
          rw [show va_up V' 20 (va_up (V' 20) r (V' 20 r + z)) 18 = V 18 from h18, htx, X12_shows_k (by omega), Option.bind_some, zi_nat (by omega)]
        have J181 : ∀ (z : Int32), f_X12_says_J181 h m w (zi r) z 0 (m + 20) (Rm m S (va_up V 28 q.2) g) = some (0, Rm m S (showV S (va_up (va_up V 28 (va_up q.2 0 z)) 20 (va_up (V 20) r (V 20 r + sn S))) (V 18 r) (V 18 r).toNatClampNeg) g) := by
          intro z
          unfold f_X12_says_J181 sn
          rw [rsL_28 _ (by decide), Option.bind_some, rgR_20, Option.bind_some, rl_20 (by omega), Option.bind_some, rgI_27, Option.bind_some, up_up, up_self]
          by_cases hs : S 27 = 0
          · rw [if_pos hs, if_pos hs]
            exact J201 0 _ rfl
          · rw [if_neg hs, if_neg hs]
            exact J201 1 _ rfl
        by_cases h19 : V 19 r < 0
        · rw [if_neg (by rw [Int32.le_iff_toInt_le]; rw [Int32.lt_iff_toInt_lt] at h19; omega), Option.bind_some, rlL_28 (by decide), Option.bind_some, J181, if_pos h19]
          rfl
        · rw [if_pos (by rw [Int32.le_iff_toInt_le]; rw [Int32.lt_iff_toInt_lt] at h19; omega), Option.bind_some, rl_19 (by omega), Option.bind_some, J181, if_neg h19]
          rfl
      · rw [if_neg hq, if_neg hq, rgI_27, Option.bind_some]
        unfold f_X12_says_J147
        by_cases hs : S 27 = 0
        · rw [if_pos hs, if_pos hs, rgI_25, Option.bind_some, rp_25, Option.bind_some]
        · rw [if_neg hs, if_neg hs, rp_25, Option.bind_some]
theorem X12_says_L23 {h : ZH} {w : Int32} {nr nw nt r : Nat} (hnr : S 10 = zi nr) (hn30 : nr ≤ 30) (hRI : RI nr (mru V) nw nt) (hr : r < nr) : f_X12_says_L23 h m w (Rm m S V g) (zi r) = if fitsP (mru V) (V 28) w r then (f_X12_says_J102 h m w (zi r) (Rm m S V g)).map Sum.inr else some (.inl (zi (r + 1))) := by
  obtain ⟨-, -, ⟨hf0, hf1⟩, -⟩ := hRI r hr
  have hf0 : (-1 : Int32) ≤ V 13 r := hf0
  have hf1 : V 13 r ≤ 7 := hf1
  unfold f_X12_says_L23 fitsP
  rw [rgI_10, Option.bind_some, hnr, if_neg (by rw [zi_le (by omega) (by omega)]; omega), rgR_12, Option.bind_some, rl_12 (by omega), Option.bind_some]
  rw [show mru V r 0 = V 11 r from rfl, show mru V r 1 = V 12 r from rfl, show mru V r 2 = V 13 r from rfl, show mru V r 3 = V 14 r from rfl]
  by_cases h1 : w = V 12 r
  · rw [if_pos h1, rgR_11, Option.bind_some, rl_11 (by omega), Option.bind_some]
    have J65 : f_X12_says_J65 h m w (zi r) (Rm m S V g) = if (V 13 r < 0 ∨ V 14 r ≤ V 28 (4 + (V 13 r).toNatClampNeg)) then (f_X12_says_J102 h m w (zi r) (Rm m S V g)).map Sum.inr else some (.inl (zi (r + 1))) := by
      unfold f_X12_says_J65
      rw [rgR_13, Option.bind_some, rl_13 (by omega), Option.bind_some]
      by_cases h3 : V 13 r < 0
      · rw [if_pos h3, if_pos (Or.inl h3)]
      · rw [if_neg h3, rgR_28, Option.bind_some, Option.bind_some, rl_13 (by omega), Option.bind_some]
        obtain ⟨k, hk, e⟩ := zi_rng (u := 7) (x := V 13 r) (by rw [Int32.le_iff_toInt_le]; rw [Int32.lt_iff_toInt_lt] at h3; omega) hf1 (by decide)
        rw [e, zi_nat (by omega), zi_Ladd, rl_28 (by omega), Option.bind_some, rgR_14, Option.bind_some, rl_14 (by omega), Option.bind_some]
        by_cases h4 : V 14 r ≤ V 28 (4 + k)
        · rw [if_pos h4, if_pos (Or.inr h4)]
        · rw [if_neg h4, if_neg (fun q => q.elim (zi_neg (by omega)) h4), zi_one]
    by_cases h2 : V 11 r < 0
    · rw [if_pos h2, J65]
      by_cases h5 : V 13 r < 0 ∨ V 14 r ≤ V 28 (4 + (V 13 r).toNatClampNeg)
      · rw [if_pos h5, if_pos ⟨h1, Or.inl h2, h5⟩]
      · rw [if_neg h5, if_neg (fun q => h5 q.2.2)]
    · rw [if_neg h2, Option.bind_some, rl_11 (by omega), Option.bind_some, rgR_28, Option.bind_some, rlL_28 (by decide), Option.bind_some]
      by_cases h6 : V 11 r = V 28 0
      · rw [if_pos h6, J65]
        by_cases h5 : V 13 r < 0 ∨ V 14 r ≤ V 28 (4 + (V 13 r).toNatClampNeg)
        · rw [if_pos h5, if_pos ⟨h1, Or.inr h6, h5⟩]
        · rw [if_neg h5, if_neg (fun q => h5 q.2.2)]
      · rw [if_neg h6, if_neg (fun q => q.2.1.elim h2 h6), zi_one]
  · rw [if_neg h1, if_neg (fun q => h1 q.1), zi_one]
theorem X12_says {w : Int32} {nr nw nt : Nat} (hnr : S 10 = zi nr) (hn30 : nr ≤ 30) (hnt : nt ≤ 24) (hRI : RI nr (mru V) nw nt) : f_X12_says (Rm m S V g) m w = some ((saysM S V nr w).1, Rm m (saysM S V nr w).2.1 (saysM S V nr w).2.2 g) := by
  have key : ∀ (h : ZH) (S' : Nat → Int32), S' 10 = zi nr → zz_loop (fun st : (Int32) => f_X12_says_L23 h m w (Rm m S' V g) (st)) (zi 0) = some
      (if w < 0 ∨ ffit nr (mru V) (V 28) w = nr then (0, Rm m S' (showV S' V (-1) 24) g) else ((saysM1 S' V (ffit nr (mru V) (V 28) w) (actF (mru V) (V 22) (V 23) (mhv V) (V 28) (ffit nr (mru V) (V 28) w))).1, Rm m (saysM1 S' V (ffit nr (mru V) (V 28) w) (actF (mru V) (V 22) (V 23) (mhv V) (V 28) (ffit nr (mru V) (V 28) w))).2.1 (saysM1 S' V (ffit nr (mru V) (V 28) w) (actF (mru V) (V 22) (V 23) (mhv V) (V 28) (ffit nr (mru V) (V 28) w))).2.2 g)) := by
    intro h S' hS'
    obtain ⟨g1, g2, g3, g4⟩ := fsr_spec (fun r => decide (fitsP (mru V) (V 28) w r)) nr 0
    rw [show fsr (fun r => decide (fitsP (mru V) (V 28) w r)) nr 0 = ffit nr (mru V) (V 28) w from rfl] at g1 g2 g3 g4
    generalize ffit nr (mru V) (V 28) w = k at g1 g2 g3 g4 ⊢
    rw [Nat.zero_add] at g2 g4
    rw [loop_to (b := fun st : (Int32) => f_X12_says_L23 h m w (Rm m S' V g) (st)) zi 0 k g1 (fun i h1 h2 => by
      show f_X12_says_L23 h m w (Rm m S' V g) (zi i) = _
      rw [X12_says_L23 hS' hn30 hRI (by omega), if_neg (of_decide_eq_false (g3 i h1 h2))])]
    rw [zz_loop_map (o := f_X12_says_J102 h m w (zi k) (Rm m S' V g)), X12_says_J102 hS' hn30 hnt hRI g2]
    by_cases hk : k < nr
    · show f_X12_says_L23 h m w (Rm m S' V g) (zi k) = _
      rw [X12_says_L23 hS' hn30 hRI hk, if_pos (of_decide_eq_true (g4 hk))]
    · show f_X12_says_L23 h m w (Rm m S' V g) (zi k) = _
      unfold f_X12_says_L23
      rw [rgI_10, Option.bind_some, hS', if_pos (by rw [zi_le (by omega) (by omega)]; omega)]
  unfold f_X12_says saysM
  rw [rgI_26, Option.bind_some, rgI_27, Option.bind_some]
  unfold f_X12_says_J17 sn
  have e : ∀ z : Int32, ((zp_V (Rm m S V g) m 10 26 (.int (S 26 + z))).bind fun h7 => zz_loop (fun st : (Int32) => f_X12_says_L23 (Rm m S V g) m w h7 (st)) ((0 : Int32))) = zz_loop (fun st : (Int32) => f_X12_says_L23 (Rm m S V g) m w (Rm m (va_up S 26 (S 26 + z)) V g) (st)) (zi 0) := by
    intro z
    rw [rp_26]
    rfl
  by_cases hs : S 27 = 0
  · rw [if_pos hs, if_pos hs, e, key _ _ (by exact hnr)]
    by_cases hc : w < 0 ∨ ffit nr (mru V) (V 28) w = nr
    · rw [if_pos hc, if_pos hc]
      rfl
    · rw [if_neg hc, if_neg hc]
  · rw [if_neg hs, if_neg hs, e, key _ _ (by exact hnr)]
    by_cases hc : w < 0 ∨ ffit nr (mru V) (V 28) w = nr
    · rw [if_pos hc, if_pos hc]
      rfl
    · rw [if_neg hc, if_neg hc]
end
