/-! ===== class and reference: one story ===== -/
def ag (n : Nat) (f g : Nat → Int32) : Prop := ∀ k, k < n → f k = g k
theorem ag_up {n k : Nat} {f g : Nat → Int32} (h : ag n f g) (v : Int32) : ag n (va_up f k v) (va_up g k v) := by
  intro j hj
  by_cases e : j = k
  · subst e
    rw [up_self, up_self]
  · rw [up_ne _ _ e, up_ne _ _ e]
    exact h j hj
def HR (hs hm : Nat → Int32) (hv : Nat → Nat → Int32) (hs' hm' v' : Nat → Int32) : Prop := ∀ a, a < 4 → hs a = hs' a ∧ (hs a = 0 ∨ (hs a = 1 ∧ hm a = 1 ∧ hv a 0 = v' a) ∨ (hs a = 2 ∧ ∃ c, 1 ≤ c ∧ c ≤ 4 ∧ hm a = zi c ∧ hm' a = zi c ∧ ∀ j, j < c → hv a j = v' a + zi j))
theorem HR.hi {hs hm : Nat → Int32} {hv : Nat → Nat → Int32} {hs' hm' v' : Nat → Int32} (h : HR hs hm hv hs' hm' v') : HI hs hm := by
  intro a ha
  rcases (h a ha).2 with q | ⟨q, q2, -⟩ | ⟨q, c, c1, c4, e, -⟩
  · exact Or.inl q
  · exact Or.inr (Or.inl ⟨q, q2⟩)
  · exact Or.inr (Or.inr ⟨q, c, c1, c4, e⟩)
theorem actF_congr {ru ru' : Nat → Nat → Int32} {hs hm : Nat → Int32} {hv hv' : Nat → Nat → Int32} {hs' hm' v' mo mo' : Nat → Int32} {r : Nat} (hru : ∀ j, j < 9 → ru r j = ru' r j) (hok : actOK (ru r 4) (ru r 5) (ru r 6)) (hH : HR hs hm hv hs' hm' v') (hvv : ∀ a j, hv' a j = v' a + zi j) (hmo : ag 12 mo mo') :
    (actF ru hs hm hv mo r).1 = (actF ru' hs' hm' hv' mo' r).1 ∧ ag 12 (actF ru hs hm hv mo r).2 (actF ru' hs' hm' hv' mo' r).2 := by
  unfold actF
  rw [← hru 4 (by decide), ← hru 5 (by decide), ← hru 6 (by decide)]
  generalize ru r 5 = a at hok ⊢
  generalize ru r 6 = c at hok ⊢
  generalize ru r 4 = act at hok ⊢
  rcases hok with rfl | ⟨rfl, ⟨ha0, ha1⟩, hb⟩ | ⟨rfl, ⟨ha0, ha1⟩, hb0, hb1⟩ | ⟨rfl, ⟨ha0, ha1⟩, hb0, hb1⟩ | ⟨rfl, ha0, ha1⟩ | ⟨rfl, ⟨ha0, ha1⟩, hb0, hb1⟩ | ⟨rfl, ha0, ha1⟩
  · rw [if_neg (show ¬ (0 : Int32) = 1 by decide), if_neg (show ¬ (0 : Int32) = 1 by decide), if_neg (show ¬ (0 : Int32) = 2 by decide), if_neg (show ¬ (0 : Int32) = 2 by decide), if_neg (show ¬ (0 : Int32) = 3 by decide), if_neg (show ¬ (0 : Int32) = 3 by decide), if_neg (show ¬ (0 : Int32) = 4 by decide), if_neg (show ¬ (0 : Int32) = 4 by decide), if_neg (show ¬ (0 : Int32) = 5 by decide), if_neg (show ¬ (0 : Int32) = 5 by decide), if_neg (show ¬ (0 : Int32) = 6 by decide), if_neg (show ¬ (0 : Int32) = 6 by decide)]
    exact ⟨rfl, hmo⟩
  · obtain ⟨ka, hka, rfl⟩ := zi_rng (u := 7) ha0 ha1 (by decide)
    rw [if_pos (show (1 : Int32) = 1 from rfl), if_pos (show (1 : Int32) = 1 from rfl), zi_nat (by omega), hmo (4 + ka) (by omega)]
    exact ⟨rfl, ag_up hmo _⟩
  · obtain ⟨ka, hka, rfl⟩ := zi_rng (u := 7) ha0 ha1 (by decide)
    obtain ⟨kb, hkb, rfl⟩ := zi_rng (u := 7) hb0 hb1 (by decide)
    rw [if_neg (show ¬ (2 : Int32) = 1 by decide), if_neg (show ¬ (2 : Int32) = 1 by decide), if_pos (show (2 : Int32) = 2 from rfl), if_pos (show (2 : Int32) = 2 from rfl), zi_nat (by omega), zi_nat (by omega), hmo (4 + kb) (by omega)]
    by_cases h0 : mo' (4 + kb) = 0
    · rw [if_pos h0, if_pos h0]
      exact ⟨rfl, hmo⟩
    · rw [if_neg h0, if_neg h0]
      exact ⟨rfl, ag_up hmo _⟩
  · obtain ⟨ka, hka, rfl⟩ := zi_rng (u := 3) ha0 ha1 (by decide)
    obtain ⟨kb, hkb, rfl⟩ := zi_rng (u := 7) hb0 hb1 (by decide)
    rw [if_neg (show ¬ (3 : Int32) = 1 by decide), if_neg (show ¬ (3 : Int32) = 1 by decide), if_neg (show ¬ (3 : Int32) = 2 by decide), if_neg (show ¬ (3 : Int32) = 2 by decide), if_pos (show (3 : Int32) = 3 from rfl), if_pos (show (3 : Int32) = 3 from rfl), zi_nat (by omega), zi_nat (by omega), hmo (4 + kb) (by omega)]
    obtain ⟨e1, e2⟩ := hH ka (by omega)
    rw [← e1]
    by_cases h2 : hs ka = 2
    · rw [if_pos h2, if_pos h2]
      have e3 : ∃ c, 1 ≤ c ∧ c ≤ 4 ∧ hm ka = zi c ∧ hm' ka = zi c ∧ ∀ j, j < c → hv ka j = v' ka + zi j := by
        rcases e2 with q | ⟨q, -⟩ | ⟨-, q⟩
        · rw [h2] at q
          exact absurd q (by decide)
        · rw [h2] at q
          exact absurd q (by decide)
        · exact q
      obtain ⟨c, hc1, hc4, m1, m2, m3⟩ := e3
      rw [m1, m2]
      by_cases h3 : (0 : Int32) ≤ mo' (4 + kb) ∧ mo' (4 + kb) ≤ zi c - 1
      · rw [if_pos h3, if_pos h3]
        rw [show zi c - (1 : Int32) = zi (c - 1) from zi_sub (b := 1) hc1] at h3
        obtain ⟨k, hk, ek⟩ := zi_rng h3.1 h3.2 (by omega)
        rw [ek, zi_nat (by omega), m3 k (by omega), hvv]
        exact ⟨rfl, ag_up hmo _⟩
      · rw [if_neg h3, if_neg h3]
        exact ⟨rfl, hmo⟩
    · rw [if_neg h2, if_neg h2]
      exact ⟨rfl, hmo⟩
  · obtain ⟨ka, hka, rfl⟩ := zi_rng (u := 3) ha0 ha1 (by decide)
    rw [if_neg (show ¬ (4 : Int32) = 1 by decide), if_neg (show ¬ (4 : Int32) = 1 by decide), if_neg (show ¬ (4 : Int32) = 2 by decide), if_neg (show ¬ (4 : Int32) = 2 by decide), if_neg (show ¬ (4 : Int32) = 3 by decide), if_neg (show ¬ (4 : Int32) = 3 by decide), if_pos (show (4 : Int32) = 4 from rfl), if_pos (show (4 : Int32) = 4 from rfl), zi_nat (by omega)]
    obtain ⟨e1, e2⟩ := hH ka (by omega)
    rw [← e1]
    by_cases h2 : hs ka = 1
    · rw [if_pos h2, if_pos h2]
      have e3 : hv ka 0 = v' ka := by
        rcases e2 with q | ⟨-, -, q⟩ | ⟨q, -⟩
        · rw [h2] at q
          exact absurd q (by decide)
        · exact q
        · rw [h2] at q
          exact absurd q (by decide)
      rw [e3, hvv, show zi 0 = (0 : Int32) from rfl, Int32.add_zero]
      exact ⟨rfl, ag_up hmo _⟩
    · rw [if_neg h2, if_neg h2]
      exact ⟨rfl, hmo⟩
  · obtain ⟨ka, hka, rfl⟩ := zi_rng (u := 7) ha0 ha1 (by decide)
    rw [if_neg (show ¬ (5 : Int32) = 1 by decide), if_neg (show ¬ (5 : Int32) = 1 by decide), if_neg (show ¬ (5 : Int32) = 2 by decide), if_neg (show ¬ (5 : Int32) = 2 by decide), if_neg (show ¬ (5 : Int32) = 3 by decide), if_neg (show ¬ (5 : Int32) = 3 by decide), if_neg (show ¬ (5 : Int32) = 4 by decide), if_neg (show ¬ (5 : Int32) = 4 by decide), if_pos (show (5 : Int32) = 5 from rfl), if_pos (show (5 : Int32) = 5 from rfl), hmo 2 (by decide)]
    exact ⟨rfl, ag_up (ag_up hmo _) _⟩
  · rw [if_neg (show ¬ (6 : Int32) = 1 by decide), if_neg (show ¬ (6 : Int32) = 1 by decide), if_neg (show ¬ (6 : Int32) = 2 by decide), if_neg (show ¬ (6 : Int32) = 2 by decide), if_neg (show ¬ (6 : Int32) = 3 by decide), if_neg (show ¬ (6 : Int32) = 3 by decide), if_neg (show ¬ (6 : Int32) = 4 by decide), if_neg (show ¬ (6 : Int32) = 4 by decide), if_neg (show ¬ (6 : Int32) = 5 by decide), if_neg (show ¬ (6 : Int32) = 5 by decide), if_pos (show (6 : Int32) = 6 from rfl), if_pos (show (6 : Int32) = 6 from rfl)]
    exact ⟨rfl, ag_up hmo _⟩
theorem ffit_congr {nr nw nt : Nat} {ru ru' : Nat → Nat → Int32} {mo mo' : Nat → Int32} {w : Int32} (hru : ∀ r, r < nr → ∀ j, j < 9 → ru r j = ru' r j) (hRI : RI nr ru nw nt) (hmo : ag 12 mo mo') : ffit nr ru mo w = ffit nr ru' mo' w := by
  unfold ffit
  refine fsr_congr (fun r _ hr => ?_)
  have hr : r < nr := by omega
  obtain ⟨-, -, ⟨hf0, hf1⟩, -⟩ := hRI r hr
  refine decide_eq_decide.mpr ?_
  unfold fitsP
  rw [← hru r hr 0 (by decide), ← hru r hr 1 (by decide), ← hru r hr 2 (by decide), ← hru r hr 3 (by decide), hmo 0 (by decide)]
  by_cases h : ru r 2 < 0
  · simp only [h, true_or]
  · obtain ⟨k, hk, e⟩ := zi_rng (u := 7) (x := ru r 2) (by rw [Int32.le_iff_toInt_le]; rw [Int32.lt_iff_toInt_lt] at h; omega) hf1 (by decide)
    rw [e, zi_nat (by omega), hmo (4 + k) (by omega)]
theorem sayF_congr {nr nw nt : Nat} {ru ru' : Nat → Nat → Int32} {hs hm : Nat → Int32} {hv hv' : Nat → Nat → Int32} {hs' hm' v' mo mo' : Nat → Int32} {w : Int32} (hru : ∀ r, r < nr → ∀ j, j < 9 → ru r j = ru' r j) (hRI : RI nr ru nw nt) (hH : HR hs hm hv hs' hm' v') (hvv : ∀ a j, hv' a j = v' a + zi j) (hmo : ag 12 mo mo') :
    (sayF nr ru hs hm hv mo w).1 = (sayF nr ru' hs' hm' hv' mo' w).1 ∧ ag 12 (sayF nr ru hs hm hv mo w).2 (sayF nr ru' hs' hm' hv' mo' w).2 := by
  unfold sayF
  rw [← ffit_congr hru hRI hmo]
  by_cases h : w < 0 ∨ ffit nr ru mo w = nr
  · rw [if_pos h, if_pos h]
    exact ⟨rfl, ag_up hmo _⟩
  · rw [if_neg h, if_neg h]
    have hr : ffit nr ru mo w < nr := by
      obtain ⟨-, g2, -⟩ := fsr_spec (fun r => decide (fitsP ru mo w r)) nr 0
      rw [show fsr (fun r => decide (fitsP ru mo w r)) nr 0 = ffit nr ru mo w from rfl] at g2
      have : ¬ ffit nr ru mo w = nr := fun q => h (Or.inr q)
      omega
    generalize ffit nr ru mo w = r at hr ⊢
    obtain ⟨-, -, -, hok, -⟩ := hRI r hr
    obtain ⟨c1, c2⟩ := actF_congr (hru r hr) hok hH hvv hmo
    generalize actF ru hs hm hv mo r = q at c1 c2 ⊢
    generalize actF ru' hs' hm' hv' mo' r = q' at c1 c2 ⊢
    unfold sayF1
    rw [← c1, ← hru r hr 8 (by decide), ← hru r hr 7 (by decide), ← c2 0 (by decide)]
    by_cases h0 : q.1 = 0
    · rw [if_pos h0, if_pos h0]
      exact ⟨rfl, ag_up (ag_up c2 _) _⟩
    · rw [if_neg h0, if_neg h0]
      exact ⟨rfl, c2⟩
/-- the reference's says, in the words of sayF -/
theorem saysM_eq {S : Nat → Int32} {V : Nat → Nat → Int32} {nr nw nt : Nat} {w : Int32} (hn30 : nr ≤ 30) (hRI : RI nr (mru V) nw nt) (h27 : S 27 = 1) (q : Int32 × (Nat → Int32)) (hq : q = sayF nr (mru V) (V 22) (V 23) (mhv V) (V 28) w) :
    saysM S V nr w = (if q.1 < -1 then -1 - q.1 else 0, (if q.1 < -1 then va_up (va_up S 26 (S 26 + 1)) 25 (-1 - q.1) else va_up S 26 (S 26 + 1)),
      (if q.1 < -1 then va_up V 28 q.2 else if q.1 < 0 then va_up (va_up V 28 q.2) 21 (va_up (V 21) 24 (V 21 24 + 1)) else va_up (va_up (va_up V 28 q.2) 20 (va_up (V 20) q.1.toNatClampNeg (V 20 q.1.toNatClampNeg + 1))) 21 (va_up (V 21) (q.2 3).toNatClampNeg (V 21 (q.2 3).toNatClampNeg + 1)))) := by
  subst hq
  have s1 : sn S = 1 := by
    unfold sn
    rw [h27]
    rfl
  have s2 : sn (va_up S 26 (S 26 + sn S)) = 1 := by
    unfold sn
    rw [show va_up S 26 (S 26 + if S 27 = 0 then 0 else 1) 27 = S 27 from rfl, h27]
    rfl
  unfold saysM sayF
  by_cases h : w < 0 ∨ ffit nr (mru V) (V 28) w = nr
  · rw [if_pos h, if_pos h]
    dsimp only
    rw [if_neg (by decide), if_neg (by decide), if_neg (by decide), if_pos (by decide), s1]
    unfold showV
    rw [s1]
  · rw [if_neg h, if_neg h]
    have hr : ffit nr (mru V) (V 28) w < nr := by
      obtain ⟨-, g2, -⟩ := fsr_spec (fun r => decide (fitsP (mru V) (V 28) w r)) nr 0
      rw [show fsr (fun r => decide (fitsP (mru V) (V 28) w r)) nr 0 = ffit nr (mru V) (V 28) w from rfl] at g2
      have : ¬ ffit nr (mru V) (V 28) w = nr := fun q => h (Or.inr q)
      omega
    generalize ffit nr (mru V) (V 28) w = r at hr ⊢
    have rng := actF_rng (mru V) (V 22) (V 23) (mhv V) (V 28) r
    generalize actF (mru V) (V 22) (V 23) (mhv V) (V 28) r = q at rng ⊢
    unfold saysM1 sayF1
    rcases rng with h0 | ⟨h0, e⟩
    · rw [if_pos (by rw [h0]; decide), if_pos h0]
      dsimp only
      have n1 : ¬ zi r < (-1 : Int32) := by
        rw [Int32.lt_iff_toInt_lt, zi_int (by omega)]
        show ¬ (r : Int) < -1
        omega
      rw [if_neg n1, if_neg n1, if_neg n1, if_neg (zi_neg (by omega)), s1, zi_nat (by omega)]
      refine congrArg (fun z => ((0 : Int32), va_up S 26 (S 26 + 1), z)) ?_
      rw [s1] at s2
      unfold showV
      rw [s2]
      rw [show mru V r 8 = V 19 r from rfl, show mru V r 7 = V 18 r from rfl]
      rw [up_self]
      rw [show va_up (va_up V 28 (va_up q.2 0 (if V 19 r < 0 then q.2 0 else V 19 r))) 20 (va_up (V 20) r (V 20 r + 1)) 28 = va_up q.2 0 (if V 19 r < 0 then q.2 0 else V 19 r) from rfl]
      rw [show va_up (va_up V 28 (va_up q.2 0 (if V 19 r < 0 then q.2 0 else V 19 r))) 20 (va_up (V 20) r (V 20 r + 1)) 21 = V 21 from rfl]
      rw [up_comm _ _ _ (show 20 ≠ 28 by decide), up_up]
    · have hv : ¬ q.1 ≤ 0 ∧ ¬ q.1 = 0 ∧ -1 - q.1 < (-1 : Int32) ∧ -1 - (-1 - q.1) = q.1 := by
        rcases h0 with h0 | h0 | h0 | h0 <;> rw [h0] <;> decide
      rw [if_neg hv.1, if_neg hv.2.1]
      dsimp only
      rw [if_pos hv.2.2.1, if_pos hv.2.2.1, if_pos hv.2.2.1, hv.2.2.2, s1]
      rw [show va_up S 26 (S 26 + 1) 27 = S 27 from rfl, h27, if_neg (by decide)]
theorem actF_hi {ru : Nat → Nat → Int32} {hs hm : Nat → Int32} {hv : Nat → Nat → Int32} {mo : Nat → Int32} {r k : Nat} (hok : actOK (ru r 4) (ru r 5) (ru r 6)) (hk : 12 ≤ k) : (actF ru hs hm hv mo r).2 k = mo k := by
  have ha : ru r 4 = 1 ∨ ru r 4 = 2 ∨ ru r 4 = 5 → 4 + (ru r 5).toNatClampNeg < 12 := by
    intro h
    have h7 : (0 : Int32) ≤ ru r 5 ∧ ru r 5 ≤ zi 7 := by
      rcases hok with e | ⟨e, q, -⟩ | ⟨e, q, -⟩ | ⟨e, q, -⟩ | ⟨e, q⟩ | ⟨e, q, -⟩ | ⟨e, q⟩
      · rw [e] at h
        exact absurd h (by decide)
      · exact q
      · exact q
      · rw [e] at h
        exact absurd h (by decide)
      · rw [e] at h
        exact absurd h (by decide)
      · exact q
      · rw [e] at h
        exact absurd h (by decide)
    obtain ⟨j, hj, e⟩ := zi_rng (u := 7) h7.1 h7.2 (by decide)
    rw [e, zi_nat (by omega)]
    omega
  unfold actF
  by_cases h1 : ru r 4 = 1
  · rw [if_pos h1]
    have := ha (Or.inl h1)
    exact up_ne _ _ (by omega)
  · rw [if_neg h1]
    by_cases h2 : ru r 4 = 2
    · rw [if_pos h2]
      have := ha (Or.inr (Or.inl h2))
      by_cases h : mo (4 + (ru r 6).toNatClampNeg) = 0
      · rw [if_pos h]
      · rw [if_neg h]
        exact up_ne _ _ (by omega)
    · rw [if_neg h2]
      by_cases h3 : ru r 4 = 3
      · rw [if_pos h3]
        repeat' split
        all_goals first
          | rfl
          | exact up_ne _ _ (by omega)
      · rw [if_neg h3]
        by_cases h4 : ru r 4 = 4
        · rw [if_pos h4]
          repeat' split
          all_goals first
            | rfl
            | exact up_ne _ _ (by omega)
        · rw [if_neg h4]
          by_cases h5 : ru r 4 = 5
          · rw [if_pos h5]
            have := ha (Or.inr (Or.inr h5))
            show va_up _ _ _ k = _
            rw [up_ne _ _ (by omega), up_ne _ _ (by omega)]
          · rw [if_neg h5]
            by_cases h6 : ru r 4 = 6
            · rw [if_pos h6]
              exact up_ne _ _ (by omega)
            · rw [if_neg h6]
theorem sayF_hi {nr nw nt : Nat} {ru : Nat → Nat → Int32} {hs hm : Nat → Int32} {hv : Nat → Nat → Int32} {mo : Nat → Int32} {w : Int32} {k : Nat} (hRI : RI nr ru nw nt) (hk : 12 ≤ k) : (sayF nr ru hs hm hv mo w).2 k = mo k := by
  unfold sayF
  by_cases h : w < 0 ∨ ffit nr ru mo w = nr
  · rw [if_pos h]
    exact up_ne _ _ (by omega)
  · rw [if_neg h]
    have hr : ffit nr ru mo w < nr := by
      obtain ⟨-, g2, -⟩ := fsr_spec (fun r => decide (fitsP ru mo w r)) nr 0
      rw [show fsr (fun r => decide (fitsP ru mo w r)) nr 0 = ffit nr ru mo w from rfl] at g2
      have : ¬ ffit nr ru mo w = nr := fun q => h (Or.inr q)
      omega
    generalize ffit nr ru mo w = r at hr ⊢
    obtain ⟨-, -, -, hok, -⟩ := hRI r hr
    have e := actF_hi (hs := hs) (hm := hm) (hv := hv) (mo := mo) hok hk
    unfold sayF1
    by_cases h0 : (actF ru hs hm hv mo r).1 = 0
    · rw [if_pos h0]
      show va_up _ _ _ k = _
      rw [up_ne _ _ (by omega), up_ne _ _ (by omega), e]
    · rw [if_neg h0]
      exact e
/-! ===== the relation, part by part ===== -/
/-- rules, words' and texts' numbers, holders -/
def Rst (S V : Nat → Nat → Int32) (Sm : Nat → Int32) (Vm : Nat → Nat → Int32) (nr nw nt : Nat) : Prop :=
  (S 4 4 = zi nr ∧ Sm 10 = zi nr ∧ nr ≤ 30) ∧ (S 5 3 = zi nw ∧ Sm 4 = zi nw ∧ nw ≤ 16) ∧ (S 8 3 = zi nt ∧ Sm 7 = zi nt ∧ nt ≤ 24) ∧ (∀ r, r < nr → ∀ j, j < 9 → cru S r j = mru Vm r j) ∧ RI nr (cru S) nw nt ∧ RI nr (mru Vm) nw nt ∧ HR (chs S) (chm S) (chv V) (Vm 22) (Vm 23) (Vm 24)
/-- what is counted -/
def Rct (S V : Nat → Nat → Int32) (Sm : Nat → Int32) (Vm : Nat → Nat → Int32) : Prop :=
  S 51 4 = Sm 26 ∧ S 51 5 = Sm 25 ∧ ag 30 (V 54) (Vm 20) ∧ V 55 0 = Vm 21 24 ∧ ∀ k, k < 24 → V 55 (k + 1) = Vm 21 k
/-- the moment that is, the latest text of it -/
def Rmo (S V : Nat → Nat → Int32) (Vm : Nat → Nat → Int32) (nt : Nat) : Prop := ag 12 (amo S V 52) (Vm 28) ∧ (Vm 28 3 = -2 ∨ Vm 28 3 = -1 ∨ ∃ k, k < nt ∧ Vm 28 3 = zi k)
theorem Rst.mov {S V S' V' : Nat → Nat → Int32} {Sm Sm' : Nat → Int32} {Vm Vm' : Nat → Nat → Int32} {nr nw nt : Nat} (h : Rst S V Sm Vm nr nw nt) (h1 : ∀ q, q < 51 → S' q = S q) (h2 : ∀ q, q < 51 → V' q = V q) (h3 : ∀ k, k < 25 → Sm' k = Sm k) (h4 : ∀ k, k < 20 ∨ k = 22 ∨ k = 23 ∨ k = 24 → Vm' k = Vm k) : Rst S' V' Sm' Vm' nr nw nt := by
  obtain ⟨⟨a1, a2, a3⟩, ⟨b1, b2, b3⟩, ⟨c1, c2, c3⟩, d, e, e', f⟩ := h
  have ecru : ∀ r j, r < nr → cru S' r j = cru S r j := fun r j hr => by
    unfold cru
    rw [h1 (13 + r) (by omega)]
  have emru : ∀ r j, j < 9 → mru Vm' r j = mru Vm r j := fun r j hj => by
    unfold mru
    rw [h4 (11 + j) (by omega)]
  refine ⟨⟨by rw [h1 4 (by decide)]; exact a1, by rw [h3 10 (by decide)]; exact a2, a3⟩, ⟨by rw [h1 5 (by decide)]; exact b1, by rw [h3 4 (by decide)]; exact b2, b3⟩, ⟨by rw [h1 8 (by decide)]; exact c1, by rw [h3 7 (by decide)]; exact c2, c3⟩, ?_, ?_, ?_, ?_⟩
  · intro r hr j hj
    rw [ecru r j hr, emru r j hj]
    exact d r hr j hj
  · intro r hr
    rw [ecru r 0 hr, ecru r 1 hr, ecru r 2 hr, ecru r 4 hr, ecru r 5 hr, ecru r 6 hr, ecru r 7 hr, ecru r 8 hr]
    exact e r hr
  · intro r hr
    rw [emru r 0 (by decide), emru r 1 (by decide), emru r 2 (by decide), emru r 4 (by decide), emru r 5 (by decide), emru r 6 (by decide), emru r 7 (by decide), emru r 8 (by decide)]
    exact e' r hr
  · intro a ha
    have k1 : chs S' a = chs S a := by unfold chs; rw [h1 _ (by omega)]
    have k2 : chm S' a = chm S a := by unfold chm; rw [h1 _ (by omega)]
    have k3 : ∀ j, chv V' a j = chv V a j := fun j => by unfold chv; rw [h2 _ (by omega)]
    rw [k1, k2, k3, h4 22 (by omega), h4 23 (by omega), h4 24 (by omega)]
    refine ⟨(f a ha).1, ?_⟩
    rcases (f a ha).2 with q | q | ⟨q, c, c1, c2, c3, c4, c5⟩
    · exact Or.inl q
    · exact Or.inr (Or.inl q)
    · exact Or.inr (Or.inr ⟨q, c, c1, c2, c3, c4, fun j hj => by rw [k3]; exact c5 j hj⟩)
/-- hearing and saying: one answer, and the relation again; what else there is stays -/
theorem hear_says {S V : Nat → Nat → Int32} {Sm : Nat → Int32} {Vm : Nat → Nat → Int32} {nr nw nt : Nat} {w : Int32} (hst : Rst S V Sm Vm nr nw nt) (hct : Rct S V Sm Vm) (hmo : Rmo S V Vm nt) (h27 : Sm 27 = 1) :
    ∃ (r : Int32) (S' V' : Nat → Nat → Int32) (Sm' : Nat → Int32) (Vm' : Nat → Nat → Int32), hearC S V (sayF nr (cru S) (chs S) (chm S) (chv V) (amo S V 52) w) = (r, S', V') ∧ saysM Sm Vm nr w = (r, Sm', Vm') ∧ Rst S' V' Sm' Vm' nr nw nt ∧ Rct S' V' Sm' Vm' ∧ Rmo S' V' Vm' nt ∧ (r = 0 ∨ ∃ f, 1 ≤ f ∧ f ≤ 4 ∧ r = zi f) ∧
      (∀ q, q ≠ 51 → q ≠ 52 → S' q = S q) ∧ (∀ q, q ≠ 53 → q ≠ 54 → q ≠ 55 → V' q = V q) ∧ (∀ k, k ≠ 25 → k ≠ 26 → Sm' k = Sm k) ∧ (∀ k, k ≠ 20 → k ≠ 21 → k ≠ 28 → Vm' k = Vm k) ∧ (∀ k, 12 ≤ k → Vm' 28 k = Vm 28 k) := by
  obtain ⟨⟨a1, a2, a3⟩, ⟨b1, b2, b3⟩, ⟨c1, c2, c3⟩, d, e, e', f⟩ := id hst
  obtain ⟨k1, k2, k3, k4, k5⟩ := hct
  obtain ⟨m1, m2⟩ := hmo
  have cg := sayF_congr (w := w) (hv' := mhv Vm) d e f (fun _ _ => rfl) m1
  have rng := sayF_rng (hs := chs S) (hm := chm S) (hv := chv V) (mo := amo S V 52) (w := w) e
  have hi := fun k (hk : 12 ≤ k) => sayF_hi (hs := Vm 22) (hm := Vm 23) (hv := mhv Vm) (mo := Vm 28) (w := w) e' hk
  have sm := saysM_eq (w := w) a3 e' h27 _ rfl
  generalize sayF nr (cru S) (chs S) (chm S) (chv V) (amo S V 52) w = q at cg rng ⊢
  generalize sayF nr (mru Vm) (Vm 22) (Vm 23) (mhv Vm) (Vm 28) w = q' at cg hi sm ⊢
  obtain ⟨cg1, cg2⟩ := cg
  rw [← cg1] at sm
  have hmo' : ∀ S1 V1 : Nat → Nat → Int32, S1 52 = mS S 52 q.2 52 → V1 53 = mV V 52 q.2 53 → ag 12 (amo S1 V1 52) q'.2 := by
    intro S1 V1 h1 h2
    have h3 : amo S1 V1 52 = q.2 := by
      have h4 := amo_m (S := S) (V := V) (o := 52) (mo := q.2)
      rw [← h4]
      funext k
      unfold amo
      rw [h1, h2]
    rw [h3]
    exact cg2
  have q3 : q'.2 3 = q.2 3 := (cg2 3 (by decide)).symm
  rcases rng with ⟨h1, h2⟩ | ⟨r, hr, h1, k, hk, h2⟩ | ⟨ff, hf1, hf4, h1, h2⟩
  · refine ⟨0, va_up (mS S 52 q.2) 51 (va_up (S 51) 4 (S 51 4 + 1)), shownC (mV V 52 q.2) (-1), va_up Sm 26 (Sm 26 + 1), va_up (va_up Vm 28 q'.2) 21 (va_up (Vm 21) 24 (Vm 21 24 + 1)), ?_, ?_, ?_, ?_, ?_, Or.inl rfl, ?_, ?_, ?_, ?_, ?_⟩
    · unfold hearC
      rw [h1, h2, if_neg (by decide), if_pos (by decide)]
    · rw [sm, h1, if_neg (by decide), if_neg (by decide), if_neg (by decide), if_pos (by decide)]
    · refine hst.mov (fun q hq => ?_) (fun q hq => ?_) (fun k hk => ?_) (fun k hk => ?_)
      · rw [up_ne _ _ (by omega)]
        exact up_ne _ _ (by omega)
      · unfold shownC
        rw [up_ne _ _ (by omega)]
        exact up_ne _ _ (by omega)
      · exact up_ne _ _ (by omega)
      · rw [up_ne _ _ (by omega), up_ne _ _ (by omega)]
    · refine ⟨?_, k2, k3, ?_, ?_⟩
      · show S 51 4 + 1 = Sm 26 + 1
        rw [k1]
      · show V 55 0 + 1 = Vm 21 24 + 1
        rw [k4]
      · intro k hk
        show va_up (V 55) 0 (V 55 0 + 1) (k + 1) = va_up (Vm 21) 24 (Vm 21 24 + 1) k
        rw [up_ne _ _ (by omega), up_ne _ _ (by omega)]
        exact k5 k hk
    · exact ⟨hmo' _ _ rfl rfl, Or.inr (Or.inl (q3.trans h2))⟩
    · intro q n1 n2
      rw [up_ne _ _ n1]
      exact up_ne _ _ n2
    · intro q n1 n2 n3
      unfold shownC
      rw [up_ne _ _ n3]
      exact up_ne _ _ n1
    · intro k n1 n2
      exact up_ne _ _ n2
    · intro k n1 n2 n3
      rw [up_ne _ _ n2, up_ne _ _ n3]
    · exact hi
  · have n1 : ¬ zi r < (-1 : Int32) := by
      rw [Int32.lt_iff_toInt_lt, zi_int (by omega)]
      show ¬ (r : Int) < -1
      omega
    refine ⟨0, va_up (mS S 52 q.2) 51 (va_up (S 51) 4 (S 51 4 + 1)), shownC (va_up (mV V 52 q.2) 54 (va_up (V 54) r (V 54 r + 1))) (zi k), va_up Sm 26 (Sm 26 + 1), va_up (va_up (va_up Vm 28 q'.2) 20 (va_up (Vm 20) r (Vm 20 r + 1))) 21 (va_up (Vm 21) k (Vm 21 k + 1)), ?_, ?_, ?_, ?_, ?_, Or.inl rfl, ?_, ?_, ?_, ?_, ?_⟩
    · unfold hearC
      rw [h1, h2, if_neg n1, if_neg (zi_neg (by omega)), zi_nat (by omega)]
    · rw [sm, h1, if_neg n1, if_neg n1, if_neg n1, if_neg (zi_neg (by omega)), zi_nat (by omega), q3, h2, zi_nat (by omega)]
    · refine hst.mov (fun q hq => ?_) (fun q hq => ?_) (fun k hk => ?_) (fun k hk => ?_)
      · rw [up_ne _ _ (by omega)]
        exact up_ne _ _ (by omega)
      · unfold shownC
        rw [up_ne _ _ (by omega), up_ne _ _ (by omega)]
        exact up_ne _ _ (by omega)
      · exact up_ne _ _ (by omega)
      · rw [up_ne _ _ (by omega), up_ne _ _ (by omega), up_ne _ _ (by omega)]
    · have e55 : shownC (va_up (mV V 52 q.2) 54 (va_up (V 54) r (V 54 r + 1))) (zi k) 55 = va_up (V 55) (k + 1) (V 55 (k + 1) + 1) := by
        unfold shownC
        rw [up_self, zi_one, zi_nat (by omega)]
        rfl
      refine ⟨?_, k2, ?_, ?_, ?_⟩
      · show S 51 4 + 1 = Sm 26 + 1
        rw [k1]
      · show ag 30 (va_up (V 54) r (V 54 r + 1)) (va_up (Vm 20) r (Vm 20 r + 1))
        rw [k3 r (by omega)]
        exact ag_up k3 _
      · rw [e55]
        show va_up (V 55) (k + 1) (V 55 (k + 1) + 1) 0 = va_up (Vm 21) k (Vm 21 k + 1) 24
        rw [up_ne _ _ (by omega), up_ne _ _ (by omega)]
        exact k4
      · intro j hj
        rw [e55]
        show va_up (V 55) (k + 1) (V 55 (k + 1) + 1) (j + 1) = va_up (Vm 21) k (Vm 21 k + 1) j
        by_cases ej : j = k
        · subst ej
          rw [up_self, up_self, k5 j hj]
        · rw [up_ne _ _ (by omega), up_ne _ _ ej]
          exact k5 j hj
    · exact ⟨hmo' _ _ rfl rfl, Or.inr (Or.inr ⟨k, hk, q3.trans h2⟩)⟩
    · intro q n1 n2
      rw [up_ne _ _ n1]
      exact up_ne _ _ n2
    · intro q n1 n2 n3
      unfold shownC
      rw [up_ne _ _ n3, up_ne _ _ n2]
      exact up_ne _ _ n1
    · intro k n1 n2
      exact up_ne _ _ n2
    · intro k n1 n2 n3
      rw [up_ne _ _ n2, up_ne _ _ n1, up_ne _ _ n3]
    · exact hi
  · have hlt : (-1 : Int32) - zi ff < (-1 : Int32) ∧ -1 - (-1 - zi ff) = zi ff := by
      have : ff = 1 ∨ ff = 2 ∨ ff = 3 ∨ ff = 4 := by omega
      rcases this with rfl | rfl | rfl | rfl <;> decide
    refine ⟨zi ff, va_up (mS S 52 q.2) 51 (va_up (va_up (S 51) 4 (S 51 4 + 1)) 5 (zi ff)), mV V 52 q.2, va_up (va_up Sm 26 (Sm 26 + 1)) 25 (zi ff), va_up Vm 28 q'.2, ?_, ?_, ?_, ?_, ?_, Or.inr ⟨ff, hf1, hf4, rfl⟩, ?_, ?_, ?_, ?_, ?_⟩
    · unfold hearC
      rw [h1, if_pos hlt.1, hlt.2]
    · rw [sm, h1, if_pos hlt.1, if_pos hlt.1, if_pos hlt.1, hlt.2]
    · refine hst.mov (fun q hq => ?_) (fun q hq => ?_) (fun k hk => ?_) (fun k hk => ?_)
      · rw [up_ne _ _ (by omega)]
        exact up_ne _ _ (by omega)
      · exact up_ne _ _ (by omega)
      · rw [up_ne _ _ (by omega), up_ne _ _ (by omega)]
      · exact up_ne _ _ (by omega)
    · refine ⟨?_, rfl, k3, k4, k5⟩
      show S 51 4 + 1 = Sm 26 + 1
      rw [k1]
    · refine ⟨hmo' _ _ rfl rfl, ?_⟩
      show q'.2 3 = -2 ∨ q'.2 3 = -1 ∨ ∃ k, k < nt ∧ q'.2 3 = zi k
      rw [q3, h2, m1 3 (by decide)]
      exact m2
    · intro q n1 n2
      rw [up_ne _ _ n1]
      exact up_ne _ _ n2
    · intro q n1 n2 n3
      exact up_ne _ _ n1
    · intro k n1 n2
      rw [up_ne _ _ n1, up_ne _ _ n2]
    · intro k n1 n2 n3
      exact up_ne _ _ n3
    · exact hi
