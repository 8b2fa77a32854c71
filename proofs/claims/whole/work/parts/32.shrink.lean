/-! ===== shrinking ===== -/
def flt (o : Int32) : Int32 := if o < -1 then -1 - o else 0
/-- what is left of a play without the word at gone: does it break the same rule, at its last word? -/
def cg (sf : (Nat → Int32) → Int32 → Int32 × (Nat → Int32)) (tl wd : Nat → Int32) (gone last : Nat) (broke : Int32) : Nat → Nat → (Nat → Int32) → Bool
  | 0, _, _ => false
  | n + 1, i, mo => if i = gone then cg sf tl wd gone last broke n (i + 1) mo else if mo 1 = 0 then
      (if i = last then decide (brk (flt (sf mo (wd i)).1) (sf mo (wd i)).2 tl = broke) else if brk (flt (sf mo (wd i)).1) (sf mo (wd i)).2 tl = 0 then cg sf tl wd gone last broke n (i + 1) (sf mo (wd i)).2 else false) else false
theorem saysM_eq0 {S : Nat → Int32} {V : Nat → Nat → Int32} {nr nw nt : Nat} {w : Int32} (hn30 : nr ≤ 30) (hRI : RI nr (mru V) nw nt) (h27 : S 27 = 0) :
    saysM S V nr w = (flt (sayF nr (mru V) (V 22) (V 23) (mhv V) (V 28) w).1, S, va_up V 28 (sayF nr (mru V) (V 22) (V 23) (mhv V) (V 28) w).2) := by
  have s1 : sn S = 0 := by
    unfold sn
    rw [if_pos h27]
  have e26 : va_up S 26 (S 26 + sn S) = S := by
    rw [s1, Int32.add_zero, up_id]
  unfold saysM sayF flt
  rw [e26]
  by_cases h : w < 0 ∨ ffit nr (mru V) (V 28) w = nr
  · rw [if_pos h, if_pos h]
    dsimp only
    rw [if_neg (by decide)]
    unfold showV
    rw [s1, Int32.add_zero, up_id, show V 21 = va_up V 28 (va_up (V 28) 3 (-1)) 21 from rfl, up_id]
  · rw [if_neg h, if_neg h]
    have hr : ffit nr (mru V) (V 28) w < nr := by
      obtain ⟨-, g2, -⟩ := fsr_spec (fun r => decide (fitsP (mru V) (V 28) w r)) nr 0
      rw [show fsr (fun r => decide (fitsP (mru V) (V 28) w r)) nr 0 = ffit nr (mru V) (V 28) w from rfl] at g2
      have : ¬ ffit nr (mru V) (V 28) w = nr := fun q => h (Or.inr q)
      omega
    generalize ffit nr (mru V) (V 28) w = r at hr ⊢
    have rng := actF_rng (mru V) (V 22) (V 23) (mhv V) (V 28) r
    generalize actF (mru V) (V 22) (V 23) (mhv V) (V 28) r = q at rng ⊢
    unfold saysM1 sayF1
    rcases rng with h0 | ⟨h0, e⟩
    · rw [if_pos (by rw [h0]; decide), if_pos h0]
      dsimp only
      have n1 : ¬ zi r < (-1 : Int32) := by
        rw [Int32.lt_iff_toInt_lt, zi_int (by omega)]
        show ¬ (r : Int) < -1
        omega
      rw [if_neg n1]
      refine congrArg (fun z => ((0 : Int32), S, z)) ?_
      unfold showV
      rw [s1, Int32.add_zero, Int32.add_zero, up_id, up_id]
      rw [show V 20 = va_up V 28 (va_up q.2 0 (if V 19 r < 0 then q.2 0 else V 19 r)) 20 from rfl, up_id]
      rw [show va_up V 28 (va_up q.2 0 (if V 19 r < 0 then q.2 0 else V 19 r)) 28 = va_up q.2 0 (if V 19 r < 0 then q.2 0 else V 19 r) from up_self _ _ _, up_up]
      rw [show ∀ z : Nat → Int32, va_up V 28 z 21 = V 21 from fun _ => rfl]
      rw [show V 21 = va_up V 28 (va_up (va_up q.2 0 (if V 19 r < 0 then q.2 0 else V 19 r)) 3 (V 18 r)) 21 from rfl, up_id]
      rfl
    · have hv : ¬ q.1 ≤ 0 ∧ ¬ q.1 = 0 ∧ -1 - q.1 < (-1 : Int32) ∧ -1 - (-1 - q.1) = q.1 := by
        rcases h0 with h0 | h0 | h0 | h0 <;> rw [h0] <;> decide
      rw [if_neg hv.1, if_neg hv.2.1]
      dsimp only
      rw [if_pos hv.2.2.1, hv.2.2.2, if_pos h27, up_id]
theorem actF_env {ru ru' : Nat → Nat → Int32} {hs hm hs' hm' : Nat → Int32} {hv hv' : Nat → Nat → Int32} {mo : Nat → Int32} {r : Nat} (hru : ru' r = ru r) (hh : ∀ a, a < 4 → hs' a = hs a ∧ hm' a = hm a ∧ hv' a = hv a) (hok : actOK (ru r 4) (ru r 5) (ru r 6)) : actF ru' hs' hm' hv' mo r = actF ru hs hm hv mo r := by
  have h5 : ru r 4 = 3 ∨ ru r 4 = 4 → (ru r 5).toNatClampNeg < 4 := by
    intro h
    have h7 : (0 : Int32) ≤ ru r 5 ∧ ru r 5 ≤ zi 3 := by
      rcases hok with e | ⟨e, q, -⟩ | ⟨e, q, -⟩ | ⟨e, q, -⟩ | ⟨e, q⟩ | ⟨e, q, -⟩ | ⟨e, q⟩
      · rw [e] at h
        exact absurd h (by decide)
      · rw [e] at h
        exact absurd h (by decide)
      · rw [e] at h
        exact absurd h (by decide)
      · exact q
      · exact q
      · rw [e] at h
        exact absurd h (by decide)
      · rw [e] at h
        exact absurd h (by decide)
    obtain ⟨j, hj, e⟩ := zi_rng (u := 3) h7.1 h7.2 (by decide)
    rw [e, zi_nat (by omega)]
    omega
  unfold actF
  rw [hru]
  by_cases h3 : ru r 4 = 3
  · obtain ⟨e1, e2, e3⟩ := hh _ (h5 (Or.inl h3))
    rw [e1, e2, e3]
  · by_cases h4 : ru r 4 = 4
    · obtain ⟨e1, e2, e3⟩ := hh _ (h5 (Or.inr h4))
      rw [e1, e2, e3]
    · rw [if_neg h3, if_neg h3, if_neg h4, if_neg h4]
theorem sayF_env {S S' V V' : Nat → Nat → Int32} {nr nw nt : Nat} {mo : Nat → Int32} {w : Int32} (h1 : ∀ q, q < 51 → S' q = S q) (h2 : ∀ q, q < 51 → V' q = V q) (hn : nr ≤ 30) (ri : RI nr (cru S) nw nt) : sayF nr (cru S') (chs S') (chm S') (chv V') mo w = sayF nr (cru S) (chs S) (chm S) (chv V) mo w := by
  have ef : ffit nr (cru S') mo w = ffit nr (cru S) mo w := by
    unfold ffit
    refine fsr_congr (fun r _ hr => ?_)
    unfold fitsP cru
    rw [h1 (13 + r) (by omega)]
  unfold sayF
  rw [ef]
  by_cases h : w < 0 ∨ ffit nr (cru S) mo w = nr
  · rw [if_pos h, if_pos h]
  · rw [if_neg h, if_neg h]
    have hr : ffit nr (cru S) mo w < nr := by
      obtain ⟨-, g2, -⟩ := fsr_spec (fun r => decide (fitsP (cru S) mo w r)) nr 0
      rw [show fsr (fun r => decide (fitsP (cru S) mo w r)) nr 0 = ffit nr (cru S) mo w from rfl] at g2
      have : ¬ ffit nr (cru S) mo w = nr := fun q => h (Or.inr q)
      omega
    generalize ffit nr (cru S) mo w = r at hr ⊢
    obtain ⟨-, -, -, hok, -⟩ := ri r hr
    have er : cru S' r = cru S r := h1 (13 + r) (by omega)
    rw [actF_env (ru := cru S) (hs := chs S) (hm := chm S) (hv := chv V) (hs' := chs S') (hm' := chm S') (hv' := chv V') er (fun a ha => ⟨by unfold chs; rw [h1 _ (by omega)], by unfold chm; rw [h1 _ (by omega)], h2 _ (by omega)⟩) hok]
    unfold sayF1
    rw [er]
theorem RI_env {S S' : Nat → Nat → Int32} {nr nw nt : Nat} (h1 : ∀ q, q < 51 → S' q = S q) (hn : nr ≤ 30) (ri : RI nr (cru S) nw nt) : RI nr (cru S') nw nt := by
  intro r hr
  have er : cru S' r = cru S r := h1 (13 + r) (by omega)
  rw [er]
  exact ri r hr
theorem HI_env {S S' : Nat → Nat → Int32} (h1 : ∀ q, q < 51 → S' q = S q) (hI : HI (chs S) (chm S)) : HI (chs S') (chm S') := by
  intro a ha
  have e1 : chs S' a = chs S a := by unfold chs; rw [h1 _ (by omega)]
  have e2 : chm S' a = chm S a := by unfold chm; rw [h1 _ (by omega)]
  rw [e1, e2]
  exact hI a ha
theorem flt_0 {o : Int32} (h : (-1 : Int32) ≤ o) : flt o = 0 := by
  unfold flt
  rw [if_neg]
  intro q
  rw [Int32.le_iff_toInt_le] at h
  rw [Int32.lt_iff_toInt_lt] at q
  omega
section
variable {b : Nat} {S V : Nat → Nat → Int32} {Q : Nat → Option Nat} {g h0 : ZH} {nr nw nt : Nat}
theorem X9_bal_loop {gone last : Nat} (a1 : S 4 4 = zi nr) (a3 : nr ≤ 30) (b1 : S 5 3 = zi nw) (b3 : nw ≤ 16) (c1 : S 8 3 = zi nt) (c3 : nt ≤ 24) (ri : RI nr (cru S) nw nt) (hI : HI (chs S) (chm S)) (hl : last < 60) (hg : gone < 60) :
    ∀ (n i : Nat) (mo : Nat → Int32), i + n = last + 1 → ∃ mo', zz_loop (fun st : (Int32 × ZH) => f_X9_breaksAlikeWithout_L42 h0 (b + 69) (zi gone) (zi last) (st.1) (st.2)) (zi i, Cl b (mS S 70 mo) (mV V 70 mo) Q g) = some (b01 (cg (sayF nr (cru S) (chs S) (chm S) (chv V)) (V 10) (V 72) gone last (S 69 5) n i mo = true), Cl b (mS S 70 mo') (mV V 70 mo') Q g) := by
  intro n
  induction n with
  | zero =>
    intro i mo hi
    refine ⟨mo, zz_loop_inr ?_⟩
    show f_X9_breaksAlikeWithout_L42 h0 (b + 69) (zi gone) (zi last) (zi i) _ = _
    unfold f_X9_breaksAlikeWithout_L42
    rw [if_pos ((zi_lt (by omega) (by omega)).mpr (by omega))]
    rfl
  | succ n ih =>
    intro i mo hi
    have hil : i ≤ last := by omega
    have pre : f_X9_breaksAlikeWithout_L42 h0 (b + 69) (zi gone) (zi last) (zi i) (Cl b (mS S 70 mo) (mV V 70 mo) Q g) = if i = gone then some (.inl (zi (i + 1), Cl b (mS S 70 mo) (mV V 70 mo) Q g)) else if mo 1 = 0 then (if i = last then some (.inr (b01 (brk (flt (sayF nr (cru S) (chs S) (chm S) (chv V) mo (V 72 i)).1) (sayF nr (cru S) (chs S) (chm S) (chv V) mo (V 72 i)).2 (V 10) = S 69 5), Cl b (mS S 70 (sayF nr (cru S) (chs S) (chm S) (chv V) mo (V 72 i)).2) (mV V 70 (sayF nr (cru S) (chs S) (chm S) (chv V) mo (V 72 i)).2) Q g)) else if brk (flt (sayF nr (cru S) (chs S) (chm S) (chv V) mo (V 72 i)).1) (sayF nr (cru S) (chs S) (chm S) (chv V) mo (V 72 i)).2 (V 10) = 0 then some (.inl (zi (i + 1), Cl b (mS S 70 (sayF nr (cru S) (chs S) (chm S) (chv V) mo (V 72 i)).2) (mV V 70 (sayF nr (cru S) (chs S) (chm S) (chv V) mo (V 72 i)).2) Q g)) else some (.inr (0, Cl b (mS S 70 (sayF nr (cru S) (chs S) (chm S) (chv V) mo (V 72 i)).2) (mV V 70 (sayF nr (cru S) (chs S) (chm S) (chv V) mo (V 72 i)).2) Q g))) else some (.inr (0, Cl b (mS S 70 mo) (mV V 70 mo) Q g)) := by
      unfold f_X9_breaksAlikeWithout_L42
      rw [if_neg (fun q => absurd ((zi_lt (by omega) (by omega)).mp q) (by omega)), cgR_69_3, Option.bind_some, cN_72, Option.bind_some, if_neg (fun q => absurd ((zi_le (by decide) (by omega)).mp q) (by omega)), zi_one]
      by_cases hgi : i = gone
      · rw [if_pos (by rw [hgi]), if_pos hgi]
      · rw [if_neg (fun q => hgi ((zi_eq (by omega) (by omega)).mp q)), if_neg hgi, cgR_69_2, Option.bind_some, cgI_70_3, Option.bind_some]
        rw [show mS S 70 mo 70 3 = mo 1 from rfl]
        by_cases hm : mo 1 = 0
        · rw [if_pos hm, if_pos hm, cgR_69_0, Option.bind_some, Option.bind_some, Option.bind_some, cl_72 (by omega), Option.bind_some, cO_4]
          rw [show mV V 70 mo 72 = V 72 from rfl]
          have k1 : ∀ q, q < 51 → mS S 70 mo q = S q := fun q hq => up_ne _ _ (by omega)
          have k2 : ∀ q, q < 51 → mV V 70 mo q = V q := fun q hq => up_ne _ _ (by omega)
          have say := X10_say (b := b) (S := mS S 70 mo) (V := mV V 70 mo) (Q := Q) (g := g) (o := 70) (w := V 72 i) (nt := nt) (Or.inr (Or.inr (Or.inr (Or.inr (Or.inr rfl))))) a1 a3 b1 b3 (RI_env k1 a3 ri) (HI_env k1 hI)
          rw [amo_m, mS_mS, mV_mV, sayF_env k1 k2 a3 ri] at say
          rw [say, Option.bind_some]
          have rng := sayF_rng (hs := chs S) (hm := chm S) (hv := chv V) (mo := mo) (w := V 72 i) ri
          generalize sayF nr (cru S) (chs S) (chm S) (chv V) mo (V 72 i) = q at rng ⊢
          show ((zg_R (Cl b (mS S 70 q.2) (mV V 70 q.2) Q g) (b + 69) 7 2).bind fun v22 => _) = _
          rw [cgR_69_2, Option.bind_some]
          have J : ∀ (z bk : Int32), f_X9_ruleBroken (Cl b (mS S 70 q.2) (mV V 70 q.2) Q g) (b + 69) (b + 70) z = some bk → f_X9_breaksAlikeWithout_J111 h0 (b + 69) (zi gone) (zi last) (zi i) z (b + 70) (b + 69) (Cl b (mS S 70 q.2) (mV V 70 q.2) Q g) = if i = last then some (.inr (b01 (bk = S 69 5), Cl b (mS S 70 q.2) (mV V 70 q.2) Q g)) else if bk = 0 then some (.inl (zi (i + 1), Cl b (mS S 70 q.2) (mV V 70 q.2) Q g)) else some (.inr (0, Cl b (mS S 70 q.2) (mV V 70 q.2) Q g)) := by
            intro z bk hz
            unfold f_X9_breaksAlikeWithout_J111
            rw [cO_69, hz, Option.bind_some, cgI_69_5, Option.bind_some, zi_one]
            rw [show mS S 70 q.2 69 5 = S 69 5 from rfl]
            by_cases hl : i = last
            · rw [if_pos (by rw [hl]), if_pos hl]
              by_cases hk : bk = S 69 5
              · rw [if_pos hk, b01_t hk]
                rfl
              · rw [if_neg hk, b01_f hk]
                rfl
            · rw [if_neg (fun q => hl ((zi_eq (by omega) (by omega)).mp q)), if_neg hl]
              rfl
          have e10 : mV V 70 q.2 10 = V 10 := rfl
          rcases rng with ⟨h1, h2⟩ | ⟨r, hr, h1, k, hk, h2⟩ | ⟨f, hf1, hf4, h1, h2⟩
          · have hb := X9_ruleBroken_0 (b := b) (S := mS S 70 q.2) (V := mV V 70 q.2) (Q := Q) (g := g) (o := 70) (nt := nt) (Or.inr (Or.inr (Or.inr (Or.inr (Or.inr rfl))))) c1 c3 (by rw [amo_m]; exact Or.inl h2)
            rw [amo_m, e10] at hb
            rw [if_pos (by rw [h1]; decide), J _ _ hb, flt_0 (by rw [h1]; decide)]
          · have hb := X9_ruleBroken_0 (b := b) (S := mS S 70 q.2) (V := mV V 70 q.2) (Q := Q) (g := g) (o := 70) (nt := nt) (Or.inr (Or.inr (Or.inr (Or.inr (Or.inr rfl))))) c1 c3 (by rw [amo_m]; exact Or.inr ⟨k, hk, h2⟩)
            rw [amo_m, e10] at hb
            have hle : (-1 : Int32) ≤ zi r := by
              rw [Int32.le_iff_toInt_le, zi_int (by omega)]
              show (-1 : Int) ≤ r
              omega
            rw [if_pos (by rw [h1]; exact hle), J _ _ hb, flt_0 (by rw [h1]; exact hle)]
          · have hf : ¬ (-1 : Int32) ≤ -1 - zi f ∧ ¬ flt (-1 - zi f) ≤ 0 := by
              have : f = 1 ∨ f = 2 ∨ f = 3 ∨ f = 4 := by omega
              rcases this with rfl | rfl | rfl | rfl <;> decide
            rw [if_neg (by rw [h1]; exact hf.1), J _ _ X9_ruleBroken_1, h1, brk_pos hf.2]
        · rw [if_neg hm, if_neg hm]
          rfl
    unfold cg
    by_cases hgi : i = gone
    · rw [if_pos hgi] at pre
      obtain ⟨mo', e⟩ := ih (i + 1) mo (by omega)
      refine ⟨mo', ?_⟩
      rw [zz_loop_inl (s' := (zi (i + 1), Cl b (mS S 70 mo) (mV V 70 mo) Q g)) pre, e]
      simp only [if_pos hgi]
    · rw [if_neg hgi] at pre
      by_cases hm : mo 1 = 0
      · rw [if_pos hm] at pre
        by_cases hl2 : i = last
        · rw [if_pos hl2] at pre
          refine ⟨(sayF nr (cru S) (chs S) (chm S) (chv V) mo (V 72 i)).2, (zz_loop_inr pre).trans ?_⟩
          simp only [if_neg hgi, if_pos hm, if_pos hl2, decide_eq_true_eq]
        · rw [if_neg hl2] at pre
          by_cases hk : brk (flt (sayF nr (cru S) (chs S) (chm S) (chv V) mo (V 72 i)).1) (sayF nr (cru S) (chs S) (chm S) (chv V) mo (V 72 i)).2 (V 10) = 0
          · rw [if_pos hk] at pre
            obtain ⟨mo', e⟩ := ih (i + 1) (sayF nr (cru S) (chs S) (chm S) (chv V) mo (V 72 i)).2 (by omega)
            refine ⟨mo', ?_⟩
            rw [zz_loop_inl (s' := (zi (i + 1), Cl b (mS S 70 (sayF nr (cru S) (chs S) (chm S) (chv V) mo (V 72 i)).2) (mV V 70 (sayF nr (cru S) (chs S) (chm S) (chv V) mo (V 72 i)).2) Q g)) pre, e]
            simp only [if_neg hgi, if_pos hm, if_neg hl2, if_pos hk]
          · rw [if_neg hk] at pre
            refine ⟨(sayF nr (cru S) (chs S) (chm S) (chv V) mo (V 72 i)).2, (zz_loop_inr pre).trans ?_⟩
            simp only [if_neg hgi, if_pos hm, if_neg hl2, if_neg hk]
            rfl
      · rw [if_neg hm] at pre
        refine ⟨mo, (zz_loop_inr pre).trans ?_⟩
        simp only [if_neg hgi, if_neg hm]
        rfl
end
