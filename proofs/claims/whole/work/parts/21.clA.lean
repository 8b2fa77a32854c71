/-! ===== the class: moments ===== -/
def amo (S V : Nat → Nat → Int32) (o : Nat) : Nat → Int32 := fun k => if k = 0 then S o 1 else if k = 1 then S o 3 else if k = 2 then S o 2 else if k = 3 then S o 4 else V (o + 1) (k - 4)
def mS (S : Nat → Nat → Int32) (o : Nat) (mo : Nat → Int32) : Nat → Nat → Int32 := va_up S o (fun k => if k = 1 then mo 0 else if k = 2 then mo 2 else if k = 3 then mo 1 else if k = 4 then mo 3 else S o k)
def mV (V : Nat → Nat → Int32) (o : Nat) (mo : Nat → Int32) : Nat → Nat → Int32 := va_up V (o + 1) (fun j => mo (4 + j))
section
variable {S V : Nat → Nat → Int32} {o : Nat}
theorem amo_4 (j : Nat) : amo S V o (4 + j) = V (o + 1) j := by
  unfold amo
  rw [if_neg (by omega), if_neg (by omega), if_neg (by omega), if_neg (by omega), Nat.add_sub_cancel_left]
theorem amo_m {mo : Nat → Int32} : amo (mS S o mo) (mV V o mo) o = mo := by
  funext k
  unfold amo mS mV
  simp only [up_self]
  match k with
  | 0 => rfl
  | 1 => rfl
  | 2 => rfl
  | 3 => rfl
  | k + 4 =>
    rw [if_neg (by omega), if_neg (by omega), if_neg (by omega), if_neg (by omega)]
    congr 1
    omega
theorem mS_id : mS S o (amo S V o) = S := by
  funext q k
  unfold mS
  by_cases hq : q = o
  · subst hq
    rw [up_self]
    match k with
    | 0 => rfl
    | 1 => rfl
    | 2 => rfl
    | 3 => rfl
    | 4 => rfl
    | k + 5 => rfl
  · rw [up_ne _ _ hq]
theorem mV_id : mV V o (amo S V o) = V := by
  unfold mV
  rw [show (fun j => amo S V o (4 + j)) = V (o + 1) from by funext j; exact amo_4 j, up_id]
theorem mS_mS {m1 m2 : Nat → Int32} : mS (mS S o m1) o m2 = mS S o m2 := by
  funext q k
  unfold mS
  rw [up_up]
  by_cases hq : q = o
  · subst hq
    rw [up_self, up_self, up_self]
    match k with
    | 0 => rfl
    | 1 => rfl
    | 2 => rfl
    | 3 => rfl
    | 4 => rfl
    | k + 5 => rfl
  · rw [up_ne _ _ hq, up_ne _ _ hq]
theorem mV_mV {m1 m2 : Nat → Int32} : mV (mV V o m1) o m2 = mV V o m2 := up_up _ _ _ _
theorem mS_0 (v : Int32) : mS S o (va_up (amo S V o) 0 v) = va_up S o (va_up (S o) 1 v) := by
  funext q k
  unfold mS
  by_cases hq : q = o
  · subst hq
    simp only [up_self]
    match k with
    | 0 => rfl
    | 1 => rfl
    | 2 => rfl
    | 3 => rfl
    | 4 => rfl
    | k + 5 => rfl
  · rw [up_ne _ _ hq, up_ne _ _ hq]
theorem mS_1 (v : Int32) : mS S o (va_up (amo S V o) 1 v) = va_up S o (va_up (S o) 3 v) := by
  funext q k
  unfold mS
  by_cases hq : q = o
  · subst hq
    simp only [up_self]
    match k with
    | 0 => rfl
    | 1 => rfl
    | 2 => rfl
    | 3 => rfl
    | 4 => rfl
    | k + 5 => rfl
  · rw [up_ne _ _ hq, up_ne _ _ hq]
theorem mS_2 (v : Int32) : mS S o (va_up (amo S V o) 2 v) = va_up S o (va_up (S o) 2 v) := by
  funext q k
  unfold mS
  by_cases hq : q = o
  · subst hq
    simp only [up_self]
    match k with
    | 0 => rfl
    | 1 => rfl
    | 2 => rfl
    | 3 => rfl
    | 4 => rfl
    | k + 5 => rfl
  · rw [up_ne _ _ hq, up_ne _ _ hq]
theorem mS_3 (v : Int32) : mS S o (va_up (amo S V o) 3 v) = va_up S o (va_up (S o) 4 v) := by
  funext q k
  unfold mS
  by_cases hq : q = o
  · subst hq
    simp only [up_self]
    match k with
    | 0 => rfl
    | 1 => rfl
    | 2 => rfl
    | 3 => rfl
    | 4 => rfl
    | k + 5 => rfl
  · rw [up_ne _ _ hq, up_ne _ _ hq]
theorem mV_lo {k : Nat} (hk : k < 4) (v : Int32) : mV V o (va_up (amo S V o) k v) = V := by
  unfold mV
  rw [show (fun j => va_up (amo S V o) k v (4 + j)) = V (o + 1) from by funext j; rw [up_ne _ _ (by omega)]; exact amo_4 j, up_id]
theorem mS_hi (j : Nat) (v : Int32) : mS S o (va_up (amo S V o) (4 + j) v) = S := by
  have e : mS S o (va_up (amo S V o) (4 + j) v) = mS S o (amo S V o) := by
    unfold mS
    rw [up_ne _ _ (by omega), up_ne _ _ (by omega), up_ne _ _ (by omega), up_ne _ _ (by omega)]
  rw [e, mS_id]
theorem mV_hi (j : Nat) (v : Int32) : mV V o (va_up (amo S V o) (4 + j) v) = va_up V (o + 1) (va_up (V (o + 1)) j v) := by
  unfold mV
  congr 1
  funext i
  by_cases h : i = j
  · subst h
    rw [up_self, up_self]
  · rw [up_ne _ _ (by omega), up_ne _ _ h, amo_4]
end
section
variable {b : Nat} {S V : Nat → Nat → Int32} {Q : Nat → Option Nat} {g : ZH} {o : Nat}
theorem X4_flag {j : Nat} (hM : isM o) (hj : j < 8) : f_X4_flag (Cl b S V Q g) (b + o) (zi j) = some (amo S V o (4 + j)) := by
  unfold f_X4_flag
  rw [if_neg (zi_neg (by omega)), cM_R hM, Option.bind_some, cM_N hM, Option.bind_some, if_pos ((zi_lt (by omega) (by decide)).mpr hj), Option.bind_some, cM_l hM hj, Option.bind_some, amo_4]
theorem X4_setFlag {j : Nat} {v : Int32} (hM : isM o) (hj : j < 8) : f_X4_setFlag (Cl b S V Q g) (b + o) (zi j) v = some (Cl b (mS S o (va_up (amo S V o) (4 + j) v)) (mV V o (va_up (amo S V o) (4 + j) v)) Q g) := by
  unfold f_X4_setFlag
  rw [if_neg (zi_neg (by omega)), cM_R hM, Option.bind_some, cM_N hM, Option.bind_some, if_neg (fun q => absurd ((zi_le (by decide) (by omega)).mp q) (by omega)), Option.bind_some, cM_s _ hM hj, Option.bind_some, mS_hi, mV_hi]
theorem X4_hasFlagBelowZero (hM : isM o) : f_X4_hasFlagBelowZero (Cl b S V Q g) (b + o) = some (b01 (fsr (fun k => decide (amo S V o (4 + k) < 0)) 8 0 < 8)) := by
  unfold f_X4_hasFlagBelowZero
  obtain ⟨g1, g2, g3, g4⟩ := fsr_spec (fun k => decide (amo S V o (4 + k) < 0)) 8 0
  generalize fsr (fun k => decide (amo S V o (4 + k) < 0)) 8 0 = k at g1 g2 g3 g4 ⊢
  have st : ∀ i, i < 8 → f_X4_hasFlagBelowZero_L2 (Cl b S V Q g) (b + o) (zi i) = if amo S V o (4 + i) < 0 then some (.inr 1) else some (.inl (zi (i + 1))) := by
    intro i hi
    unfold f_X4_hasFlagBelowZero_L2
    rw [cM_R hM, Option.bind_some, cM_N hM, Option.bind_some, if_neg (fun q => absurd ((zi_le (by decide) (by omega)).mp q) (by omega)), Option.bind_some, cM_l hM hi, Option.bind_some, amo_4]
    by_cases h : V (o + 1) i < 0
    · rw [if_pos h, if_neg (by rw [Int32.le_iff_toInt_le]; rw [Int32.lt_iff_toInt_lt] at h; omega)]
      rfl
    · rw [if_neg h, if_pos (by rw [Int32.le_iff_toInt_le]; rw [Int32.lt_iff_toInt_lt] at h; omega), zi_one]
  rw [show (0 : Int32) = zi 0 from rfl, loop_to (b := fun st : Int32 => f_X4_hasFlagBelowZero_L2 (Cl b S V Q g) (b + o) st) zi 0 k g1 (fun i h1 h2 => by
    show f_X4_hasFlagBelowZero_L2 (Cl b S V Q g) (b + o) (zi i) = _
    rw [st i (by omega), if_neg (of_decide_eq_false (g3 i h1 h2))])]
  by_cases hk : k < 8
  · rw [b01_t hk]
    refine zz_loop_inr ?_
    show f_X4_hasFlagBelowZero_L2 (Cl b S V Q g) (b + o) (zi k) = _
    rw [st k hk, if_pos (of_decide_eq_true (g4 (by omega)))]
  · rw [b01_f hk]
    refine zz_loop_inr ?_
    show f_X4_hasFlagBelowZero_L2 (Cl b S V Q g) (b + o) (zi k) = _
    unfold f_X4_hasFlagBelowZero_L2
    rw [cM_R hM, Option.bind_some, cM_N hM, Option.bind_some, if_pos ((zi_le (by decide) (by omega)).mpr (by omega))]
    rfl
/-- a moment's beginning -/
def bgn (f : Nat → Int32) (sd : Int32) : Nat → Int32 := va_up (va_up (bw f 0 12 (fun _ => 0)) 2 sd) 3 (-2)
theorem X4_begin {sd : Int32} (hM : isM o) : f_X4_begin (Cl b S V Q g) (b + o) sd = some (Cl b (mS S o (bgn (amo S V o) sd)) (mV V o (bgn (amo S V o) sd)) Q g) := by
  unfold f_X4_begin
  have key := loop_cnt (b := fun st : (Int32 × ZH) => f_X4_begin_L2 (Cl b S V Q g) (b + o) sd (st.1) (st.2)) 8 (fun i => Cl b S (va_up V (o + 1) (bw (V (o + 1)) 0 i (fun _ => 0))) Q g) (Cl b (mS S o (bgn (amo S V o) sd)) (mV V o (bgn (amo S V o) sd)) Q g) 0 (by decide) (fun i _ hi => by
      show f_X4_begin_L2 (Cl b S V Q g) (b + o) sd (zi i) _ = _
      unfold f_X4_begin_L2
      rw [cM_R hM, Option.bind_some, cM_N hM, Option.bind_some, if_neg (fun q => absurd ((zi_le (by decide) (by omega)).mp q) (by omega)), Option.bind_some, cM_s _ hM hi, Option.bind_some, up_up, up_self, zi_one]
      have e := bw_up (V (o + 1)) 0 i (fun _ => (0 : Int32))
      rw [Nat.zero_add] at e
      rw [e]) (by
      show f_X4_begin_L2 (Cl b S V Q g) (b + o) sd (zi 8) _ = _
      unfold f_X4_begin_L2
      rw [cM_R hM, Option.bind_some, cM_N hM, Option.bind_some, if_pos (by decide), cM_p1 _ hM, Option.bind_some, cM_p2 _ hM, Option.bind_some, cM_p3 _ hM, Option.bind_some, cM_p4 _ hM, Option.bind_some, Option.map_some]
      congr 3
      · funext q k
        unfold mS bgn
        by_cases hq : q = o
        · subst hq
          simp only [up_self]
          match k with
          | 0 => rfl
          | 1 => rfl
          | 2 => rfl
          | 3 => rfl
          | 4 => rfl
          | k + 5 => rfl
        · simp only [up_ne _ _ hq]
      · unfold mV
        congr 1
        funext j
        unfold bgn
        rw [up_ne _ _ (by omega), up_ne _ _ (by omega)]
        by_cases hj : j < 8
        · rw [show bw (V (o + 1)) 0 8 (fun _ => (0 : Int32)) j = 0 from by unfold bw; rw [if_pos (by omega)]]
          unfold bw
          rw [if_pos (by omega)]
        · rw [bw_out (by omega), bw_out (by omega), amo_4])
  rw [show (0 : Int32) = zi 0 from rfl]
  rw [bw_0, up_id] at key
  exact key
/-! ===== rules and holders ===== -/
def cru (S : Nat → Nat → Int32) : Nat → Nat → Int32 := fun r j => S (13 + r) j
def chs (S : Nat → Nat → Int32) : Nat → Int32 := fun a => S (43 + 2 * a) 1
def chm (S : Nat → Nat → Int32) : Nat → Int32 := fun a => S (43 + 2 * a) 2
def chv (V : Nat → Nat → Int32) : Nat → Nat → Int32 := fun a j => V (44 + 2 * a) j
def HI (hs hm : Nat → Int32) : Prop := ∀ a, a < 4 → hs a = 0 ∨ (hs a = 1 ∧ hm a = 1) ∨ (hs a = 2 ∧ ∃ c, 1 ≤ c ∧ c ≤ 4 ∧ hm a = zi c)
theorem X6_fits {r nr nw nt : Nat} {w : Int32} (hM : isM o) (hr : r < 30) (hRI : RI nr (cru S) nw nt) (hrn : r < nr) : f_X6_fits (Cl b S V Q g) (b + (13 + r)) (b + o) w = some (b01 (fitsP (cru S) (amo S V o) w r)) := by
  obtain ⟨⟨hr0, hr1⟩, -, ⟨hf0, hf1⟩, -⟩ := hRI r hrn
  have neg1 : ∀ {x : Int32}, (-1 : Int32) ≤ x → (x < 0 ↔ x = -1) := by
    intro x hx
    rw [Int32.le_iff_toInt_le] at hx
    rw [Int32.lt_iff_toInt_lt, ← Int32.toInt_inj]
    have e1 : (-1 : Int32).toInt = -1 := rfl
    have e2 : (0 : Int32).toInt = 0 := rfl
    omega
  have J : f_X6_fits_J31 (Cl b S V Q g) (b + (13 + r)) (b + o) w = some (b01 (cru S r 2 < 0 ∨ cru S r 3 ≤ amo S V o (4 + (cru S r 2).toNatClampNeg))) := by
    unfold f_X6_fits_J31
    rw [cgI_ru_2 hr, Option.bind_some]
    rw [show S (13 + r) 2 = cru S r 2 from rfl]
    by_cases h1 : cru S r 2 = -1
    · rw [if_pos h1, b01_t (Or.inl ((neg1 hf0).mpr h1))]
    · have h2 : ¬ cru S r 2 < 0 := fun q => h1 ((neg1 hf0).mp q)
      obtain ⟨k, hk, e⟩ := zi_rng (u := 7) (x := cru S r 2) (by rw [Int32.le_iff_toInt_le]; rw [Int32.lt_iff_toInt_lt] at h2; omega) hf1 (by decide)
      rw [if_neg h1, Option.bind_some, cM_O hM, e, X4_flag hM (by omega), Option.bind_some, cgI_ru_3 hr, Option.bind_some, zi_nat (by omega)]
      rw [show S (13 + r) 3 = cru S r 3 from rfl]
      by_cases h3 : amo S V o (4 + k) < cru S r 3
      · rw [if_pos h3, b01_f]
        intro q
        rcases q with q | q
        · exact zi_neg (by omega) q
        · rw [Int32.le_iff_toInt_le] at q
          rw [Int32.lt_iff_toInt_lt] at h3
          omega
      · rw [if_neg h3, b01_t]
        refine Or.inr ?_
        rw [Int32.le_iff_toInt_le]
        rw [Int32.lt_iff_toInt_lt] at h3
        omega
  unfold f_X6_fits
  rw [cgI_ru_1 hr, Option.bind_some, show S (13 + r) 1 = cru S r 1 from rfl]
  by_cases h1 : cru S r 1 = w
  · rw [if_pos h1, cgI_ru_0 hr, Option.bind_some, show S (13 + r) 0 = cru S r 0 from rfl, J]
    by_cases h2 : cru S r 0 = -1
    · rw [if_pos h2]
      refine congrArg some (b01_congr ⟨fun q => ⟨h1.symm, Or.inl ((neg1 hr0).mpr h2), q⟩, fun q => q.2.2⟩)
    · rw [if_neg h2, Option.bind_some, cM_1 hM, Option.bind_some]
      by_cases h3 : cru S r 0 = S o 1
      · rw [if_pos h3]
        refine congrArg some (b01_congr ⟨fun q => ⟨h1.symm, Or.inr h3, q⟩, fun q => q.2.2⟩)
      · rw [if_neg h3, b01_f]
        intro q
        rcases q.2.1 with q2 | q2
        · exact h2 ((neg1 hr0).mp q2)
        · exact h3 q2
  · rw [if_neg h1, b01_f (fun q => h1 q.1.symm)]
theorem X10_firstThatFits {nr nw nt : Nat} {w : Int32} (hM : isM o) (hnr : S 4 4 = zi nr) (hn30 : nr ≤ 30) (hRI : RI nr (cru S) nw nt) : f_X10_firstThatFits (Cl b S V Q g) (b + 4) (b + o) w = some (if ffit nr (cru S) (amo S V o) w = nr then -1 else zi (ffit nr (cru S) (amo S V o) w)) := by
  unfold f_X10_firstThatFits
  obtain ⟨g1, g2, g3, g4⟩ := fsr_spec (fun r => decide (fitsP (cru S) (amo S V o) w r)) nr 0
  rw [show fsr (fun r => decide (fitsP (cru S) (amo S V o) w r)) nr 0 = ffit nr (cru S) (amo S V o) w from rfl] at g1 g2 g3 g4
  generalize ffit nr (cru S) (amo S V o) w = k at g1 g2 g3 g4 ⊢
  rw [Nat.zero_add] at g2 g4
  have st : ∀ i, i < nr → f_X10_firstThatFits_L2 (Cl b S V Q g) (b + 4) (b + o) w (zi i) = if fitsP (cru S) (amo S V o) w i then some (.inr (zi i)) else some (.inl (zi (i + 1))) := by
    intro i hi
    unfold f_X10_firstThatFits_L2
    rw [cgI_4_4, Option.bind_some, hnr, if_neg (fun q => absurd ((zi_le (by omega) (by omega)).mp q) (by omega)), cgR_4_2, Option.bind_some, cN_11, Option.bind_some, if_neg (fun q => absurd ((zi_le (by decide) (by omega)).mp q) (by omega)), Option.bind_some, cl_ru (by omega), Option.bind_some, cO_ru (by omega), X6_fits hM (by omega) hRI hi, Option.bind_some]
    by_cases h : fitsP (cru S) (amo S V o) w i
    · rw [if_pos h, b01_t h, if_neg (by decide)]
      rfl
    · rw [if_neg h, b01_f h, if_pos rfl, zi_one]
  rw [show (0 : Int32) = zi 0 from rfl, loop_to (b := fun st : Int32 => f_X10_firstThatFits_L2 (Cl b S V Q g) (b + 4) (b + o) w st) zi 0 k g1 (fun i h1 h2 => by
    show f_X10_firstThatFits_L2 (Cl b S V Q g) (b + 4) (b + o) w (zi i) = _
    rw [st i (by omega), if_neg (of_decide_eq_false (g3 i h1 h2))])]
  refine zz_loop_inr ?_
  show f_X10_firstThatFits_L2 (Cl b S V Q g) (b + 4) (b + o) w (zi k) = _
  by_cases hk : k < nr
  · rw [st k hk, if_pos (of_decide_eq_true (g4 hk)), if_neg (by omega)]
  · unfold f_X10_firstThatFits_L2
    rw [cgI_4_4, Option.bind_some, hnr, if_pos ((zi_le (by omega) (by omega)).mpr (by omega)), if_pos (by omega)]
    rfl
end
