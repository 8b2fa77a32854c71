/-! ===== shrinking: the reference ===== -/
theorem sayF_ru {nr : Nat} {ru ru' : Nat → Nat → Int32} {hs hm : Nat → Int32} {hv : Nat → Nat → Int32} {mo : Nat → Int32} {w : Int32} (h : ∀ r j, j < 9 → ru' r j = ru r j) : sayF nr ru' hs hm hv mo w = sayF nr ru hs hm hv mo w := by
  have h0 := fun r => h r 0 (by decide)
  have h1 := fun r => h r 1 (by decide)
  have h2 := fun r => h r 2 (by decide)
  have h3 := fun r => h r 3 (by decide)
  have h4 := fun r => h r 4 (by decide)
  have h5 := fun r => h r 5 (by decide)
  have h6 := fun r => h r 6 (by decide)
  have h7 := fun r => h r 7 (by decide)
  have h8 := fun r => h r 8 (by decide)
  have ef : ffit nr ru' mo w = ffit nr ru mo w := by
    unfold ffit
    refine fsr_congr (fun r _ _ => ?_)
    unfold fitsP
    rw [h0, h1, h2, h3]
  have ea : ∀ r, actF ru' hs hm hv mo r = actF ru hs hm hv mo r := by
    intro r
    unfold actF
    rw [h4, h5, h6]
  unfold sayF
  rw [ef, ea]
  unfold sayF1
  rw [h7, h8]
theorem mru_ext {V V' : Nat → Nat → Int32} (h : ∀ k, 11 ≤ k → k < 20 → V' k = V k) : ∀ r j, j < 9 → mru V' r j = mru V r j := fun r j hj => by
  unfold mru
  rw [h (11 + j) (by omega) (by omega)]
section
variable {m : Nat} {S : Nat → Int32} {V : Nat → Nat → Int32} {g h0 : ZH} {nr nw nt p : Nat}
theorem X12_cg_after {gone last : Nat} {bk : Int32} {V' : Nat → Nat → Int32} (hbk : ¬ bk = 0) (hl : last < 60) (hne : last ≠ gone) (hg : gone < 60) : ∀ (n j : Nat), j + n = last → zz_loop (fun st : (Int32 × Int32 × ZH) => f_X12_canGo_L35 h0 m (zi gone) (zi last) (st.1) (st.2.1) (st.2.2)) (bk, zi j, Rm m S V' g) = some (0, Rm m S V' g) := by
  intro n
  induction n with
  | zero =>
    intro j hj
    refine zz_loop_inr ?_
    show f_X12_canGo_L35 h0 m (zi gone) (zi last) bk (zi j) _ = _
    unfold f_X12_canGo_L35
    rw [if_neg (fun q => absurd ((zi_lt (by omega) (by omega)).mp q) (by omega)), if_neg (fun q => absurd ((zi_eq (by omega) (by omega)).mp q) (by omega)), rgR_28, Option.bind_some, rlL_28 (by decide), Option.bind_some, if_neg hbk]
    by_cases h : V' 28 1 = 0
    · rw [if_pos h]
      rfl
    · rw [if_neg h]
      rfl
  | succ n ih =>
    intro j hj
    by_cases hgj : j = gone
    · rw [zz_loop_inl (s' := (bk, zi (j + 1), Rm m S V' g)), ih (j + 1) (by omega)]
      show f_X12_canGo_L35 h0 m (zi gone) (zi last) bk (zi j) _ = _
      unfold f_X12_canGo_L35
      rw [if_neg (fun q => absurd ((zi_lt (by omega) (by omega)).mp q) (by omega)), if_pos (by rw [hgj]), zi_one]
    · refine zz_loop_inr ?_
      show f_X12_canGo_L35 h0 m (zi gone) (zi last) bk (zi j) _ = _
      unfold f_X12_canGo_L35
      rw [if_neg (fun q => absurd ((zi_lt (by omega) (by omega)).mp q) (by omega)), if_neg (fun q => absurd ((zi_eq (by omega) (by omega)).mp q) hgj), rgR_28, Option.bind_some, rlL_28 (by decide), Option.bind_some, if_neg hbk]
      by_cases h : V' 28 1 = 0
      · rw [if_pos h]
        rfl
      · rw [if_neg h]
        rfl
theorem X12_cg_loop {gone last : Nat} (a2 : S 10 = zi nr) (a3 : nr ≤ 30) (c3 : nt ≤ 24) (ri : RI nr (mru V) nw nt) (h27 : S 27 = 0) (h39 : ¬ S 39 = 0) (hl : last < 60) (hne : last ≠ gone) (hg : gone < 60) :
    ∀ (n i : Nat) (mo : Nat → Int32), i + n = last + 1 → ∃ mo', zz_loop (fun st : (Int32 × Int32 × ZH) => f_X12_canGo_L35 h0 m (zi gone) (zi last) (st.1) (st.2.1) (st.2.2)) (0, zi i, Rm m S (va_up V 28 mo) g) = some (b01 (cg (sayF nr (mru V) (V 22) (V 23) (mhv V)) (V 9) (V 38) gone last (S 39) n i mo = true), Rm m S (va_up V 28 mo') g) ∧ ∀ k, 12 ≤ k → mo' k = mo k := by
  intro n
  induction n with
  | zero =>
    intro i mo hi
    refine ⟨mo, zz_loop_inr ?_, fun _ _ => rfl⟩
    show f_X12_canGo_L35 h0 m (zi gone) (zi last) 0 (zi i) _ = _
    unfold f_X12_canGo_L35
    rw [if_pos ((zi_lt (by omega) (by omega)).mpr (by omega)), rgI_39, Option.bind_some, if_neg (fun q => h39 q.symm)]
    rfl
  | succ n ih =>
    intro i mo hi
    unfold cg
    by_cases hgi : i = gone
    · obtain ⟨mo', e, hk⟩ := ih (i + 1) mo (by omega)
      refine ⟨mo', ?_, hk⟩
      rw [zz_loop_inl (s' := (0, zi (i + 1), Rm m S (va_up V 28 mo) g)), e]
      · simp only [if_pos hgi]
      · show f_X12_canGo_L35 h0 m (zi gone) (zi last) 0 (zi i) _ = _
        unfold f_X12_canGo_L35
        rw [if_neg (fun q => absurd ((zi_lt (by omega) (by omega)).mp q) (by omega)), if_pos (by rw [hgi]), zi_one]
    · by_cases hm : mo 1 = 0
      · have brkE := X12_breaks (m := m) (S := S) (V := va_up V 28 mo) (g := g) (w := V 38 i) (nt := nt) (nw := nw) a2 a3 c3 ri (by
          rw [saysM_eq0 (V := va_up V 28 mo) (nw := nw) (nt := nt) a3 ri h27]
          intro hf
          have rng := sayF_rng (hs := V 22) (hm := V 23) (hv := mhv V) (mo := mo) (w := V 38 i) ri
          have e : sayF nr (mru (va_up V 28 mo)) (va_up V 28 mo 22) (va_up V 28 mo 23) (mhv (va_up V 28 mo)) (va_up V 28 mo 28) (V 38 i) = sayF nr (mru V) (V 22) (V 23) (mhv V) mo (V 38 i) := by
            rw [sayF_ru (mru_ext (fun k h1 h2 => up_ne _ _ (by omega)))]
            rw [up_self]
            rfl
          rw [e] at hf ⊢
          generalize sayF nr (mru V) (V 22) (V 23) (mhv V) mo (V 38 i) = q at hf rng ⊢
          show q.2 3 < 0 ∨ ∃ k, k < nt ∧ q.2 3 = zi k
          rcases rng with ⟨u1, u2⟩ | ⟨r', hr', u1, k, hk, u2⟩ | ⟨ff, hf1, hf4, u1, u2⟩
          · exact Or.inl (by rw [u2]; decide)
          · exact Or.inr ⟨k, hk, u2⟩
          · exfalso
            have hf' : flt q.1 ≤ 0 := hf
            rw [u1] at hf'
            have : ff = 1 ∨ ff = 2 ∨ ff = 3 ∨ ff = 4 := by omega
            rcases this with rfl | rfl | rfl | rfl <;> exact absurd hf' (by decide))
        rw [saysM_eq0 (V := va_up V 28 mo) (nw := nw) (nt := nt) a3 ri h27] at brkE
        rw [show sayF nr (mru (va_up V 28 mo)) (va_up V 28 mo 22) (va_up V 28 mo 23) (mhv (va_up V 28 mo)) (va_up V 28 mo 28) (V 38 i) = sayF nr (mru V) (V 22) (V 23) (mhv V) mo (V 38 i) from by
          rw [sayF_ru (mru_ext (fun k h1 h2 => up_ne _ _ (by omega)))]
          rw [up_self]
          rfl] at brkE
        have hiq : ∀ k, 12 ≤ k → (sayF nr (mru V) (V 22) (V 23) (mhv V) mo (V 38 i)).2 k = mo k := fun k hk => sayF_hi ri hk
        generalize hq : sayF nr (mru V) (V 22) (V 23) (mhv V) mo (V 38 i) = q at brkE hiq ⊢
        have brkE : f_X12_breaks (Rm m S (va_up V 28 mo) g) m (V 38 i) = some (brk (flt q.1) q.2 (V 9), Rm m S (va_up V 28 q.2) g) := by
          rw [brkE]
          show some (brk (flt q.1) (va_up (va_up V 28 mo) 28 q.2 28) (va_up (va_up V 28 mo) 28 q.2 9), Rm m S (va_up (va_up V 28 mo) 28 q.2) g) = _
          rw [up_up]
          rfl
        have step : f_X12_canGo_L35 h0 m (zi gone) (zi last) 0 (zi i) (Rm m S (va_up V 28 mo) g) = some (.inl (brk (flt q.1) q.2 (V 9), zi (i + 1), Rm m S (va_up V 28 q.2) g)) := by
          unfold f_X12_canGo_L35
          rw [if_neg (fun q => absurd ((zi_lt (by omega) (by omega)).mp q) (by omega)), if_neg (fun q => absurd ((zi_eq (by omega) (by omega)).mp q) hgi), rgR_28, Option.bind_some, rlL_28 (by decide), Option.bind_some, if_pos (show va_up V 28 mo 28 1 = 0 from hm), if_pos rfl, rgR_38, Option.bind_some, rl_38 (by omega), Option.bind_some, rO, show va_up V 28 mo 38 i = V 38 i from rfl, brkE, Option.bind_some]
          show some (Sum.inl (brk (flt q.1) q.2 (V 9), zi i + 1, Rm m S (va_up V 28 q.2) g)) = _
          rw [zi_one]
        by_cases hl2 : i = last
        · refine ⟨q.2, ?_, hiq⟩
          rw [zz_loop_inl (s' := (brk (flt q.1) q.2 (V 9), zi (i + 1), Rm m S (va_up V 28 q.2) g)) step]
          refine (zz_loop_inr (r := (b01 (brk (flt q.1) q.2 (V 9) = S 39), Rm m S (va_up V 28 q.2) g)) ?_).trans ?_
          · show f_X12_canGo_L35 h0 m (zi gone) (zi last) (brk (flt q.1) q.2 (V 9)) (zi (i + 1)) _ = _
            unfold f_X12_canGo_L35
            rw [if_pos ((zi_lt (by omega) (by omega)).mpr (by omega)), rgI_39, Option.bind_some]
            by_cases hk : brk (flt q.1) q.2 (V 9) = S 39
            · rw [if_pos hk, b01_t hk]
              rfl
            · rw [if_neg hk, b01_f hk]
              rfl
          · simp only [if_neg hgi, if_pos hm, if_pos hl2, decide_eq_true_eq]
        · by_cases hk : brk (flt q.1) q.2 (V 9) = 0
          · obtain ⟨mo', e, hk2⟩ := ih (i + 1) q.2 (by omega)
            refine ⟨mo', ?_, fun k h => (hk2 k h).trans (hiq k h)⟩
            rw [zz_loop_inl (s' := (brk (flt q.1) q.2 (V 9), zi (i + 1), Rm m S (va_up V 28 q.2) g)) step, hk, e]
            simp only [if_neg hgi, if_pos hm, if_neg hl2, if_true]
          · refine ⟨q.2, ?_, hiq⟩
            rw [zz_loop_inl (s' := (brk (flt q.1) q.2 (V 9), zi (i + 1), Rm m S (va_up V 28 q.2) g)) step, X12_cg_after hk hl hne hg (last - (i + 1)) (i + 1) (by omega)]
            simp only [if_neg hgi, if_pos hm, if_neg hl2, if_neg hk]
            rfl
      · refine ⟨mo, (zz_loop_inr (r := (0, Rm m S (va_up V 28 mo) g)) ?_).trans ?_, fun _ _ => rfl⟩
        · show f_X12_canGo_L35 h0 m (zi gone) (zi last) 0 (zi i) _ = _
          unfold f_X12_canGo_L35
          rw [if_neg (fun q => absurd ((zi_lt (by omega) (by omega)).mp q) (by omega)), if_neg (fun q => absurd ((zi_eq (by omega) (by omega)).mp q) hgi), rgR_28, Option.bind_some, rlL_28 (by decide), Option.bind_some, if_neg (show ¬ va_up V 28 mo 28 1 = 0 from hm)]
          rfl
        · simp only [if_neg hgi, if_neg hm]
          rfl
theorem bgn0_eq {f : Nat → Int32} {sd : Int32} : bgn0 f sd = bgn f sd := rfl
theorem bgn_hi {f : Nat → Int32} {sd : Int32} {k : Nat} (hk : 12 ≤ k) : bgn f sd k = f k := by
  unfold bgn
  rw [up_ne _ _ (by omega), up_ne _ _ (by omega), bw_out (by omega)]
theorem X12_canGo {i : Nat} (a2 : S 10 = zi nr) (a3 : nr ≤ 30) (c3 : nt ≤ 24) (ri : RI nr (mru V) nw nt) (hI : sfR (sayF nr (mru V) (V 22) (V 23) (mhv V)) (sayF nr (mru V) (V 22) (V 23) (mhv V)) nt) (h27 : S 27 = 0) (h39 : ¬ S 39 = 0) (hp : S 37 = zi p) (hp2 : 2 ≤ p) (hp60 : p ≤ 60) (hi : i < p) :
    ∃ mo', f_X12_canGo (Rm m S V g) m (zi i) = some (b01 (cgo (sayF nr (mru V) (V 22) (V 23) (mhv V)) (V 9) (V 38) p (S 39) (S 3) i = true), Rm m S (va_up (va_up V 28 mo') 29 (bw (V 29) 1 4 (fun _ => 0))) g) ∧ ∀ k, 12 ≤ k → mo' k = V 28 k := by
  unfold f_X12_canGo
  rw [rO, X12_begin, Option.bind_some, rgI_37, Option.bind_some, hp, Option.bind_some, Option.bind_some]
  have eV : beginV S V = va_up (va_up V 29 (bw (V 29) 1 4 (fun _ => 0))) 28 (bgn (V 28) (S 3)) := by
    unfold beginV
    rw [up_comm _ _ _ (show 28 ≠ 29 by decide), bgn0_eq]
  rw [eV]
  unfold f_X12_canGo_J31 cgo
  rw [show zi p - (1 : Int32) = zi (p - 1) from zi_sub (b := 1) (by omega), show zi p - (2 : Int32) = zi (p - 2) from zi_sub (b := 2) (by omega), if_neg (show ¬ p = 1 by omega)]
  have run : ∀ (last : Nat), last < 60 → last ≠ i → ∃ mo', zz_loop (fun st : (Int32 × Int32 × ZH) => f_X12_canGo_L35 (Rm m S V g) m (zi i) (zi last) (st.1) (st.2.1) (st.2.2)) (0, (0 : Int32), Rm m S (va_up (va_up V 29 (bw (V 29) 1 4 (fun _ => 0))) 28 (bgn (V 28) (S 3))) g) = some (b01 (cg (sayF nr (mru V) (V 22) (V 23) (mhv V)) (V 9) (V 38) i last (S 39) (last + 1) 0 (bgn (fun _ => 0) (S 3)) = true), Rm m S (va_up (va_up V 28 mo') 29 (bw (V 29) 1 4 (fun _ => 0))) g) ∧ ∀ k, 12 ≤ k → mo' k = V 28 k := by
    intro last hl hne
    obtain ⟨mo', e, hk⟩ := X12_cg_loop (m := m) (S := S) (V := va_up V 29 (bw (V 29) 1 4 (fun _ => 0))) (g := g) (h0 := Rm m S V g) (gone := i) (last := last) (nw := nw) (nt := nt) a2 a3 c3 ri h27 h39 hl hne (by omega) (last + 1) 0 (bgn (V 28) (S 3)) (by omega)
    refine ⟨mo', ?_, fun k hk2 => (hk k hk2).trans (bgn_hi hk2)⟩
    rw [show (0 : Int32) = zi 0 from rfl] at e ⊢
    refine e.trans ?_
    rw [show sayF nr (mru (va_up V 29 (bw (V 29) 1 4 (fun _ => zi 0)))) (va_up V 29 (bw (V 29) 1 4 (fun _ => zi 0)) 22) (va_up V 29 (bw (V 29) 1 4 (fun _ => zi 0)) 23) (mhv (va_up V 29 (bw (V 29) 1 4 (fun _ => zi 0)))) = sayF nr (mru V) (V 22) (V 23) (mhv V) from by
      have q1 : ∀ mo w, sayF nr (mru (va_up V 29 (bw (V 29) 1 4 (fun _ => zi 0)))) (va_up V 29 (bw (V 29) 1 4 (fun _ => zi 0)) 22) (va_up V 29 (bw (V 29) 1 4 (fun _ => zi 0)) 23) (mhv (va_up V 29 (bw (V 29) 1 4 (fun _ => zi 0)))) mo w = sayF nr (mru V) (V 22) (V 23) (mhv V) mo w := by
        intro mo w
        rw [sayF_ru (mru_ext (fun k h1 h2 => up_ne _ _ (by omega)))]
        rfl
      funext mo w
      exact q1 mo w]
    rw [cg_congr c3 hI (fun _ _ => rfl) (fun _ _ => rfl) (last + 1) 0 (bgn (V 28) (S 3)) (bgn (fun _ => 0) (S 3)) (by omega) bgn_ag, up_comm _ _ _ (show 29 ≠ 28 by decide)]
    rfl
  by_cases hl : i = p - 1
  · rw [if_pos (by rw [hl]), if_pos hl]
    exact run (p - 2) (by omega) (by omega)
  · rw [if_neg (fun q => hl ((zi_eq (by omega) (by omega)).mp q)), if_neg hl]
    exact run (p - 1) (by omega) (by omega)
end
