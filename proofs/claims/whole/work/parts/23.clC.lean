/-! ===== the class: hearing ===== -/
def shownC (V : Nat → Nat → Int32) (t : Int32) : Nat → Nat → Int32 := va_up V 55 (va_up (V 55) (t + 1).toNatClampNeg (V 55 (t + 1).toNatClampNeg + 1))
def hearC (S V : Nat → Nat → Int32) (q : Int32 × (Nat → Int32)) : Int32 × (Nat → Nat → Int32) × (Nat → Nat → Int32) :=
  if q.1 < -1 then (-1 - q.1, va_up (mS S 52 q.2) 51 (va_up (va_up (S 51) 4 (S 51 4 + 1)) 5 (-1 - q.1)), mV V 52 q.2)
  else (0, va_up (mS S 52 q.2) 51 (va_up (S 51) 4 (S 51 4 + 1)), shownC (if q.1 < 0 then mV V 52 q.2 else va_up (mV V 52 q.2) 54 (va_up (V 54) q.1.toNatClampNeg (V 54 q.1.toNatClampNeg + 1))) (q.2 3))
/-- what saying answers: no rule, the rule that was done, or a fault; and the latest text -/
theorem sayF_rng {nr nw nt : Nat} {ru : Nat → Nat → Int32} {hs hm : Nat → Int32} {hv : Nat → Nat → Int32} {mo : Nat → Int32} {w : Int32} (hRI : RI nr ru nw nt) :
    ((sayF nr ru hs hm hv mo w).1 = -1 ∧ (sayF nr ru hs hm hv mo w).2 3 = -1) ∨ (∃ r, r < nr ∧ (sayF nr ru hs hm hv mo w).1 = zi r ∧ ∃ k, k < nt ∧ (sayF nr ru hs hm hv mo w).2 3 = zi k) ∨ (∃ f, 1 ≤ f ∧ f ≤ 4 ∧ (sayF nr ru hs hm hv mo w).1 = -1 - zi f ∧ (sayF nr ru hs hm hv mo w).2 = mo) := by
  unfold sayF
  by_cases h : w < 0 ∨ ffit nr ru mo w = nr
  · rw [if_pos h]
    exact Or.inl ⟨rfl, rfl⟩
  · rw [if_neg h]
    have hr : ffit nr ru mo w < nr := by
      obtain ⟨-, g2, -⟩ := fsr_spec (fun r => decide (fitsP ru mo w r)) nr 0
      rw [show fsr (fun r => decide (fitsP ru mo w r)) nr 0 = ffit nr ru mo w from rfl] at g2
      have : ¬ ffit nr ru mo w = nr := fun q => h (Or.inr q)
      omega
    generalize ffit nr ru mo w = r at hr ⊢
    obtain ⟨-, -, -, -, ⟨k, hk, ek⟩, -⟩ := hRI r hr
    unfold sayF1
    rcases actF_rng ru hs hm hv mo r with q | ⟨q, e⟩
    · rw [if_pos q]
      exact Or.inr (Or.inl ⟨r, hr, rfl, k, hk, by rw [← ek]; rfl⟩)
    · have h0 : ¬ (actF ru hs hm hv mo r).1 = 0 := by
        rcases q with q | q | q | q <;> rw [q] <;> decide
      rw [if_neg h0]
      refine Or.inr (Or.inr ?_)
      rcases q with q | q | q | q
      · exact ⟨1, by omega, by omega, by rw [q]; rfl, e⟩
      · exact ⟨2, by omega, by omega, by rw [q]; rfl, e⟩
      · exact ⟨3, by omega, by omega, by rw [q]; rfl, e⟩
      · exact ⟨4, by omega, by omega, by rw [q]; rfl, e⟩
theorem zi_m1 (k : Nat) : zi k + (1 : Int32) = zi (k + 1) := zi_one k
section
variable {b : Nat} {S V : Nat → Nat → Int32} {Q : Nat → Option Nat} {g : ZH} {o : Nat}
theorem X8_hear {nr nw nt : Nat} {w : Int32} (hnr : S 4 4 = zi nr) (hn30 : nr ≤ 30) (hnw : S 5 3 = zi nw) (hn16 : nw ≤ 16) (hnt : nt ≤ 24) (hRI : RI nr (cru S) nw nt) (hHI : HI (chs S) (chm S)) : f_X8_hear (Cl b S V Q g) (b + 51) w = some ((hearC S V (sayF nr (cru S) (chs S) (chm S) (chv V) (amo S V 52) w)).1, Cl b (hearC S V (sayF nr (cru S) (chs S) (chm S) (chv V) (amo S V 52) w)).2.1 (hearC S V (sayF nr (cru S) (chs S) (chm S) (chv V) (amo S V 52) w)).2.2 Q g) := by
  unfold f_X8_hear
  rw [cgR_51_0, Option.bind_some, cgR_51_1, Option.bind_some, cO_4, X10_say (Or.inl rfl) hnr hn30 hnw hn16 hRI hHI, Option.bind_some]
  have rng := sayF_rng (hs := chs S) (hm := chm S) (hv := chv V) (mo := amo S V 52) (w := w) hRI
  generalize sayF nr (cru S) (chs S) (chm S) (chv V) (amo S V 52) w = q at rng ⊢
  unfold hearC
  dsimp only
  rw [cgI_51_4, Option.bind_some, cp_51_4, Option.bind_some]
  rw [show mS S 52 q.2 51 = S 51 from rfl]
  have J63 : ∀ (h : ZH) (V' : Nat → Nat → Int32) (S' : Nat → Nat → Int32) (k : Nat), k < 25 → S' 52 4 + 1 = zi k → f_X8_hear_J63 h (b + 51) w (Cl b S' V' Q g) = some (0, Cl b S' (va_up V' 55 (va_up (V' 55) k (V' 55 k + 1))) Q g) := by
    intro h V' S' k hk ek
    unfold f_X8_hear_J63
    rw [cgR_51_1, Option.bind_some, cgI_52_4, Option.bind_some, zz_let, ek, if_neg (zi_neg (by omega)), cgR_51_3, Option.bind_some, cN_55, Option.bind_some, if_neg (fun q => absurd ((zi_le (by decide) (by omega)).mp q) (by omega)), Option.bind_some, cl_55 hk, Option.bind_some, cs_55 _ hk, Option.bind_some]
  have row4 : va_up (mS S 52 q.2) 51 (va_up (S 51) 4 (S 51 4 + 1)) 52 4 = q.2 3 := rfl
  rcases rng with ⟨h1, h2⟩ | ⟨r, hr, h1, k, hk, h2⟩ | ⟨f, hf1, hf4, h1, h2⟩
  · rw [h1, if_pos (by decide), if_pos (by decide), if_neg (by decide)]
    rw [J63 _ _ _ 0 (by decide) (by rw [row4, h2]; rfl)]
    unfold shownC
    rw [h2, if_pos (by decide)]
    rfl
  · have hlt : (-1 : Int32) ≤ zi r := by
      rw [Int32.le_iff_toInt_le, zi_int (by omega)]
      show (-1 : Int) ≤ r
      omega
    have hnl : ¬ zi r < (-1 : Int32) := by
      rw [Int32.lt_iff_toInt_lt, zi_int (by omega)]
      show ¬ (r : Int) < -1
      omega
    rw [h1, if_pos hlt, if_neg (zi_neg (by omega)), cgR_51_2, Option.bind_some, cN_54, Option.bind_some, if_neg (fun q => absurd ((zi_le (by decide) (by omega)).mp q) (by omega)), Option.bind_some, cl_54 (by omega), Option.bind_some, cs_54 _ (by omega), Option.bind_some, if_neg hnl]
    rw [J63 _ _ _ (k + 1) (by omega) (by rw [row4, h2, zi_one])]
    unfold shownC
    rw [h2, if_neg (zi_neg (by omega)), zi_one, zi_nat (by omega), zi_nat (by omega)]
    rfl
  · have hlt : (-1 : Int32) - zi f < (-1 : Int32) := by
      have : f = 1 ∨ f = 2 ∨ f = 3 ∨ f = 4 := by omega
      rcases this with rfl | rfl | rfl | rfl <;> decide
    have hnl : ¬ (-1 : Int32) ≤ (-1 : Int32) - zi f := by
      have : f = 1 ∨ f = 2 ∨ f = 3 ∨ f = 4 := by omega
      rcases this with rfl | rfl | rfl | rfl <;> decide
    rw [h1, if_neg hnl, cp_51_5, Option.bind_some, cgI_51_5, Option.bind_some, if_pos hlt, up_up, up_self, up_self, up_self]
theorem X8_begin : f_X8_begin (Cl b S V Q g) (b + 51) = some (Cl b (mS S 52 (bgn (amo S V 52) (S 4 5))) (mV V 52 (bgn (amo S V 52) (S 4 5))) Q g) := by
  unfold f_X8_begin
  rw [cgR_51_1, Option.bind_some, cgR_51_0, Option.bind_some, cgI_4_5, Option.bind_some, cO_52, X4_begin (Or.inl rfl), Option.bind_some]
theorem X4_become {o2 : Nat} (hM : isM o) (hM2 : isM o2) (hne : o ≠ o2) : f_X4_become (Cl b S V Q g) (b + o) (b + o2) = some (Cl b (mS S o (bw (amo S V o) 0 12 (amo S V o2))) (mV V o (bw (amo S V o) 0 12 (amo S V o2))) Q g) := by
  have hd : o2 ≠ o + 1 ∧ o2 + 1 ≠ o + 1 := by
    unfold isM at hM hM2
    omega
  unfold f_X4_become
  have key := loop_cnt (b := fun st : (Int32 × ZH) => f_X4_become_L2 (Cl b S V Q g) (b + o) (b + o2) (st.1) (st.2)) 8 (fun i => Cl b S (va_up V (o + 1) (bw (V (o + 1)) 0 i (V (o2 + 1)))) Q g) (Cl b (mS S o (bw (amo S V o) 0 12 (amo S V o2))) (mV V o (bw (amo S V o) 0 12 (amo S V o2))) Q g) 0 (by decide) (fun i _ hi => by
      show f_X4_become_L2 (Cl b S V Q g) (b + o) (b + o2) (zi i) _ = _
      unfold f_X4_become_L2
      rw [cM_R hM, Option.bind_some, cM_N hM, Option.bind_some, if_neg (fun q => absurd ((zi_le (by decide) (by omega)).mp q) (by omega)), Option.bind_some, cM_O hM2, X4_flag hM2 hi, Option.bind_some, cM_s _ hM hi, Option.bind_some, up_up, up_self, zi_one, amo_4, up_ne _ _ hd.2]
      have e := bw_up (V (o + 1)) 0 i (V (o2 + 1))
      rw [Nat.zero_add] at e
      rw [e]) (by
      show f_X4_become_L2 (Cl b S V Q g) (b + o) (b + o2) (zi 8) _ = _
      unfold f_X4_become_L2
      have hn2 : o2 ≠ o := fun e => hne e.symm
      rw [cM_R hM, Option.bind_some, cM_N hM, Option.bind_some, if_pos (by decide), cM_1 hM2, Option.bind_some, cM_p1 _ hM, Option.bind_some, cM_2 hM2, Option.bind_some, cM_p2 _ hM, Option.bind_some, cM_3 hM2, Option.bind_some, cM_p3 _ hM, Option.bind_some, cM_4 hM2, Option.bind_some, cM_p4 _ hM, Option.bind_some, Option.map_some]
      simp only [up_up, up_self, up_ne _ _ hn2]
      congr 3
      · funext q k
        unfold mS
        by_cases hq : q = o
        · subst hq
          simp only [up_self]
          match k with
          | 0 => rfl
          | 1 => rfl
          | 2 => rfl
          | 3 => rfl
          | 4 => rfl
          | k + 5 => rfl
        · simp only [up_ne _ _ hq]
      · unfold mV
        congr 1
        funext j
        by_cases hj : j < 8
        · rw [show bw (V (o + 1)) 0 8 (V (o2 + 1)) j = V (o2 + 1) j from by unfold bw; rw [if_pos (by omega)]; rfl]
          unfold bw
          rw [if_pos (by omega), Nat.sub_zero, amo_4]
        · rw [bw_out (by omega), bw_out (by omega), amo_4])
  rw [show (0 : Int32) = zi 0 from rfl]
  rw [bw_0, up_id] at key
  exact key
end
