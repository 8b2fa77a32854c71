def bgn0 (f : Nat → Int32) (sd : Int32) : Nat → Int32 := va_up (va_up (bw f 0 12 (fun _ => 0)) 2 sd) 3 (-2)
section
variable {m : Nat} {S : Nat → Int32} {V : Nat → Nat → Int32} {g : ZH}
def beginV (S : Nat → Int32) (V : Nat → Nat → Int32) : Nat → Nat → Int32 := va_up (va_up V 28 (bgn0 (V 28) (S 3))) 29 (bw (V 29) 1 4 (fun _ => 0))
theorem X12_begin : f_X12_begin (Rm m S V g) m = some (Rm m S (beginV S V) g) := by
  have in2 : ∀ (h : ZH) (V' : Nat → Nat → Int32), zz_loop (fun st : (Int32 × ZH) => f_X12_begin_L41 h m (st.1) (st.2)) ((1 : Int32), Rm m S V' g) = some (Rm m S (va_up V' 29 (bw (V' 29) 1 4 (fun _ => 0))) g) := by
    intro h V'
    have key := loop_cnt (b := fun st : (Int32 × ZH) => f_X12_begin_L41 h m (st.1) (st.2)) 5 (fun i => Rm m S (va_up V' 29 (bw (V' 29) 1 (i - 1) (fun _ => 0))) g) (Rm m S (va_up V' 29 (bw (V' 29) 1 4 (fun _ => 0))) g) 1 (by decide) (fun i hi0 hi => by
        show f_X12_begin_L41 h m (zi i) _ = _
        unfold f_X12_begin_L41
        rw [if_neg (fun q => absurd ((zi_Lle (by omega) (by decide)).mp q) (by omega)), rgR_29, Option.bind_some, rs_29 _ (by omega), Option.bind_some, up_up, up_self, zi_one]
        have e := bw_up (V' 29) 1 (i - 1) (fun _ => (0 : Int32))
        rw [show 1 + (i - 1) = i by omega, show i - 1 + 1 = i by omega] at e
        rw [show vp_nar .boolean 0 = (0 : Int32) from rfl, e]
        rfl) (by
        show f_X12_begin_L41 h m (zi 5) _ = _
        unfold f_X12_begin_L41
        rw [if_pos (by decide)]
        rfl)
    rw [show 1 - 1 = 0 from rfl, bw_0, up_id] at key
    exact key
  unfold f_X12_begin
  have key := loop_cnt (b := fun st : (Int32 × ZH) => f_X12_begin_L2 (Rm m S V g) m (st.1) (st.2)) 12 (fun i => Rm m S (va_up V 28 (bw (V 28) 0 i (fun _ => 0))) g) (Rm m S (beginV S V) g) 0 (by decide) (fun i _ hi => by
      show f_X12_begin_L2 (Rm m S V g) m (zi i) _ = _
      unfold f_X12_begin_L2
      rw [if_neg (fun q => absurd ((zi_Lle (by omega) (by decide)).mp q) (by omega)), rgR_28, Option.bind_some, rs_28 _ (by omega), Option.bind_some, up_up, up_self, zi_one]
      have e := bw_up (V 28) 0 i (fun _ => (0 : Int32))
      rw [Nat.zero_add] at e
      rw [e]) (by
      show f_X12_begin_L2 (Rm m S V g) m (zi 12) _ = _
      unfold f_X12_begin_L2
      rw [if_pos (by decide), rgR_28, Option.bind_some, rgI_3, Option.bind_some, rsL_28 _ (by decide), Option.bind_some, rgR_28, Option.bind_some, rsL_28 _ (by decide), Option.bind_some, in2, Option.map_some, up_up, up_up, up_self, up_self]
      rfl)
  rw [bw_0, up_id] at key
  exact key
theorem X12_copy {f t : Nat} (hf : f ≤ 5) (ht : t ≤ 5) (hne : f ≠ t) : f_X12_copy (Rm m S V g) m (zi f) (zi t) = some (Rm m S (va_up V 28 (bw (V 28) (12 * t) 12 (fun k => V 28 (12 * f + k)))) g) := by
  unfold f_X12_copy
  have key := loop_cnt (b := fun st : (Int32 × ZH) => f_X12_copy_L2 (Rm m S V g) m (zi f) (zi t) (st.1) (st.2)) 12 (fun i => Rm m S (va_up V 28 (bw (V 28) (12 * t) i (fun k => V 28 (12 * f + k)))) g) (Rm m S (va_up V 28 (bw (V 28) (12 * t) 12 (fun k => V 28 (12 * f + k)))) g) 0 (by decide) (fun i _ hi => by
      show f_X12_copy_L2 (Rm m S V g) m (zi f) (zi t) (zi i) _ = _
      unfold f_X12_copy_L2
      rw [if_neg (fun q => absurd ((zi_Lle (by omega) (by decide)).mp q) (by omega)), rgR_28, Option.bind_some, Option.bind_some, zi_Lmul, zi_Lmul, zi_add, zi_add, rl_28 (by omega), Option.bind_some, rs_28 _ (by omega), Option.bind_some, up_up, up_self, zi_one]
      rw [bw_out (k := 12 * f + i) (by omega)]
      exact congrArg (fun z => some (Sum.inl (zi (i + 1), Rm m S (va_up V 28 z) g))) (bw_up (V 28) (12 * t) i (fun k => V 28 (12 * f + k)))) (by
      show f_X12_copy_L2 (Rm m S V g) m (zi f) (zi t) (zi 12) _ = _
      unfold f_X12_copy_L2
      rw [if_pos (by decide)]
      rfl)
  rw [bw_0, up_id] at key
  exact key
/-- the signs of the latest text -/
def tlen (tl : Nat → Int32) (t : Int32) : Int32 := if t < 0 then 1 else tl t.toNatClampNeg
theorem X12_signsOf {t : Int32} {nt : Nat} (hnt : nt ≤ 24) (ht : t < 0 ∨ ∃ k, k < nt ∧ t = zi k) : f_X12_signsOf (Rm m S V g) m t = some (tlen (V 9) t) := by
  unfold f_X12_signsOf tlen
  rcases ht with h | ⟨k, hk, rfl⟩
  · rw [if_neg (by rw [Int32.le_iff_toInt_le]; rw [Int32.lt_iff_toInt_lt] at h; omega), if_pos h]
  · rw [if_pos ((zi_Lle (by omega) (by decide)).mpr (Nat.zero_le _)), if_neg (zi_neg (by omega)), rgR_9, Option.bind_some, rl_9 (by omega), Option.bind_some, zi_nat (by omega)]
def anyNeg (mo : Nat → Int32) : Prop := fsr (fun k => decide (mo (4 + k) < 0)) 8 0 < 8
/-- which rule was broken -/
def brk (f : Int32) (mo : Nat → Int32) (tl : Nat → Int32) : Int32 := if f ≤ 0 then (if tlen tl (mo 3) = 0 then 2 else if fsr (fun k => decide (mo (4 + k) < 0)) 8 0 < 8 then 3 else 0) else 1
theorem X12_breaks {w : Int32} {nr nw nt : Nat} (hnr : S 10 = zi nr) (hn30 : nr ≤ 30) (hnt : nt ≤ 24) (hRI : RI nr (mru V) nw nt) (hlat : (saysM S V nr w).1 ≤ 0 → ((saysM S V nr w).2.2 28 3 < 0 ∨ ∃ k, k < nt ∧ (saysM S V nr w).2.2 28 3 = zi k)) : f_X12_breaks (Rm m S V g) m w = some (brk (saysM S V nr w).1 ((saysM S V nr w).2.2 28) ((saysM S V nr w).2.2 9), Rm m (saysM S V nr w).2.1 (saysM S V nr w).2.2 g) := by
  unfold f_X12_breaks
  rw [rO, X12_says hnr hn30 hnt hRI, Option.bind_some]
  generalize Rm m S V g = h0
  generalize saysM S V nr w = q at hlat ⊢
  unfold brk
  dsimp only
  by_cases hq : q.1 ≤ 0
  · rw [if_pos hq, if_pos hq, rgR_28, Option.bind_some, rlL_28 (by decide), Option.bind_some, rO, X12_signsOf hnt (hlat hq), Option.bind_some]
    by_cases ht : tlen (q.2.2 9) (q.2.2 28 3) = 0
    · rw [if_pos ht, if_pos ht]
    · rw [if_neg ht, if_neg ht]
      generalize q.2.2 = V
      generalize q.2.1 = S
      have body : ∀ (i : Nat) (bl : Prop) [Decidable bl], i < 8 → f_X12_breaks_L32 h0 m w (Rm m S V g) (b01 bl) (zi (4 + i)) = some (.inl (b01 (bl ∨ V 28 (4 + i) < 0), zi (4 + (i + 1)))) := by
        intro i bl _ hi
        unfold f_X12_breaks_L32 f_X12_breaks_J53 f_X12_breaks_J58
        rw [if_neg (fun q => absurd ((zi_Lle (by omega) (by decide)).mp q) (by omega)), rgR_28, Option.bind_some, rl_28 (by omega), Option.bind_some, zi_one]
        by_cases hb : bl
        · rw [if_neg (by rw [b01_t hb]; decide), b01_t (Or.inl hb)]
          rfl
        · rw [if_pos (b01_f hb)]
          by_cases hn : V 28 (4 + i) < 0
          · rw [if_neg (by rw [Int32.le_iff_toInt_le]; rw [Int32.lt_iff_toInt_lt] at hn; omega), b01_t (Or.inr hn)]
            rfl
          · rw [if_pos (by rw [Int32.le_iff_toInt_le]; rw [Int32.lt_iff_toInt_lt] at hn; omega), b01_f (fun q => q.elim hb hn)]
            rfl
      have key := loop_seq (b := fun st : (Int32 × Int32) => f_X12_breaks_L32 h0 m w (Rm m S V g) (st.1) (st.2)) 8 (fun i => (b01 (fsr (fun k => decide (V 28 (4 + k) < 0)) i 0 < i), zi (4 + i))) ((if fsr (fun k => decide (V 28 (4 + k) < 0)) 8 0 < 8 then 3 else 0), Rm m S V g) (fun i hi => by
        show f_X12_breaks_L32 h0 m w (Rm m S V g) (b01 _) (zi (4 + i)) = _
        rw [body i _ hi]
        exact congrArg (fun z => some (Sum.inl (z, zi (4 + (i + 1))))) (b01_congr (by
          rw [fsr_step]
          exact ⟨fun q => q.elim Or.inl (fun q => Or.inr (decide_eq_true q)), fun q => q.elim Or.inl (fun q => Or.inr (of_decide_eq_true q))⟩))) (by
        show f_X12_breaks_L32 h0 m w (Rm m S V g) (b01 _) (zi (4 + 8)) = _
        unfold f_X12_breaks_L32
        rw [if_pos (by decide)]
        by_cases h8 : fsr (fun k => decide (V 28 (4 + k) < 0)) 8 0 < 8
        · rw [if_neg (by rw [b01_t h8]; decide), if_pos h8]
          rfl
        · rw [if_pos (b01_f h8), if_neg h8]
          rfl)
      rw [b01_f (by omega)] at key
      exact key
  · rw [if_neg hq, if_neg hq]
end
