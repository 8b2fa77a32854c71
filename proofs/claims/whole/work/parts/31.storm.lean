/-! ===== storms ===== -/
section
variable {b : Nat} {S V : Nat → Nat → Int32} {Q : Nat → Option Nat} {g : ZH} {o : Nat}
theorem X1_lengthOf_texts {k nt : Nat} (hnt : S 8 3 = zi nt) (h24 : nt ≤ 24) (hk : k < nt) : f_X1_lengthOf (Cl b S V Q g) (b + 8) (zi k) = some (V 10 k) := by
  unfold f_X1_lengthOf
  rw [if_neg (zi_neg (by omega)), cgI_8_3, Option.bind_some, hnt, if_neg (fun q => absurd ((zi_le (by omega) (by omega)).mp q) (by omega)), cgR_8_2, Option.bind_some, cN_10, Option.bind_some, if_neg (fun q => absurd ((zi_le (by decide) (by omega)).mp q) (by omega)), Option.bind_some, cl_10 (by omega), Option.bind_some]
theorem X10_textLength {nt : Nat} {t : Int32} (hnt : S 8 3 = zi nt) (h24 : nt ≤ 24) (ht : t = -1 ∨ ∃ k, k < nt ∧ t = zi k) : f_X10_textLength (Cl b S V Q g) (b + 4) t = some (tlen (V 10) t) := by
  unfold f_X10_textLength tlen
  rcases ht with rfl | ⟨k, hk, rfl⟩
  · rw [if_pos rfl, if_pos (by decide)]
  · have h1 : ¬ zi k = (-1 : Int32) := by
      intro e
      have h2 := zi_neg (n := k) (by omega)
      rw [e] at h2
      exact h2 (by decide)
    rw [if_neg h1, cgR_4_1, Option.bind_some, cO_8, X1_lengthOf_texts hnt h24 hk, Option.bind_some, if_neg (zi_neg (by omega)), zi_nat (by omega)]
theorem X9_ruleBroken_0 {nt : Nat} (hM : isM o) (hnt : S 8 3 = zi nt) (h24 : nt ≤ 24) (ht : amo S V o 3 = -1 ∨ ∃ k, k < nt ∧ amo S V o 3 = zi k) : f_X9_ruleBroken (Cl b S V Q g) (b + 69) (b + o) 0 = some (brk 0 (amo S V o) (V 10)) := by
  unfold f_X9_ruleBroken brk
  rw [if_pos rfl, cgR_69_0, Option.bind_some, cM_4 hM, Option.bind_some, cO_4, show S o 4 = amo S V o 3 from rfl, X10_textLength hnt h24 ht, Option.bind_some, if_pos (show (0 : Int32) ≤ 0 by decide)]
  by_cases h0 : tlen (V 10) (amo S V o 3) = 0
  · rw [if_pos h0, if_pos h0]
  · rw [if_neg h0, if_neg h0, cM_O hM, X4_hasFlagBelowZero hM, Option.bind_some]
    by_cases h8 : fsr (fun k => decide (amo S V o (4 + k) < 0)) 8 0 < 8
    · rw [if_pos h8, b01_t h8, if_neg (by decide)]
    · rw [if_neg h8, b01_f h8, if_pos rfl]
theorem X9_ruleBroken_1 : f_X9_ruleBroken (Cl b S V Q g) (b + 69) (b + o) 1 = some 1 := by
  unfold f_X9_ruleBroken
  rw [if_neg (by decide)]
end
theorem brk_congr {f : Int32} {mo mo' tl tl' : Nat → Int32} {nt : Nat} (hnt : nt ≤ 24) (hmo : ag 12 mo mo') (htl : ∀ k, k < nt → tl k = tl' k) (hl : mo 3 < 0 ∨ ∃ k, k < nt ∧ mo 3 = zi k) : brk f mo tl = brk f mo' tl' := by
  unfold brk
  have e1 : tlen tl (mo 3) = tlen tl' (mo' 3) := by
    rw [← hmo 3 (by decide)]
    unfold tlen
    rcases hl with h | ⟨k, hk, h⟩
    · rw [if_pos h, if_pos h]
    · rw [h, if_neg (zi_neg (by omega)), if_neg (zi_neg (by omega)), zi_nat (by omega), htl k hk]
  have e2 : fsr (fun k => decide (mo (4 + k) < 0)) 8 0 = fsr (fun k => decide (mo' (4 + k) < 0)) 8 0 := fsr_congr (fun k _ hk => by rw [hmo (4 + k) (by omega)])
  rw [e1, e2]
/-- a play: its words, the rule that it broke -/
def Rpl (S V : Nat → Nat → Int32) (Sm : Nat → Int32) (Vm : Nat → Nat → Int32) (p : Nat) : Prop := S 69 4 = zi p ∧ Sm 37 = zi p ∧ p ≤ 60 ∧ ag p (V 72) (Vm 38) ∧ S 69 5 = Sm 39 ∧ (Sm 39 = 0 ∨ 1 ≤ p)
/-- what the two loops of a storm have in common -/
def stI (b m : Nat) (Q : Nat → Option Nat) (g g2 : ZH) (S0 V0 : Nat → Nat → Int32) (Sm0 : Nat → Int32) (Vm0 : Nat → Nat → Int32) (nr nw nt n : Nat) (s1 : Int32 × Int32 × ZH) (s2 : Int32 × ZH) : Prop :=
  ∃ (i : Nat) (S V : Nat → Nat → Int32) (Sm : Nat → Int32) (Vm : Nat → Nat → Int32), i ≤ n ∧ s1 = (s2.1, zi i, Cl b S V Q g) ∧ s2.2 = Rm m Sm Vm g2 ∧ Rst S V Sm Vm nr nw nt ∧ Rct S V Sm Vm ∧ Rmo S V Vm nt ∧ Sm 27 = 1 ∧ Rpl S V Sm Vm i ∧
    (∀ q, q ≠ 51 → q ≠ 52 → q ≠ 69 → S q = S0 q) ∧ (∀ q, q ≠ 53 → q ≠ 54 → q ≠ 55 → q ≠ 72 → V q = V0 q) ∧ (∀ k, k ≠ 25 → k ≠ 26 → k ≠ 37 → k ≠ 39 → Sm k = Sm0 k) ∧ (∀ k, k ≠ 20 → k ≠ 21 → k ≠ 28 → k ≠ 38 → Vm k = Vm0 k)
def stQ (b m : Nat) (Q : Nat → Option Nat) (g g2 : ZH) (S0 V0 : Nat → Nat → Int32) (Sm0 : Nat → Int32) (Vm0 : Nat → Nat → Int32) (nr nw nt : Nat) (r1 r2 : Int32 × ZH) : Prop :=
  ∃ (p : Nat) (S V : Nat → Nat → Int32) (Sm : Nat → Int32) (Vm : Nat → Nat → Int32), r1 = (r2.1, Cl b S V Q g) ∧ r2.2 = Rm m Sm Vm g2 ∧ Rst S V Sm Vm nr nw nt ∧ Rct S V Sm Vm ∧ Rmo S V Vm nt ∧ Sm 27 = 1 ∧ Rpl S V Sm Vm p ∧
    (∀ q, q ≠ 51 → q ≠ 52 → q ≠ 69 → S q = S0 q) ∧ (∀ q, q ≠ 53 → q ≠ 54 → q ≠ 55 → q ≠ 72 → V q = V0 q) ∧ (∀ k, k ≠ 25 → k ≠ 26 → k ≠ 37 → k ≠ 39 → Sm k = Sm0 k) ∧ (∀ k, k ≠ 20 → k ≠ 21 → k ≠ 28 → k ≠ 38 → Vm k = Vm0 k)
def lcg (d : Int32) : Int32 := d * 1103515245 + 12345
def drw (d n : Int32) : Int32 := (((d.toUInt32 >>> ((16 : Int32).toUInt32 &&& Int32.toUInt32 31)).toInt32) &&& (32767 : Int32)) - (((d.toUInt32 >>> ((16 : Int32).toUInt32 &&& Int32.toUInt32 31)).toInt32) &&& (32767 : Int32)) / n * n
theorem X10_nextSeed {h : ZH} {d : Int32} : f_X10_nextSeed h d = some (lcg d) := rfl
theorem X12_drawn' {h : ZH} {d : Int32} : f_X12_drawn h d = some (lcg d) := rfl
theorem X10_drawn {h : ZH} {d : Int32} {nw : Nat} (h1 : 1 ≤ nw) (h2 : nw ≤ 16) : f_X10_drawn h d (zi nw) = some (drw d (zi nw)) := by
  unfold f_X10_drawn zz_ne
  rw [if_pos ((zi_Lle (by omega) (by decide)).mpr h1), if_neg (fun q => absurd ((zi_eqL (by omega) (by decide)).mp q) (by omega))]
  rfl
theorem brk_pos {r : Int32} {mo tl : Nat → Int32} (hr : ¬ r ≤ 0) : brk r mo tl = 1 := by
  unfold brk
  rw [if_neg hr]
theorem rpos {r : Int32} (h : r = 0 ∨ ∃ f, 1 ≤ f ∧ f ≤ 4 ∧ r = zi f) (h0 : ¬ r = 0) : ¬ r ≤ 0 := by
  rcases h with q | ⟨f, hf1, hf4, q⟩
  · exact absurd q h0
  · rw [q]
    exact fun w => absurd ((zi_leL (by omega) (by decide)).mp w) (by omega)
/-- saying a word without a fault leaves a text -/
theorem says_lat {Sm : Nat → Int32} {Vm : Nat → Nat → Int32} {nr nw nt : Nat} {w r : Int32} {Sm' : Nat → Int32} {Vm' : Nat → Nat → Int32} (hn : nr ≤ 30) (ri : RI nr (mru Vm) nw nt) (h27 : Sm 27 = 1) (g : saysM Sm Vm nr w = (r, Sm', Vm')) (hr : r = 0) : Vm' 28 3 = -1 ∨ ∃ k, k < nt ∧ Vm' 28 3 = zi k := by
  have rng := sayF_rng (hs := Vm 22) (hm := Vm 23) (hv := mhv Vm) (mo := Vm 28) (w := w) ri
  have sm := saysM_eq (S := Sm) (V := Vm) (w := w) hn ri h27 _ rfl
  rw [g] at sm
  have e1 := congrArg (fun z => z.1) sm
  have e2 := congrArg (fun z => z.2.2 28 3) sm
  dsimp only at e1 e2
  rw [hr] at e1
  generalize sayF nr (mru Vm) (Vm 22) (Vm 23) (mhv Vm) (Vm 28) w = q at rng e1 e2
  rcases rng with ⟨u1, u2⟩ | ⟨r', hr', u1, k, hk, u2⟩ | ⟨ff, hf1, hf4, u1, u2⟩
  · rw [u1, if_neg (by decide), if_pos (by decide)] at e2
    exact Or.inl (e2.trans u2)
  · have n1 : ¬ zi r' < (-1 : Int32) := by
      rw [Int32.lt_iff_toInt_lt, zi_int (by omega)]
      show ¬ (r' : Int) < -1
      omega
    rw [u1, if_neg n1, if_neg (zi_neg (by omega))] at e2
    exact Or.inr ⟨k, hk, e2.trans u2⟩
  · exfalso
    rw [u1] at e1
    have : ff = 1 ∨ ff = 2 ∨ ff = 3 ∨ ff = 4 := by omega
    rcases this with rfl | rfl | rfl | rfl <;> exact absurd e1 (by decide)
section
variable {b : Nat} {S V S' V' : Nat → Nat → Int32} {Q : Nat → Option Nat} {g h1 : ZH} {nr nw nt i n : Nat} {d x1 r : Int32}
theorem rage_step (hi : i < n) (hn : n ≤ 60) (hnw : 1 ≤ nw) (hb : S 69 5 = 0) (he : S 52 3 = 0) (a1 : S 4 4 = zi nr) (a3 : nr ≤ 30) (b1 : S 5 3 = zi nw) (b3 : nw ≤ 16) (c3 : nt ≤ 24) (ri : RI nr (cru (va_up S 69 (va_up (S 69) 4 (zi (i + 1))))) nw nt) (hI : HI (chs (va_up S 69 (va_up (S 69) 4 (zi (i + 1))))) (chm (va_up S 69 (va_up (S 69) 4 (zi (i + 1))))))
    (g1 : hearC (va_up S 69 (va_up (S 69) 4 (zi (i + 1)))) (va_up V 72 (va_up (V 72) i (drw (lcg d) (zi nw)))) (sayF nr (cru (va_up S 69 (va_up (S 69) 4 (zi (i + 1))))) (chs (va_up S 69 (va_up (S 69) 4 (zi (i + 1))))) (chm (va_up S 69 (va_up (S 69) 4 (zi (i + 1))))) (chv (va_up V 72 (va_up (V 72) i (drw (lcg d) (zi nw))))) (amo (va_up S 69 (va_up (S 69) 4 (zi (i + 1)))) (va_up V 72 (va_up (V 72) i (drw (lcg d) (zi nw)))) 52) (drw (lcg d) (zi nw))) = (r, S', V'))
    (gr : r = 0 ∨ ∃ f, 1 ≤ f ∧ f ≤ 4 ∧ r = zi f) (es : S' 8 3 = zi nt) (lat : r = 0 → (amo S' V' 52 3 = -1 ∨ ∃ k, k < nt ∧ amo S' V' 52 3 = zi k)) :
    f_X9_rage_L22 h1 (b + 69) x1 (zi n) d (zi i) (Cl b S V Q g) = some (.inl (lcg d, zi (i + 1), Cl b (va_up S' 69 (va_up (S' 69) 5 (brk r (amo S' V' 52) (V' 10)))) V' Q g)) := by
  unfold f_X9_rage_L22
  rw [if_neg (fun q => absurd ((zi_le (by omega) (by omega)).mp q) (by omega)), cgR_69_3, Option.bind_some, cN_72, Option.bind_some, if_neg (fun q => absurd ((zi_le (by decide) (by omega)).mp q) (by omega)), cgI_69_5, Option.bind_some, if_pos hb, cgR_69_1, Option.bind_some, cgR_51_1, Option.bind_some, cgI_52_3, Option.bind_some, if_pos he, X10_nextSeed, Option.bind_some, Option.bind_some, cgR_69_0, Option.bind_some, cgR_4_0, Option.bind_some, cgI_5_3, Option.bind_some, b1, X10_drawn hnw b3, Option.bind_some]
  rw [cs_72 _ (by omega), Option.bind_some, zi_one, cp_69_4, Option.bind_some, cgR_69_1, Option.bind_some, cgR_69_3, Option.bind_some, cl_72 (by omega), Option.bind_some, up_self, up_self, cO_51, X8_hear (S := va_up S 69 (va_up (S 69) 4 (zi (i + 1)))) a1 a3 b1 b3 c3 ri hI, g1, Option.bind_some]
  show ((zg_R (Cl b S' V' Q g) (b + 69) 7 1).bind fun v29 => _) = _
  rw [cgR_69_1, Option.bind_some, cgR_51_1, Option.bind_some]
  unfold f_X9_rage_J127
  rw [cO_69, cO_69, zi_one]
  by_cases hr0 : r = 0
  · rw [if_pos hr0, hr0, X9_ruleBroken_0 (Or.inl rfl) es c3 (lat hr0), Option.bind_some, cp_69_5, Option.bind_some]
  · rw [if_neg hr0, X9_ruleBroken_1, Option.bind_some, cp_69_5, Option.bind_some, brk_pos (rpos gr hr0)]
end
section
variable {m : Nat} {S S' : Nat → Int32} {V V' : Nat → Nat → Int32} {g h2 : ZH} {nr nw nt i n : Nat} {d x2 r : Int32}
theorem storm_step (hi : i < n) (hn : n ≤ 60) (hnw : 1 ≤ nw) (hb : S 39 = 0) (he : V 28 1 = 0) (a2 : S 10 = zi nr) (a3 : nr ≤ 30) (b2 : S 4 = zi nw) (b3 : nw ≤ 16) (c3 : nt ≤ 24) (p2 : S 37 = zi i) (ri : RI nr (mru (va_up V 38 (va_up (V 38) i (drw (lcg d) (zi nw))))) nw nt)
    (g2 : saysM S (va_up V 38 (va_up (V 38) i (drw (lcg d) (zi nw)))) nr (drw (lcg d) (zi nw)) = (r, S', V')) (k3 : S' 37 = S 37) (lat : r ≤ 0 → (V' 28 3 < 0 ∨ ∃ k, k < nt ∧ V' 28 3 = zi k)) :
    f_X12_storm_L46 h2 m x2 (zi n) d (Rm m S V g) = some (.inl (lcg d, Rm m (va_up (va_up S' 39 (brk r (V' 28) (V' 9))) 37 (zi (i + 1))) V' g)) := by
  unfold f_X12_storm_L46
  rw [rgI_37, Option.bind_some, p2, if_neg (fun q => absurd ((zi_le (by omega) (by omega)).mp q) (by omega)), rgI_39, Option.bind_some, if_pos hb, rgR_28, Option.bind_some, rlL_28 (by decide), Option.bind_some, if_pos he, X12_drawn', Option.bind_some, rgR_38, Option.bind_some, Option.bind_some, rgI_4, Option.bind_some, b2, zz_ne, if_neg (fun q => absurd ((zi_eqL (by omega) (by decide)).mp q) (by omega))]
  show ((zs_I (Rm m S V g) (m + 26) 1 (zi i) (drw (lcg d) (zi nw))).bind fun h19 => _) = _
  rw [rs_38 _ (by omega), Option.bind_some, rgR_38, Option.bind_some, rgI_37, Option.bind_some, p2, rl_38 (by omega), Option.bind_some, up_self, up_self, rO, X12_breaks (nt := nt) (nw := nw) a2 a3 c3 ri (by rw [g2]; exact lat), g2, Option.bind_some]
  show ((zp_V (Rm m S' V' g) m 10 39 (.int (brk r (V' 28) (V' 9)))).bind fun h25 => _) = _
  rw [rp_39, Option.bind_some, rgI_37, Option.bind_some, rp_37, Option.bind_some]
  rw [show va_up S' 39 (brk r (V' 28) (V' 9)) 37 = S' 37 from rfl, k3, p2, zi_one]
end
theorem storm_loop {b m : Nat} {Q : Nat → Option Nat} {g g2 h1 h2 : ZH} {S0 V0 : Nat → Nat → Int32} {Sm0 : Nat → Int32} {Vm0 : Nat → Nat → Int32} {nr nw nt n : Nat} {x1 x2 : Int32} (hn : n ≤ 60) (hnw : 1 ≤ nw) (htl : ∀ k, k < nt → V0 10 k = Vm0 9 k) (s1 : Int32 × Int32 × ZH) (s2 : Int32 × ZH) (h : stI b m Q g g2 S0 V0 Sm0 Vm0 nr nw nt n s1 s2) :
    ∃ r1 r2, zz_loop (fun st : (Int32 × Int32 × ZH) => f_X9_rage_L22 h1 (b + 69) x1 (zi n) (st.1) (st.2.1) (st.2.2)) s1 = some r1 ∧ zz_loop (fun st : (Int32 × ZH) => f_X12_storm_L46 h2 m x2 (zi n) (st.1) (st.2)) s2 = some r2 ∧ stQ b m Q g g2 S0 V0 Sm0 Vm0 nr nw nt r1 r2 := by
  refine loop_rel (stI b m Q g g2 S0 V0 Sm0 Vm0 nr nw nt n) (stQ b m Q g g2 S0 V0 Sm0 Vm0 nr nw nt) (fun s => n - s.2.1.toNatClampNeg) (fun s1 s2 h => ?_) s1 s2 h
  obtain ⟨i, S, V, Sm, Vm, hi, e1, e2, hst, hct, hmo, h27, hpl, f1, f2, f3, f4⟩ := h
  obtain ⟨d, hm⟩ := s2
  dsimp only at e1 e2
  subst e1
  subst e2
  dsimp only
  obtain ⟨p1, p2, p3, p4, p5, p6⟩ := id hpl
  obtain ⟨⟨a1, a2, a3⟩, ⟨b1, b2, b3⟩, ⟨c1, c2, c3⟩, -⟩ := id hst
  have exit1 : ∀ h1, f_X9_rage_J139 h1 (b + 69) x1 (zi n) (Cl b S V Q g) = some (S 69 5, Cl b S V Q g) := by
    intro h1
    unfold f_X9_rage_J139
    rw [cgI_69_5, Option.bind_some]
  have exit2 : ∀ h2, f_X12_storm_J127 h2 m x2 (zi n) (Rm m Sm Vm g2) = some (Sm 39, Rm m Sm Vm g2) := by
    intro h2
    unfold f_X12_storm_J127
    rw [rgI_39, Option.bind_some]
  have out : stQ b m Q g g2 S0 V0 Sm0 Vm0 nr nw nt (S 69 5, Cl b S V Q g) (Sm 39, Rm m Sm Vm g2) := ⟨i, S, V, Sm, Vm, by rw [p5], rfl, hst, hct, hmo, h27, hpl, f1, f2, f3, f4⟩
  by_cases hin : n ≤ i
  · refine Or.inr ⟨_, _, ?_, ?_, out⟩
    · unfold f_X9_rage_L22
      rw [if_pos ((zi_le (by omega) (by omega)).mpr hin), exit1]
      rfl
    · unfold f_X12_storm_L46
      rw [rgI_37, Option.bind_some, p2, if_pos ((zi_le (by omega) (by omega)).mpr hin), exit2]
      rfl
  · have c0 : ¬ zi n ≤ zi i := fun q => hin ((zi_le (by omega) (by omega)).mp q)
    have e52 : S 52 3 = Vm 28 1 := hmo.1 1 (by decide)
    by_cases hb : Sm 39 = 0
    · by_cases he : Vm 28 1 = 0
      · skip
        clear exit1 exit2 out
        generalize hx : drw (lcg d) (zi nw) = x
        have hst1 : Rst (va_up S 69 (va_up (S 69) 4 (zi (i + 1)))) (va_up V 72 (va_up (V 72) i x)) Sm (va_up Vm 38 (va_up (Vm 38) i x)) nr nw nt := hst.mov (fun q hq => up_ne _ _ (by omega)) (fun q hq => up_ne _ _ (by omega)) (fun _ _ => rfl) (fun k hk => up_ne _ _ (by omega))
        have hct1 : Rct (va_up S 69 (va_up (S 69) 4 (zi (i + 1)))) (va_up V 72 (va_up (V 72) i x)) Sm (va_up Vm 38 (va_up (Vm 38) i x)) := hct
        have hmo1 : Rmo (va_up S 69 (va_up (S 69) 4 (zi (i + 1)))) (va_up V 72 (va_up (V 72) i x)) (va_up Vm 38 (va_up (Vm 38) i x)) nt := hmo
        obtain ⟨r, S', V', Sm', Vm', g1, g2', gst, gct, gmo, gr, k1, k2, k3, k4, -⟩ := hear_says (w := x) hst1 hct1 hmo1 h27
        obtain ⟨-, -, ⟨cc1, -, -⟩, -, ri1, ri2, hr1⟩ := id hst1
        have lat : r = 0 → (Vm' 28 3 = -1 ∨ ∃ k, k < nt ∧ Vm' 28 3 = zi k) := fun hr0 => says_lat a3 ri2 h27 g2' hr0
        have lat' : r = 0 → (amo S' V' 52 3 = -1 ∨ ∃ k, k < nt ∧ amo S' V' 52 3 = zi k) := by
          intro hr0
          rw [gmo.1 3 (by decide)]
          exact lat hr0
        have ebrk : brk r (amo S' V' 52) (V' 10) = brk r (Vm' 28) (Vm' 9) := by
          by_cases hr0 : r = 0
          · refine brk_congr c3 gmo.1 (fun k hk => ?_) ?_
            · rw [k2 10 (by decide) (by decide) (by decide), k4 9 (by decide) (by decide) (by decide)]
              show V 10 k = Vm 9 k
              rw [f2 10 (by decide) (by decide) (by decide) (by decide), f4 9 (by decide) (by decide) (by decide) (by decide)]
              exact htl k hk
            · rcases lat' hr0 with q | q
              · exact Or.inl (by rw [q]; decide)
              · exact Or.inr q
          · rw [brk_pos (rpos gr hr0), brk_pos (rpos gr hr0)]
        refine Or.inl ⟨_, _, rage_step (by omega) hn hnw (p5.trans hb) (e52.trans he) a1 a3 b1 b3 c3 ri1 hr1.hi (by rw [hx]; exact g1) gr (by rw [k1 8 (by decide) (by decide)]; exact cc1) lat', storm_step (nt := nt) (by omega) hn hnw hb he a2 a3 b2 b3 c3 p2 (by rw [hx]; exact ri2) (by rw [hx]; exact g2') (k3 37 (by decide) (by decide)) (fun hr => by
          have hr0 : r = 0 := by
            by_cases q : r = 0
            · exact q
            · exact absurd hr (rpos gr q)
          rcases lat hr0 with q | q
          · exact Or.inl (by rw [q]; decide)
          · exact Or.inr q), ?_, ?_⟩
        rw [ebrk]
        · refine ⟨i + 1, _, V', _, Vm', by omega, rfl, rfl, ?_, ?_, ?_, ?_, ⟨?_, rfl, by omega, ?_, rfl, Or.inr (by omega)⟩, ?_, ?_, ?_, ?_⟩
          · exact gst.mov (fun q hq => up_ne _ _ (by omega)) (fun _ _ => rfl) (fun k hk => by rw [up_ne _ _ (by omega), up_ne _ _ (by omega)]) (fun _ _ => rfl)
          · exact gct
          · exact gmo
          · show Sm' 27 = 1
            rw [k3 27 (by decide) (by decide)]
            exact h27
          · show S' 69 4 = zi (i + 1)
            rw [k1 69 (by decide) (by decide)]
            rfl
          · rw [k2 72 (by decide) (by decide) (by decide), k4 38 (by decide) (by decide) (by decide)]
            intro j hj
            show va_up (V 72) i x j = va_up (Vm 38) i x j
            by_cases ej : j = i
            · subst ej
              rw [up_self, up_self]
            · rw [up_ne _ _ ej, up_ne _ _ ej]
              exact p4 j (by omega)
          · intro q n1 n2 n3
            rw [up_ne _ _ n3, k1 q n1 n2, up_ne _ _ n3]
            exact f1 q n1 n2 n3
          · intro q n1 n2 n3 n4
            rw [k2 q n1 n2 n3, up_ne _ _ n4]
            exact f2 q n1 n2 n3 n4
          · intro k n1 n2 n3 n4
            rw [up_ne _ _ n3, up_ne _ _ n4, k3 k n1 n2]
            exact f3 k n1 n2 n3 n4
          · intro k n1 n2 n3 n4
            rw [k4 k n1 n2 n3, up_ne _ _ n4]
            exact f4 k n1 n2 n3 n4
        · show n - (zi (i + 1)).toNatClampNeg < n - (zi i).toNatClampNeg
          rw [zi_nat (by omega), zi_nat (by omega)]
          omega
      · refine Or.inr ⟨_, _, ?_, ?_, out⟩
        · unfold f_X9_rage_L22
          rw [if_neg c0, cgR_69_3, Option.bind_some, cN_72, Option.bind_some, if_neg (fun q => absurd ((zi_le (by decide) (by omega)).mp q) (by omega)), cgI_69_5, Option.bind_some, if_pos (p5.trans hb), cgR_69_1, Option.bind_some, cgR_51_1, Option.bind_some, cgI_52_3, Option.bind_some, if_neg (fun q => he (e52.symm.trans q)), exit1]
          rfl
        · unfold f_X12_storm_L46
          rw [rgI_37, Option.bind_some, p2, if_neg c0, rgI_39, Option.bind_some, if_pos hb, rgR_28, Option.bind_some, rlL_28 (by decide), Option.bind_some, if_neg he, exit2]
          rfl
    · refine Or.inr ⟨_, _, ?_, ?_, out⟩
      · unfold f_X9_rage_L22
        rw [if_neg c0, cgR_69_3, Option.bind_some, cN_72, Option.bind_some, if_neg (fun q => absurd ((zi_le (by decide) (by omega)).mp q) (by omega)), cgI_69_5, Option.bind_some, if_neg (fun q => hb (p5.symm.trans q)), exit1]
        rfl
      · unfold f_X12_storm_L46
        rw [rgI_37, Option.bind_some, p2, if_neg c0, rgI_39, Option.bind_some, if_neg hb, exit2]
        rfl
