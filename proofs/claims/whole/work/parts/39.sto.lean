/-! ===== storm and shrink ===== -/
def Rot (b : Nat) (S V : Nat → Nat → Int32) (Q : Nat → Option Nat) (g : ZH) (Sm : Nat → Int32) (Vm : Nat → Nat → Int32) (nw nt t ns nf : Nat) : Prop := Rtp S V Sm Vm t ∧ Rwd V Vm nw ∧ Rtx V Vm nt ∧ S 4 5 = Sm 3 ∧ Rsc b S Q g Sm Vm ns ∧ Rfl S V Sm Vm nf
theorem Rot.mov {b : Nat} {S V S' V' : Nat → Nat → Int32} {Q : Nat → Option Nat} {g : ZH} {Sm Sm' : Nat → Int32} {Vm Vm' : Nat → Nat → Int32} {nw nt t ns nf : Nat} (h : Rot b S V Q g Sm Vm nw nt t ns nf) (h1 : ∀ q, q ≠ 51 → q ≠ 52 → q ≠ 69 → q ≠ 70 → S' q = S q) (h2 : ∀ q, q ≠ 53 → q ≠ 54 → q ≠ 55 → q ≠ 71 → q ≠ 72 → V' q = V q) (h3 : ∀ k, k ≠ 0 → k ≠ 25 → k ≠ 26 → k ≠ 27 → k ≠ 37 → k ≠ 39 → Sm' k = Sm k) (h4 : ∀ k, k ≠ 20 → k ≠ 21 → k ≠ 28 → k ≠ 29 → k ≠ 38 → Vm' k = Vm k) : Rot b S' V' Q g Sm' Vm' nw nt t ns nf := by
  have a0 := h1 0 (by decide) (by decide) (by decide) (by decide)
  have a1 := h1 1 (by decide) (by decide) (by decide) (by decide)
  have a4 := h1 4 (by decide) (by decide) (by decide) (by decide)
  have a56 := h1 56 (by decide) (by decide) (by decide) (by decide)
  have b2 := h2 2 (by decide) (by decide) (by decide) (by decide) (by decide)
  have b6 := h2 6 (by decide) (by decide) (by decide) (by decide) (by decide)
  have b7 := h2 7 (by decide) (by decide) (by decide) (by decide) (by decide)
  have b9 := h2 9 (by decide) (by decide) (by decide) (by decide) (by decide)
  have b10 := h2 10 (by decide) (by decide) (by decide) (by decide) (by decide)
  have b59 := h2 59 (by decide) (by decide) (by decide) (by decide) (by decide)
  have b60 := h2 60 (by decide) (by decide) (by decide) (by decide) (by decide)
  have c2 := h3 2 (by decide) (by decide) (by decide) (by decide) (by decide) (by decide)
  have c3 := h3 3 (by decide) (by decide) (by decide) (by decide) (by decide) (by decide)
  have c30 := h3 30 (by decide) (by decide) (by decide) (by decide) (by decide) (by decide)
  have c35 := h3 35 (by decide) (by decide) (by decide) (by decide) (by decide) (by decide)
  have d1 := h4 1 (by decide) (by decide) (by decide) (by decide) (by decide)
  have d5 := h4 5 (by decide) (by decide) (by decide) (by decide) (by decide)
  have d6 := h4 6 (by decide) (by decide) (by decide) (by decide) (by decide)
  have d8 := h4 8 (by decide) (by decide) (by decide) (by decide) (by decide)
  have d9 := h4 9 (by decide) (by decide) (by decide) (by decide) (by decide)
  have d31 := h4 31 (by decide) (by decide) (by decide) (by decide) (by decide)
  have d32 := h4 32 (by decide) (by decide) (by decide) (by decide) (by decide)
  have d33 := h4 33 (by decide) (by decide) (by decide) (by decide) (by decide)
  have d34 := h4 34 (by decide) (by decide) (by decide) (by decide) (by decide)
  unfold Rot Rtp Rwd Rtx Rsc Rfl at h ⊢
  rw [a0, a1, a4, a56, b2, b6, b7, b9, b10, b59, b60, c2, c3, c30, c35, d1, d5, d6, d8, d9, d31, d32, d33, d34]
  exact h
theorem Rtx.len {V Vm : Nat → Nat → Int32} {nt : Nat} (h : Rtx V Vm nt) : ∀ k, k < nt → V 10 k = Vm 9 k := by
  intro k hk
  obtain ⟨n, -, e1, e2, -⟩ := h k hk
  rw [e1, e2]
theorem Rmo_begin {S V : Nat → Nat → Int32} {Sm : Nat → Int32} {Vm : Nat → Nat → Int32} {nt : Nat} (hsd : S 4 5 = Sm 3) : Rmo (mS S 52 (bgn (amo S V 52) (S 4 5))) (mV V 52 (bgn (amo S V 52) (S 4 5))) (beginV Sm Vm) nt := by
  refine ⟨?_, Or.inl rfl⟩
  rw [amo_m, hsd]
  exact bgn_ag
section
variable {b m : Nat} {S V : Nat → Nat → Int32} {Q : Nat → Option Nat} {g g1 g2 : ZH} {Sm : Nat → Int32} {Vm : Nat → Nat → Int32}
theorem op_storm {x n : Int32} (h : Rel b S V Q g Sm Vm) : ∃ r S' V' Sm' Vm', f_X11_storm (Cl b S V Q g1) b x n = some (r, Cl b S' V' Q g1) ∧ f_X12_storm (Rm m Sm Vm g2) m x n = some (r, Rm m Sm' Vm' g2) ∧ Rel b S' V' Q g Sm' Vm' := by
  obtain ⟨nr, nw, nt, t, ns, nf, p, hst, hct, hmo, h27, hpl, htp, hwd, htx, hsd, hsc, hfl⟩ := id h
  unfold f_X11_storm f_X12_storm
  simp only [inside_eq, Option.bind_some, rp_0, in_0_60]
  by_cases hn : (0 : Int32) ≤ n ∧ n ≤ 60
  · rw [if_neg (fun q => b01_0.mp q hn), if_neg (fun q => b01_0.mp q hn)]
    obtain ⟨k, hk, rfl⟩ := zi_rng (u := 60) hn.1 hn.2 (by decide)
    obtain ⟨a, ⟨b1, b2, b3⟩, -⟩ := id hst
    simp only [cgR_0_1, cgR_4_0, cgI_5_3, Option.bind_some, rgI_4, b1, show va_up Sm 0 0 4 = Sm 4 from rfl, b2]
    by_cases hw : zi nw = 0
    · rw [if_pos hw, if_pos hw]
      exact ⟨_, _, _, _, _, rfl, rfl, h.thr 0⟩
    · rw [if_neg hw, if_neg hw]
      have hnw : 1 ≤ nw := by
        rcases Nat.eq_zero_or_pos nw with q | q
        · exact absurd (by rw [q]; rfl) hw
        · exact q
      unfold f_X9_rage
      simp only [cgR_0_4, Option.bind_some, cO_69, cgR_69_1, cO_51, X8_begin, cp_69_4, cp_69_5, rO, X12_begin, rp_37, rp_39]
      have start := storm_loop (b := b) (m := m) (Q := Q) (g := g1) (g2 := g2) (h1 := Cl b S V Q g1) (h2 := Rm m Sm Vm g2) (S0 := S) (V0 := V) (Sm0 := va_up Sm 0 0) (Vm0 := beginV (va_up Sm 0 0) Vm) (nr := nr) (nw := nw) (nt := nt) (n := k) (x1 := x) (x2 := x) hk hnw htx.len
        (x, 0, Cl b (va_up (va_up (mS S 52 (bgn (amo S V 52) (S 4 5))) 69 (va_up (mS S 52 (bgn (amo S V 52) (S 4 5)) 69) 4 0)) 69 (va_up (va_up (mS S 52 (bgn (amo S V 52) (S 4 5))) 69 (va_up (mS S 52 (bgn (amo S V 52) (S 4 5)) 69) 4 0) 69) 5 0)) (mV V 52 (bgn (amo S V 52) (S 4 5))) Q g1)
        (x, Rm m (va_up (va_up (va_up Sm 0 0) 37 0) 39 0) (beginV (va_up Sm 0 0) Vm) g2) ?_
      · obtain ⟨⟨r1, z1⟩, ⟨r2, z2⟩, e1, e2, hq⟩ := start
        rw [e1, e2]
        obtain ⟨p', S', V', Sm', Vm', q1, q2, q3, q4, q5, q6, q7, f1, f2, f3, f4⟩ := hq
        cases q1
        cases q2
        refine ⟨_, S', V', Sm', Vm', rfl, rfl, ?_⟩
        obtain ⟨r1, r2, r3, r4, r5, r6⟩ := Rot.mov (S' := S') (V' := V') (Sm' := Sm') (Vm' := Vm') (show Rot b S V Q g Sm Vm nw nt t ns nf from ⟨htp, hwd, htx, hsd, hsc, hfl⟩) (fun q n1 n2 n3 n4 => f1 q n1 n2 n3) (fun q n1 n2 n3 n4 n5 => f2 q n1 n2 n3 n5) (fun q n0 n1 n2 n3 n4 n5 => (f3 q n1 n2 n4 n5).trans (up_ne _ _ n0)) (fun q n1 n2 n3 n4 n5 => (f4 q n1 n2 n3 n5).trans (by unfold beginV; rw [up_ne _ _ n4, up_ne _ _ n3]))
        exact ⟨nr, nw, nt, t, ns, nf, p', q3, q4, q5, q6, q7, r1, r2, r3, r4, r5, r6⟩
      · have e1 : ∀ q, q ≠ 51 → q ≠ 52 → q ≠ 69 → va_up (va_up (mS S 52 (bgn (amo S V 52) (S 4 5))) 69 (va_up (mS S 52 (bgn (amo S V 52) (S 4 5)) 69) 4 0)) 69 (va_up (va_up (mS S 52 (bgn (amo S V 52) (S 4 5))) 69 (va_up (mS S 52 (bgn (amo S V 52) (S 4 5)) 69) 4 0) 69) 5 0) q = S q := by
          intro q n1 n2 n3
          rw [up_ne _ _ n3, up_ne _ _ n3]
          exact up_ne _ _ n2
        have e2 : ∀ q, q ≠ 53 → q ≠ 54 → q ≠ 55 → q ≠ 72 → mV V 52 (bgn (amo S V 52) (S 4 5)) q = V q := fun q n1 n2 n3 n4 => up_ne _ _ n1
        have e4 : ∀ k, k ≠ 28 → k ≠ 29 → beginV (va_up Sm 0 0) Vm k = Vm k := fun k n1 n2 => by
          unfold beginV
          rw [up_ne _ _ n2, up_ne _ _ n1]
        refine ⟨0, _, _, _, _, Nat.zero_le _, rfl, rfl, ?_, ?_, ?_, h27, ⟨rfl, rfl, by omega, fun k hk => by omega, rfl, Or.inl rfl⟩, e1, e2, ?_, fun _ _ _ _ _ => rfl⟩
        · exact Rst.mov (Sm := va_up Sm 0 0) hst (fun q hq => e1 q (by omega) (by omega) (by omega)) (fun q hq => e2 q (by omega) (by omega) (by omega) (by omega)) (fun k hk => by rw [up_ne _ _ (by omega), up_ne _ _ (by omega)]) (fun k hk => e4 k (by omega) (by omega))
        · exact hct
        · exact Rmo_begin hsd
        · intro k n1 n2 n3 n4
          rw [up_ne _ _ n4, up_ne _ _ n3]
  · rw [if_pos (b01_f hn), if_pos (b01_f hn)]
    exact ⟨_, _, _, _, _, rfl, rfl, h.thr 0⟩
theorem op_shrink (h : Rel b S V Q g Sm Vm) : ∃ r S' V' Sm' Vm', f_X11_shrink (Cl b S V Q g1) b = some (r, Cl b S' V' Q g1) ∧ f_X12_shrink (Rm m Sm Vm g2) m = some (r, Rm m Sm' Vm' g2) ∧ Rel b S' V' Q g Sm' Vm' := by
  obtain ⟨nr, nw, nt, t, ns, nf, p, hst, hct, hmo, h27, ⟨p1, p2, p3, p4, p5, p6⟩, htp, hwd, htx, hsd, hsc, hfl⟩ := id h
  unfold f_X11_shrink f_X12_shrink
  simp only [cgR_0_4, cgI_69_5, Option.bind_some, rp_0, rgI_39, p5, show va_up Sm 0 0 39 = Sm 39 from rfl]
  by_cases hb : Sm 39 = 0
  · rw [if_pos hb, if_pos hb]
    exact ⟨_, _, _, _, _, rfl, rfl, h.thr 0⟩
  · rw [if_neg hb, if_neg hb]
    have hp1 : 1 ≤ p := by
      rcases p6 with q | q
      · exact absurd q hb
      · exact q
    unfold f_X9_shorten
    have ecp : f_X12_copy (Rm m (va_up Sm 0 0) Vm g2) m 0 5 = some (Rm m (va_up Sm 0 0) (va_up Vm 28 (bw (Vm 28) (12 * 5) 12 (fun k => Vm 28 (12 * 0 + k)))) g2) := X12_copy (f := 0) (t := 5) (by decide) (by decide) (by decide)
    have k1 : ∀ (S1 : Nat → Int32) (V1 : Nat → Nat → Int32), zl_I (Rm m S1 V1 g2) (m + 21) 2 1 = some (V1 29 1) := fun S1 V1 => rl_29 (i := 1) (by decide)
    have k2 : ∀ (S1 : Nat → Int32) (V1 : Nat → Nat → Int32), zl_I (Rm m S1 V1 g2) (m + 21) 2 2 = some (V1 29 2) := fun S1 V1 => rl_29 (i := 2) (by decide)
    have k3 : ∀ (S1 : Nat → Int32) (V1 : Nat → Nat → Int32), zl_I (Rm m S1 V1 g2) (m + 21) 2 3 = some (V1 29 3) := fun S1 V1 => rl_29 (i := 3) (by decide)
    have k4 : ∀ (S1 : Nat → Int32) (V1 : Nat → Nat → Int32), zl_I (Rm m S1 V1 g2) (m + 21) 2 4 = some (V1 29 4) := fun S1 V1 => rl_29 (i := 4) (by decide)
    simp only [rO, ecp, Option.bind_some, rgR_29, k1, k2, k3, k4, rp_27, cO_69]
    clear ecp k1 k2 k3 k4
    obtain ⟨V1, hV1⟩ : ∃ V1, V1 = va_up Vm 28 (bw (Vm 28) (12 * 5) 12 (fun k => Vm 28 (12 * 0 + k))) := ⟨_, rfl⟩
    rw [← hV1]
    have v1 : ∀ k, k ≠ 28 → V1 k = Vm k := fun k hk => by rw [hV1, up_ne _ _ hk]
    have v28 : ∀ k, k < 12 → V1 28 (60 + k) = Vm 28 k := fun k hk => by
      rw [hV1, up_self, show 60 + k = 12 * 5 + k by omega, bw_in hk, show 12 * 0 + k = k by omega]
    have hst1 : Rst S V (va_up (va_up Sm 0 0) 27 0) V1 nr nw nt := Rst.mov (Sm := va_up Sm 0 0) hst (fun _ _ => rfl) (fun _ _ => rfl) (fun k hk => up_ne _ _ (by omega)) (fun k hk => v1 k (by omega))
    obtain ⟨p', wc', wm', mo', mom', x', q1, q2, q3, q4, q5, q6⟩ := shrink_pair (b := b) (m := m) (Q := Q) (g := g1) (g2 := g2) (h1 := Cl b S V Q g1) (h2 := Rm m Sm Vm g2) (y1 := V1 29 1) (y2 := V1 29 2) (y3 := V1 29 3) (y4 := V1 29 4) hst1 (by rw [v1 9 (by decide)]; exact htx.len) hsd p5 rfl hb p 0 (V 72) (V1 38) (amo S V 70) (V1 28) (V1 29) (by omega) hp1 (by rw [v1 38 (by decide)]; exact p4)
    rw [show va_up S 69 (va_up (S 69) 4 (zi p)) = S by rw [← p1, up_id, up_id], show va_up V 72 (V 72) = V from up_id _ _, mS_id, mV_id] at q5
    rw [show va_up (va_up (va_up Sm 0 0) 27 0) 37 (zi p) = va_up (va_up Sm 0 0) 27 0 by
      rw [← p2]
      exact up_id (va_up (va_up Sm 0 0) 27 0) 37, wv_id] at q6
    rw [show ((0 : Int32), Cl b S V Q g1) = (zi 0, Cl b S V Q g1) from rfl, q5, q6]
    have fin : ∃ V2 : Nat → Nat → Int32, (∀ k, k ≠ 28 → k ≠ 29 → k ≠ 38 → V2 k = V1 k) ∧ V2 28 = bw mom' 0 12 (fun k => mom' (60 + k)) ∧ V2 38 = wm' ∧ f_X12_shrink_L58 (Rm m Sm Vm g2) m (V1 29 1) (V1 29 2) (V1 29 3) (V1 29 4) 0 (Rm m (va_up (va_up (va_up Sm 0 0) 27 0) 37 (zi p')) (wv V1 mom' x' wm') g2) = some (.inr (zi p', Rm m (va_up (va_up (va_up (va_up Sm 0 0) 27 0) 37 (zi p')) 27 1) V2 g2)) := by
      have ecp : ∀ (S1 : Nat → Int32) (W : Nat → Nat → Int32), f_X12_copy (Rm m S1 W g2) m 5 0 = some (Rm m S1 (va_up W 28 (bw (W 28) (12 * 0) 12 (fun k => W 28 (12 * 5 + k)))) g2) := fun S1 W => X12_copy (f := 5) (t := 0) (by decide) (by decide) (by decide)
      unfold f_X12_shrink_L58
      have j1 : ∀ (S1 : Nat → Int32) (W : Nat → Nat → Int32) (v : Int32), zs_I (Rm m S1 W g2) (m + 21) 2 1 v = some (Rm m S1 (va_up W 29 (va_up (W 29) 1 v)) g2) := fun S1 W v => rs_29 (i := 1) v (by decide)
      have j2 : ∀ (S1 : Nat → Int32) (W : Nat → Nat → Int32) (v : Int32), zs_I (Rm m S1 W g2) (m + 21) 2 2 v = some (Rm m S1 (va_up W 29 (va_up (W 29) 2 v)) g2) := fun S1 W v => rs_29 (i := 2) v (by decide)
      have j3 : ∀ (S1 : Nat → Int32) (W : Nat → Nat → Int32) (v : Int32), zs_I (Rm m S1 W g2) (m + 21) 2 3 v = some (Rm m S1 (va_up W 29 (va_up (W 29) 3 v)) g2) := fun S1 W v => rs_29 (i := 3) v (by decide)
      have j4 : ∀ (S1 : Nat → Int32) (W : Nat → Nat → Int32) (v : Int32), zs_I (Rm m S1 W g2) (m + 21) 2 4 v = some (Rm m S1 (va_up W 29 (va_up (W 29) 4 v)) g2) := fun S1 W v => rs_29 (i := 4) v (by decide)
      rw [if_pos rfl]
      simp only [rp_27, Option.bind_some, rO, ecp, rgR_29, j1, j2, j3, j4, rgI_37, up_up]
      refine ⟨_, ?_, ?_, ?_, rfl⟩
      · intro k n1 n2 n3
        rw [up_ne _ _ n2, up_ne _ _ n1, wv_ne n1 n2 n3]
      · rfl
      · rfl
    obtain ⟨V2, w1, w2, w3, w4⟩ := fin
    rw [zz_loop_inr (b := fun st : (Int32 × ZH) => f_X12_shrink_L58 (Rm m Sm Vm g2) m (V1 29 1) (V1 29 2) (V1 29 3) (V1 29 4) (st.1) (st.2)) (s := (0, Rm m (va_up (va_up (va_up Sm 0 0) 27 0) 37 (zi p')) (wv V1 mom' x' wm') g2)) w4]
    refine ⟨_, _, _, _, _, rfl, rfl, ?_⟩
    have f1 : ∀ q, q ≠ 69 → q ≠ 70 → mS (va_up S 69 (va_up (S 69) 4 (zi p'))) 70 mo' q = S q := fun q n1 n2 => (up_ne _ _ n2).trans (up_ne _ _ n1)
    have f2 : ∀ q, q ≠ 71 → q ≠ 72 → mV (va_up V 72 wc') 70 mo' q = V q := fun q n1 n2 => (up_ne _ _ n1).trans (up_ne _ _ n2)
    have f3 : ∀ k, k ≠ 0 → k ≠ 27 → k ≠ 37 → va_up (va_up (va_up (va_up Sm 0 0) 27 0) 37 (zi p')) 27 1 k = Sm k := fun k n1 n2 n3 => by rw [up_ne _ _ n2, up_ne _ _ n3, up_ne _ _ n2, up_ne _ _ n1]
    have f4 : ∀ k, k ≠ 28 → k ≠ 29 → k ≠ 38 → V2 k = Vm k := fun k n1 n2 n3 => (w1 k n1 n2 n3).trans (v1 k n1)
    obtain ⟨r1, r2, r3, r4, r5, r6⟩ := Rot.mov (S' := mS (va_up S 69 (va_up (S 69) 4 (zi p'))) 70 mo') (V' := mV (va_up V 72 wc') 70 mo') (Sm' := va_up (va_up (va_up (va_up Sm 0 0) 27 0) 37 (zi p')) 27 1) (Vm' := V2) (show Rot b S V Q g Sm Vm nw nt t ns nf from ⟨htp, hwd, htx, hsd, hsc, hfl⟩) (fun q n1 n2 n3 n4 => f1 q n3 n4) (fun q n1 n2 n3 n4 n5 => f2 q n4 n5) (fun q n0 n1 n2 n3 n4 n5 => f3 q n0 n3 n4) (fun q n1 n2 n3 n4 n5 => f4 q n3 n4 n5)
    have e28 : ∀ k, k < 12 → V2 28 k = Vm 28 k := fun k hk => by
      rw [w2]
      have := bw_in (f := mom') (lo := 0) (src := fun k => mom' (60 + k)) hk
      rw [Nat.zero_add] at this
      rw [this]
      show mom' (60 + k) = _
      rw [q4 _ (by omega), v28 k hk]
    refine ⟨nr, nw, nt, t, ns, nf, p', ?_, ?_, ?_, rfl, ⟨?_, rfl, by omega, ?_, p5, Or.inr q1⟩, r1, r2, r3, r4, r5, r6⟩
    · exact Rst.mov (Sm := va_up Sm 0 0) hst (fun q hq => f1 q (by omega) (by omega)) (fun q hq => f2 q (by omega) (by omega)) (fun k hk => by rw [up_ne _ _ (by omega), up_ne _ _ (by omega), up_ne _ _ (by omega)]) (fun k hk => f4 k (by omega) (by omega) (by omega))
    · obtain ⟨k1, k2, k3, k4, k5⟩ := hct
      refine ⟨k1, k2, ?_, ?_, ?_⟩
      · rw [f4 20 (by decide) (by decide) (by decide)]
        exact k3
      · rw [f4 21 (by decide) (by decide) (by decide)]
        exact k4
      · rw [f4 21 (by decide) (by decide) (by decide)]
        exact k5
    · refine ⟨fun k hk => (hmo.1 k hk).trans (e28 k hk).symm, ?_⟩
      rw [e28 3 (by decide)]
      exact hmo.2
    · show va_up (S 69) 4 (zi p') 4 = zi p'
      rw [up_self]
    · rw [w3]
      exact q3
end
