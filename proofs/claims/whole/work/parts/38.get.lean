/-! ===== the calls that tell: class and reference ===== -/
section
variable {b m : Nat} {S V : Nat → Nat → Int32} {Q : Nat → Option Nat} {g g1 g2 : ZH} {Sm : Nat → Int32} {Vm : Nat → Nat → Int32}
theorem op_play (h : Rel b S V Q g Sm Vm) : ∃ r, f_X11_play (Cl b S V Q g1) b = some r ∧ f_X12_play (Rm m Sm Vm g2) m = some (r, Rm m (va_up Sm 0 0) Vm g2) := by
  obtain ⟨nr, nw, nt, t, ns, nf, p, hst, hct, hmo, h27, ⟨p1, p2, p3, p4, p5, p6⟩, htp, hwd, htx, hsd, hsc, hfl⟩ := h
  refine ⟨zi p, ?_, ?_⟩
  · unfold f_X11_play
    rw [cgR_0_4, Option.bind_some, cgI_69_4, Option.bind_some, p1]
  · unfold f_X12_play
    rw [rp_0, Option.bind_some, rgI_37, Option.bind_some, show va_up Sm 0 0 37 = Sm 37 from rfl, p2]
theorem op_played {x : Int32} (h : Rel b S V Q g Sm Vm) : ∃ r, f_X11_played (Cl b S V Q g1) b x = some r ∧ f_X12_played (Rm m Sm Vm g2) m x = some (r, Rm m (va_up Sm 0 0) Vm g2) := by
  obtain ⟨nr, nw, nt, t, ns, nf, p, hst, hct, hmo, h27, ⟨p1, p2, p3, p4, p5, p6⟩, htp, hwd, htx, hsd, hsc, hfl⟩ := h
  unfold f_X11_played f_X12_played
  simp only [cgR_0_4, Option.bind_some, cgI_69_4, p1, inside_eq, rp_0, rgI_37, show va_up Sm 0 0 37 = Sm 37 from rfl, p2, in_0_v]
  by_cases hx : (0 : Int32) ≤ x ∧ x ≤ zi p - 1
  · obtain ⟨k, hk, rfl⟩ := (zi_below (by omega)).mp hx
    refine ⟨Vm 38 k, ?_, ?_⟩
    · rw [if_neg (fun q => b01_0.mp q hx), cgR_69_3, Option.bind_some, cl_72 (by omega), Option.bind_some, p4 k hk]
    · rw [if_neg (fun q => b01_0.mp q hx), rgR_38, Option.bind_some, rl_38 (by omega), Option.bind_some]
  · refine ⟨-2, ?_, ?_⟩
    · rw [if_pos (b01_f hx)]
    · rw [if_pos (b01_f hx)]
theorem op_seed {x : Int32} (h : Rel b S V Q g Sm Vm) : ∃ r S' Sm', f_X11_seed (Cl b S V Q g1) b x = some (r, Cl b S' V Q g1) ∧ f_X12_seed (Rm m Sm Vm g2) m x = some (r, Rm m Sm' Vm g2) ∧ Rel b S' V Q g Sm' Vm := by
  obtain ⟨nr, nw, nt, t, ns, nf, p, hst, hct, hmo, h27, hpl, htp, hwd, htx, hsd, hsc, hfl⟩ := h
  refine ⟨Sm 3, va_up S 4 (va_up (S 4) 5 x), va_up (va_up Sm 0 0) 3 x, ?_, ?_, nr, nw, nt, t, ns, nf, p, ?_, hct, hmo, h27, hpl, htp, hwd, htx, ?_, hsc, hfl⟩
  · unfold f_X11_seed
    rw [cgR_0_1, Option.bind_some, cgI_4_5, Option.bind_some, Option.bind_some, cp_4_5, Option.bind_some, hsd]
  · unfold f_X12_seed
    rw [rp_0, Option.bind_some, rgI_3, Option.bind_some, rp_3, Option.bind_some]
    rfl
  · obtain ⟨⟨a1, a2, a3⟩, bb, cc, d, e, e', f⟩ := hst
    refine ⟨⟨a1, a2, a3⟩, bb, cc, ?_, ?_, e', ?_⟩
    · intro r hr j hj
      unfold cru
      rw [up_ne _ _ (by omega)]
      exact d r hr j hj
    · intro r hr
      unfold cru
      rw [up_ne _ _ (by omega)]
      exact e r hr
    · intro a ha
      unfold chs chm
      rw [up_ne _ _ (by omega)]
      exact f a ha
  · show va_up (S 4) 5 x 5 = x
    rw [up_self]
theorem op_state {x : Int32} (h : Rel b S V Q g Sm Vm) : ∃ r, f_X11_state (Cl b S V Q g1) b x = some r ∧ f_X12_state (Rm m Sm Vm g2) m x = some (r, Rm m (va_up Sm 0 0) Vm g2) := by
  obtain ⟨nr, nw, nt, t, ns, nf, p, hst, hct, ⟨hm1, hm2⟩, h27, hpl, htp, hwd, htx, hsd, hsc, hfl⟩ := h
  unfold f_X11_state f_X12_state
  rw [rp_0, Option.bind_some, in_0_11, Option.bind_some]
  by_cases hx : (0 : Int32) ≤ x ∧ x ≤ 11
  · obtain ⟨k, hk, rfl⟩ := zi_rng (u := 11) hx.1 hx.2 (by decide)
    refine ⟨Vm 28 k, ?_, ?_⟩
    · by_cases h4 : 4 ≤ k
      · rw [if_neg (fun q => absurd ((zi_eqL (by omega) (by decide)).mp q) (by omega)), if_neg (fun q => absurd ((zi_eqL (by omega) (by decide)).mp q) (by omega)), if_neg (fun q => absurd ((zi_eqL (by omega) (by decide)).mp q) (by omega)), if_neg (fun q => absurd ((zi_eqL (by omega) (by decide)).mp q) (by omega)), inside_eq, Option.bind_some, b01_t ⟨(zi_Lle (by omega) (by decide)).mpr h4, hx.2⟩, if_neg (by decide), cgR_0_2, Option.bind_some, cgR_51_1, Option.bind_some, cO_52, show zi k - (4 : Int32) = zi (k - 4) from zi_sub (b := 4) h4, X4_flag (o := 52) (Or.inl rfl) (by omega), Option.bind_some, hm1 (4 + (k - 4)) (by omega), show 4 + (k - 4) = k by omega]
      · have : k = 0 ∨ k = 1 ∨ k = 2 ∨ k = 3 := by omega
        rcases this with rfl | rfl | rfl | rfl
        · rw [if_pos (show zi 0 = (0 : Int32) from rfl), cgR_0_2, Option.bind_some, cgR_51_1, Option.bind_some, cgI_52_1, Option.bind_some]
          exact congrArg some (hm1 0 (by decide))
        · rw [if_neg (by decide), if_pos (show zi 1 = (1 : Int32) from rfl), cgR_0_2, Option.bind_some, cgR_51_1, Option.bind_some, cgI_52_3, Option.bind_some]
          exact congrArg some (hm1 1 (by decide))
        · rw [if_neg (by decide), if_neg (by decide), if_pos (show zi 2 = (2 : Int32) from rfl), cgR_0_2, Option.bind_some, cgR_51_1, Option.bind_some, cgI_52_2, Option.bind_some]
          exact congrArg some (hm1 2 (by decide))
        · rw [if_neg (by decide), if_neg (by decide), if_neg (by decide), if_pos (show zi 3 = (3 : Int32) from rfl), cgR_0_2, Option.bind_some, cgR_51_1, Option.bind_some, cgI_52_4, Option.bind_some]
          exact congrArg some (hm1 3 (by decide))
    · rw [if_neg (fun q => b01_0.mp q hx), rgR_28, Option.bind_some, rl_28 (by omega), Option.bind_some]
  · refine ⟨-3, ?_, ?_⟩
    · rw [if_neg (fun q => hx (by rw [q]; decide)), if_neg (fun q => hx (by rw [q]; decide)), if_neg (fun q => hx (by rw [q]; decide)), if_neg (fun q => hx (by rw [q]; decide)), inside_eq, Option.bind_some, if_pos]
      refine b01_f (fun q => hx ⟨?_, q.2⟩)
      have q1 := Int32.le_iff_toInt_le.mp q.1
      rw [Int32.le_iff_toInt_le]
      have e1 : (4 : Int32).toInt = 4 := rfl
      have e2 : (0 : Int32).toInt = 0 := rfl
      omega
    · rw [if_pos (b01_f hx)]
theorem op_done {x : Int32} (h : Rel b S V Q g Sm Vm) : ∃ r, f_X11_done (Cl b S V Q g1) b x = some r ∧ f_X12_done (Rm m Sm Vm g2) m x = some (r, Rm m (va_up Sm 0 0) Vm g2) := by
  obtain ⟨nr, nw, nt, t, ns, nf, p, ⟨⟨a1, a2, a3⟩, -⟩, ⟨-, -, k3, -, -⟩, hmo, h27, hpl, htp, hwd, htx, hsd, hsc, hfl⟩ := h
  unfold f_X11_done f_X12_done
  simp only [cgR_0_1, Option.bind_some, cgI_4_4, a1, inside_eq, rp_0, rgI_10, show va_up Sm 0 0 10 = Sm 10 from rfl, a2, in_0_v]
  by_cases hx : (0 : Int32) ≤ x ∧ x ≤ zi nr - 1
  · obtain ⟨k, hk, rfl⟩ := (zi_below (by omega)).mp hx
    refine ⟨Vm 20 k, ?_, ?_⟩
    · rw [if_neg (fun q => b01_0.mp q hx), cgR_0_2, Option.bind_some, cgR_51_2, Option.bind_some, cl_54 (by omega), Option.bind_some, k3 k (by omega)]
    · rw [if_neg (fun q => b01_0.mp q hx), rgR_20, Option.bind_some, rl_20 (by omega), Option.bind_some]
  · refine ⟨-2, ?_, ?_⟩
    · rw [if_pos (b01_f hx)]
    · rw [if_pos (b01_f hx)]
theorem op_failed {x y : Int32} (h : Rel b S V Q g Sm Vm) : ∃ r, f_X11_failed (Cl b S V Q g1) b x y = some r ∧ f_X12_failed (Rm m Sm Vm g2) m x y = some (r, Rm m (va_up Sm 0 0) Vm g2) := by
  obtain ⟨nr, nw, nt, t, ns, nf, p, hst, hct, hmo, h27, hpl, htp, hwd, htx, hsd, hsc, ⟨f1, f2, f3, f4, f5⟩⟩ := h
  unfold f_X11_failed f_X12_failed
  simp only [cgR_0_3, Option.bind_some, cgI_56_6, f1, inside_eq, rp_0, rgI_35, show va_up Sm 0 0 35 = Sm 35 from rfl, f2, in_0_v]
  by_cases hx : (0 : Int32) ≤ x ∧ x ≤ zi nf - 1
  · obtain ⟨k, hk, rfl⟩ := (zi_below (by omega)).mp hx
    rw [if_neg (fun q => b01_0.mp q hx), if_neg (fun q => b01_0.mp q hx)]
    by_cases hy : y = 0
    · subst hy
      refine ⟨Vm 33 k, ?_, ?_⟩
      · rw [b01_t (by decide), if_neg (by decide), if_pos rfl, cgR_56_4, Option.bind_some, cl_59 (by omega), Option.bind_some, f4 k hk]
      · rw [if_pos rfl, rgR_33, Option.bind_some, rl_33 (by omega), Option.bind_some]
    · by_cases hy1 : y = 1
      · subst hy1
        refine ⟨Vm 34 k, ?_, ?_⟩
        · rw [b01_t (by decide), if_neg (by decide), if_neg (by decide), cgR_56_5, Option.bind_some, cl_60 (by omega), Option.bind_some, f5 k hk]
        · rw [if_neg (by decide), if_pos rfl, rgR_34, Option.bind_some, rl_34 (by omega), Option.bind_some]
      · refine ⟨-3, ?_, ?_⟩
        · rw [if_pos]
          refine b01_f (fun q => ?_)
          obtain ⟨j, hj, e⟩ := zi_rng (u := 1) q.1 q.2 (by decide)
          have : j = 0 ∨ j = 1 := by omega
          rcases this with rfl | rfl
          · exact hy e
          · exact hy1 e
        · rw [if_neg hy, if_neg hy1]
  · refine ⟨-2, ?_, ?_⟩
    · rw [if_pos (b01_f hx)]
    · rw [if_pos (b01_f hx)]
theorem op_told {x : Int32} (h : Rel b S V Q g Sm Vm) : ∃ r, f_X11_told (Cl b S V Q g1) b x = some r ∧ f_X12_told (Rm m Sm Vm g2) m x = some (r, Rm m (va_up Sm 0 0) Vm g2) := by
  obtain ⟨nr, nw, nt, t, ns, nf, p, ⟨⟨a1, a2, a3⟩, ⟨b1, b2, b3⟩, ⟨c1, c2, c3⟩, -⟩, ⟨k1, k2, -⟩, hmo, h27, hpl, ⟨t1, t2, -⟩, hwd, htx, hsd, ⟨s1, s2, -⟩, ⟨f1, f2, -⟩⟩ := h
  unfold f_X11_told f_X12_told
  simp only [rp_0, Option.bind_some, cgR_0_0, cgI_1_1, cgR_0_1, cgR_4_0, cgI_5_3, cgR_4_1, cgI_8_3, cgI_4_4, cgI_0_6, cgR_0_3, cgI_56_6, cgR_0_2, cgI_51_5, cgI_51_4, rgI_2, rgI_4, rgI_7, rgI_10, rgI_30, rgI_35, rgI_25, rgI_26, show va_up Sm 0 0 2 = Sm 2 from rfl, show va_up Sm 0 0 4 = Sm 4 from rfl, show va_up Sm 0 0 7 = Sm 7 from rfl, show va_up Sm 0 0 10 = Sm 10 from rfl, show va_up Sm 0 0 30 = Sm 30 from rfl, show va_up Sm 0 0 35 = Sm 35 from rfl, show va_up Sm 0 0 25 = Sm 25 from rfl, show va_up Sm 0 0 26 = Sm 26 from rfl]
  rw [t1, t2, b1, b2, c1, c2, a1, a2, s1, s2, f1, f2, k1, k2]
  by_cases h0 : x = 0
  · rw [if_pos h0, if_pos h0]
    exact ⟨_, rfl, rfl⟩
  rw [if_neg h0, if_neg h0]
  by_cases h0 : x = 1
  · rw [if_pos h0, if_pos h0]
    exact ⟨_, rfl, rfl⟩
  rw [if_neg h0, if_neg h0]
  by_cases h0 : x = 2
  · rw [if_pos h0, if_pos h0]
    exact ⟨_, rfl, rfl⟩
  rw [if_neg h0, if_neg h0]
  by_cases h0 : x = 3
  · rw [if_pos h0, if_pos h0]
    exact ⟨_, rfl, rfl⟩
  rw [if_neg h0, if_neg h0]
  by_cases h0 : x = 4
  · rw [if_pos h0, if_pos h0]
    exact ⟨_, rfl, rfl⟩
  rw [if_neg h0, if_neg h0]
  by_cases h0 : x = 5
  · rw [if_pos h0, if_pos h0]
    exact ⟨_, rfl, rfl⟩
  rw [if_neg h0, if_neg h0]
  by_cases h0 : x = 6
  · rw [if_pos h0, if_pos h0]
    exact ⟨_, rfl, rfl⟩
  rw [if_neg h0, if_neg h0]
  by_cases h0 : x = 7
  · rw [if_pos h0, if_pos h0]
    exact ⟨_, rfl, rfl⟩
  rw [if_neg h0, if_neg h0]
  exact ⟨_, rfl, rfl⟩
theorem X1_has_texts {w : Int32} {k : Nat} (hnw : S 8 3 = zi k) (hn : k ≤ 24) : f_X1_has (Cl b S V Q g) (b + 8) w = some (b01 ((0 : Int32) ≤ w ∧ w ≤ zi k - 1)) := by
  unfold f_X1_has
  by_cases hx : (0 : Int32) ≤ w ∧ w ≤ zi k - 1
  · rw [b01_t hx]
    obtain ⟨j, hj, rfl⟩ := (zi_below (by omega)).mp hx
    rw [if_neg (zi_neg (by omega)), cgI_8_3, Option.bind_some, hnw, if_neg (fun q => absurd ((zi_le (by omega) (by omega)).mp q) (by omega)), cgR_8_2, Option.bind_some, cN_10, Option.bind_some, if_neg (fun q => absurd ((zi_le (by decide) (by omega)).mp q) (by omega))]
  · rw [b01_f hx]
    by_cases h0 : w < 0
    · rw [if_pos h0]
    · rw [if_neg h0, cgI_8_3, Option.bind_some, hnw]
      obtain ⟨e, hb⟩ := zi_of h0
      rw [if_pos]
      rw [e, zi_le (by omega) hb]
      rcases Nat.lt_or_ge w.toNatClampNeg k with q | q
      · exact absurd ((zi_below (by omega)).mpr ⟨_, q, e⟩) hx
      · exact q
theorem X1_has_words' {w : Int32} {k : Nat} (hnw : S 5 3 = zi k) (hn : k ≤ 16) : f_X1_has (Cl b S V Q g) (b + 5) w = some (b01 ((0 : Int32) ≤ w ∧ w ≤ zi k - 1)) := by
  rw [X1_has_words hnw hn]
  refine congrArg some (b01_congr ?_)
  rw [zi_below (by omega)]
  constructor
  · intro ⟨h0, h1⟩
    have h2 : ¬ w < 0 := by
      rw [Int32.lt_iff_toInt_lt]
      have := Int32.le_iff_toInt_le.mp h0
      omega
    obtain ⟨e, hb⟩ := zi_of h2
    rw [e, zi_lt hb (by omega)] at h1
    exact ⟨_, h1, e⟩
  · rintro ⟨j, hj, rfl⟩
    exact ⟨(zi_le (a := 0) (by decide) (by omega)).mpr (by omega), (zi_lt (by omega) (by omega)).mpr hj⟩
theorem op_shown {x : Int32} (h : Rel b S V Q g Sm Vm) : ∃ r, f_X11_shown (Cl b S V Q g1) b x = some r ∧ f_X12_shown (Rm m Sm Vm g2) m x = some (r, Rm m (va_up Sm 0 0) Vm g2) := by
  obtain ⟨nr, nw, nt, t, ns, nf, p, ⟨-, -, ⟨c1, c2, c3⟩, -⟩, ⟨-, -, -, k4, k5⟩, hmo, h27, hpl, htp, hwd, htx, hsd, hsc, hfl⟩ := h
  unfold f_X11_shown f_X12_shown f_X11_shown_J22 f_X12_shown_J37
  simp only [rp_0, Option.bind_some, rgI_7, show va_up Sm 0 0 7 = Sm 7 from rfl, c2, in_m1_v, rgR_21, cgR_0_2, cgR_51_3, cgR_0_1, cgR_4_1, cO_8, X1_has_texts c1 c3]
  by_cases hm : x = -1
  · subst hm
    refine ⟨Vm 21 24, ?_, ?_⟩
    · rw [if_pos rfl, show (-1 : Int32) + 1 = zi 0 from rfl, cl_55 (by decide), Option.bind_some, k4]
    · rw [if_neg, if_neg (by decide)]
      · rw [show (24 : Int32) = zi 24 from rfl, rl_21 (by decide), Option.bind_some]
      · intro q
        refine b01_0.mp q ⟨by decide, ?_⟩
        rw [Int32.le_iff_toInt_le]
        by_cases hz : nt = 0
        · subst hz
          decide
        · rw [show zi nt - (1 : Int32) = zi (nt - 1) from zi_sub (b := 1) (by omega), zi_int (by omega)]
          have e1 : (-1 : Int32).toInt = -1 := rfl
          omega
  · rw [if_neg hm]
    by_cases hx : (0 : Int32) ≤ x ∧ x ≤ zi nt - 1
    · obtain ⟨k, hk, rfl⟩ := (zi_below (by omega)).mp hx
      refine ⟨Vm 21 k, ?_, ?_⟩
      · rw [if_neg (fun q => b01_0.mp q hx), zi_one, cl_55 (by omega), Option.bind_some, k5 k (by omega)]
      · rw [if_neg, if_pos hx.1, rl_21 (by omega), Option.bind_some]
        intro q
        refine b01_0.mp q ⟨?_, hx.2⟩
        rw [Int32.le_iff_toInt_le, zi_int (by omega)]
        have e1 : (-1 : Int32).toInt = -1 := rfl
        omega
    · refine ⟨-2, ?_, ?_⟩
      · rw [if_pos (b01_f hx)]
      · rw [if_pos]
        refine b01_f (fun q => hx ⟨?_, q.2⟩)
        have q1 := Int32.le_iff_toInt_le.mp q.1
        have e1 : (-1 : Int32).toInt = -1 := rfl
        have e2 : (0 : Int32).toInt = 0 := rfl
        rw [Int32.le_iff_toInt_le]
        have : ¬ x.toInt = -1 := fun e => hm (Int32.toInt_inj.mp (e.trans e1.symm))
        omega
theorem op_never {x : Int32} (h : Rel b S V Q g Sm Vm) : ∃ r, f_X11_never (Cl b S V Q g1) b x = some r ∧ f_X12_never (Rm m Sm Vm g2) m x = some (r, Rm m (va_up Sm 0 0) Vm g2) := by
  obtain ⟨nr, nw, nt, t, ns, nf, p, ⟨⟨a1, a2, a3⟩, -⟩, ⟨-, -, k3, -, -⟩, hmo, h27, hpl, htp, hwd, htx, hsd, hsc, hfl⟩ := h
  unfold f_X11_never f_X12_never
  rw [rp_0, Option.bind_some]
  have key := loop_rel (b1 := fun st : (Int32 × Int32) => f_X11_never_L4 (Cl b S V Q g1) b x (st.1) (st.2)) (b2 := fun st : (Int32 × Int32) => f_X12_never_L9 (Rm m Sm Vm g2) m x (Rm m (va_up Sm 0 0) Vm g2) (st.1) (st.2))
    (fun s1 s2 => ∃ i, i ≤ nr ∧ s1.2 = zi i ∧ s2.2 = zi i ∧ s1.1 = x - s2.1) (fun r1 r2 => r2 = (r1, Rm m (va_up Sm 0 0) Vm g2)) (fun s => nr - s.2.toNatClampNeg) ?_ (x, 0) (0, 0) ⟨0, Nat.zero_le _, rfl, rfl, (Int32.sub_zero x).symm⟩
  · obtain ⟨r1, r2, e1, e2, e3⟩ := key
    subst e3
    exact ⟨r1, e1, e2⟩
  · rintro ⟨l, i1⟩ ⟨c, i2⟩ ⟨i, hi, e1, e2, e3⟩
    dsimp only at e1 e2 e3
    subst e1
    subst e2
    dsimp only
    unfold f_X11_never_L4 f_X12_never_L9
    rw [cgR_0_1, Option.bind_some, cgI_4_4, Option.bind_some, a1, rgI_10, Option.bind_some, show va_up Sm 0 0 10 = Sm 10 from rfl, a2]
    by_cases hin : nr ≤ i
    · refine Or.inr ⟨-1, (-1, Rm m (va_up Sm 0 0) Vm g2), ?_, ?_, rfl⟩
      · rw [if_pos ((zi_le (by omega) (by omega)).mpr hin)]
        rfl
      · rw [if_pos ((zi_le (by omega) (by omega)).mpr hin)]
        rfl
    · have c0 : ¬ zi nr ≤ zi i := fun q => hin ((zi_le (by omega) (by omega)).mp q)
      rw [if_neg c0, if_neg c0, cgR_0_2, Option.bind_some, cgR_51_2, Option.bind_some, cl_54 (by omega), Option.bind_some, k3 i (by omega), rgR_20, Option.bind_some, rl_20 (by omega), Option.bind_some, zi_one]
      have hm : nr - (zi (i + 1)).toNatClampNeg < nr - (zi i).toNatClampNeg := by
        rw [zi_nat (by omega), zi_nat (by omega)]
        omega
      by_cases hv : Vm 20 i = 0
      · rw [if_pos hv, if_pos hv]
        have hc : l = 0 ↔ c = x := by
          rw [e3]
          constructor
          · intro q
            have q2 : x - c + c = 0 + c := by rw [q]
            rw [Int32.sub_add_cancel, Int32.zero_add] at q2
            exact q2.symm
          · intro q
            rw [q]
            exact Int32.sub_self _
        by_cases hl : l = 0
        · rw [if_pos hl, if_pos (hc.mp hl)]
          exact Or.inr ⟨_, _, rfl, rfl, rfl⟩
        · rw [if_neg hl, if_neg (fun q => hl (hc.mpr q))]
          refine Or.inl ⟨_, _, rfl, rfl, ⟨i + 1, by omega, rfl, rfl, ?_⟩, hm⟩
          show l + -1 = x - (c + 1)
          rw [e3, Int32.sub_eq_add_neg, Int32.sub_eq_add_neg, Int32.neg_add, Int32.add_assoc, Int32.sub_eq_add_neg]
      · rw [if_neg hv, if_neg hv]
        exact Or.inl ⟨_, _, rfl, rfl, ⟨i + 1, by omega, rfl, rfl, e3⟩, hm⟩
end
