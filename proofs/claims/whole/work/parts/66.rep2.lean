/-! ===== replay ===== -/
section
variable {b m : Nat} {Q : Nat → Option Nat} {g g1 g2 : ZH} {nr nw nt t ns p nf : Nat}
theorem rep_loop {h h' : ZH} {T : Nat → Int32} : ∀ (fu k n : Nat) (S V : Nat → Nat → Int32) (Sm : Nat → Int32) (Vm : Nat → Nat → Int32), Rre b S V Q g Sm Vm nr nw nt t ns p nf → Vm 1 = T → t < k + fu → k ≤ t + 1 → n ≤ 20 → wt (mb T t) t fu k n = none →
    ∃ (r : Int32) (S' V' : Nat → Nat → Int32) (Sm' : Nat → Int32) (Vm' : Nat → Nat → Int32), zz_loop (fun st : (Int32 × Int32 × ZH) => f_X11_firstUnlikeLine_L11 h b (st.1) (st.2.1) (st.2.2)) (zi k, zi (2 * n + 2), Cl b S V Q g1) = some (r, Cl b S' V' Q g1) ∧ zz_loop (fun st : (Int32 × Int32 × Int32 × ZH) => f_X12_replay_L35 h' m (st.1) (st.2.1) (st.2.2.1) (st.2.2.2)) (zi k, zi (2 * n), 0, Rm m Sm Vm g2) = some (r, Rm m (va_up Sm' 2 0) Vm' g2) ∧ Rre b S' V' Q g Sm' Vm' nr nw nt t ns p nf := by
  intro fu
  induction fu with
  | zero =>
    intro k n S V Sm Vm hr hT h1 h2 hn hw
    obtain ⟨t1, t2, t3, t4⟩ := hr.1.2.2.2.1
    refine ⟨0, S, V, Sm, Vm, zz_loop_inr ?_, zz_loop_inr ?_, hr⟩
    · show f_X11_firstUnlikeLine_L11 h b (zi k) (zi (2 * n + 2)) (Cl b S V Q g1) = _
      unfold f_X11_firstUnlikeLine_L11
      simp only [cgR_0_0, cgI_1_1, Option.bind_some, t1]
      rw [if_pos ((zi_le (by omega) (by omega)).mpr (show t ≤ k by omega))]
      by_cases q : (40 : Int32) < zi (2 * n + 2)
      · rw [if_pos q]
        rfl
      · rw [if_neg q]
        rfl
    · show f_X12_replay_L35 h' m (zi k) (zi (2 * n)) 0 (Rm m Sm Vm g2) = _
      unfold f_X12_replay_L35 f_X12_replay_J148
      rw [rgI_2, Option.bind_some, t2, if_pos ((zi_le (by omega) (by omega)).mpr (show t ≤ k by omega)), rp_2, Option.bind_some]
      rfl
  | succ fu ih =>
    intro k n S V Sm Vm hr hT h1 h2 hn hw
    obtain ⟨t1, t2, t3, t4⟩ := hr.1.2.2.2.1
    by_cases hk : t ≤ k
    · refine ⟨0, S, V, Sm, Vm, zz_loop_inr ?_, zz_loop_inr ?_, hr⟩
      · show f_X11_firstUnlikeLine_L11 h b (zi k) (zi (2 * n + 2)) (Cl b S V Q g1) = _
        unfold f_X11_firstUnlikeLine_L11
        simp only [cgR_0_0, cgI_1_1, Option.bind_some, t1]
        rw [if_pos ((zi_le (by omega) (by omega)).mpr hk)]
        by_cases q : (40 : Int32) < zi (2 * n + 2)
        · rw [if_pos q]
          rfl
        · rw [if_neg q]
          rfl
      · show f_X12_replay_L35 h' m (zi k) (zi (2 * n)) 0 (Rm m Sm Vm g2) = _
        unfold f_X12_replay_L35 f_X12_replay_J148
        rw [rgI_2, Option.bind_some, t2, if_pos ((zi_le (by omega) (by omega)).mpr hk), rp_2, Option.bind_some]
        rfl
    · have hM : ∀ j, t ≤ j → mb T t j = 10 := fun j hj => mb_hi hj
      rw [wt_succ, if_neg hk] at hw
      have h20 : n ≠ 20 := fun q => by
        rw [if_pos q] at hw
        cases hw
      rw [if_neg h20] at hw
      have hww : wtw (mb T t) k = none := by
        cases hq : wtw (mb T t) k with
        | none => rfl
        | some x =>
          rw [hq] at hw
          cases hw
      rw [hww] at hw
      dsimp only at hw
      obtain ⟨n1, -, -, n1p, n16, -, -, ele, hnL, -⟩ := wtw_none hM (by omega) hww
      have het : ¬ t ≤ le' (mb T t) t k + 1 := fun q => by
        rw [if_pos q] at hw
        cases hw
      rw [if_neg het] at hw
      have h10 : mb T t (se (mb T t) t (le' (mb T t) t k + 1)) = 10 := Decidable.byContradiction fun q => by
        rw [if_pos q] at hw
        cases hw
      rw [if_neg (fun q => q h10)] at hw
      have hse := ((se_le hM (show le' (mb T t) t k + 1 ≤ t by omega)).2).mp h10
      rw [hse] at hw
      have hge2 := le'_ge (mb T t) t (le' (mb T t) t k + 1)
      have hle2 := le'_le (M := mb T t) (show le' (mb T t) t k + 1 ≤ t by omega)
      generalize he : le' (mb T t) t k = e at ele het hw hge2 hle2
      generalize he2 : le' (mb T t) t (e + 1) = e2 at hw hge2 hle2
      obtain ⟨P, S', V', Sm', Vm', q1, q2, q3, q4⟩ := rep_pair (m := m) (g1 := g1) (g2 := g2) (n := n) (h' := h') hr (show k < t by omega) (show k + 2 ≤ e by omega) (by omega) (show e + 1 < t by omega) hge2 hle2 (by rw [hT]; exact he) (by rw [hT]; exact he2)
      have hB := Byt_tape (b := b) (S := S) (V := V) (Q := Q) (g := g1) t1 t3
      have eT : mby (V 2) t = mb T t := by
        rw [← hT]
        exact (mb_mby t4).symm
      have c1 : f_X11_firstUnlikeLine_L11 h b (zi k) (zi (2 * n + 2)) (Cl b S V Q g1) = (if b01 (P = true) = 0 then some (.inr (zi (2 * n + 2), Cl b S' V' Q g1)) else some (.inl (zi (e2 + 1), zi (2 * (n + 1) + 2), Cl b S' V' Q g1))) := by
        unfold f_X11_firstUnlikeLine_L11
        simp only [cgR_0_0, cgI_1_1, Option.bind_some, t1]
        rw [if_neg (fun q => absurd ((zi_Llt (by omega) (by decide)).mp q) (by omega)), if_neg (fun q => hk ((zi_le (by omega) (by omega)).mp q)), X2_lineEnd hB (by omega), Option.bind_some, eT, he, zi_one, X2_lineEnd hB (by omega), Option.bind_some, eT, he2, cO_0, show zi k + (2 : Int32) = zi (k + 2) from zi_add k 2, q1, Option.bind_some, zz_let, zi_one, show zi (2 * n + 2) + (2 : Int32) = zi (2 * (n + 1) + 2) from zi_add (2 * n + 2) 2]
        rfl
      cases P with
      | true =>
        obtain ⟨r, S2, V2, Sm2, Vm2, r1, r2, r3⟩ := ih (e2 + 1) (n + 1) S' V' Sm' Vm' q4 (by rw [q3]; exact hT) (by omega) (by omega) (by omega) hw
        refine ⟨r, S2, V2, Sm2, Vm2, ?_, ?_, r3⟩
        · rw [if_neg (show ¬ b01 (true = true) = 0 by decide)] at c1
          rw [zz_loop_inl (b := fun st : (Int32 × Int32 × ZH) => f_X11_firstUnlikeLine_L11 h b (st.1) (st.2.1) (st.2.2)) (s := (zi k, zi (2 * n + 2), Cl b S V Q g1)) c1]
          exact r1
        · rw [zz_loop_inl (b := fun st : (Int32 × Int32 × Int32 × ZH) => f_X12_replay_L35 h' m (st.1) (st.2.1) (st.2.2.1) (st.2.2.2)) (s := (zi k, zi (2 * n), 0, Rm m Sm Vm g2)) q2]
          exact r2
      | false =>
        refine ⟨zi (2 * n + 2), S', V', Sm', Vm', ?_, ?_, q4⟩
        · rw [if_pos (show b01 (false = true) = 0 by decide)] at c1
          exact zz_loop_inr c1
        · rw [zz_loop_inl (b := fun st : (Int32 × Int32 × Int32 × ZH) => f_X12_replay_L35 h' m (st.1) (st.2.1) (st.2.2.1) (st.2.2.2)) (s := (zi k, zi (2 * n), 0, Rm m Sm Vm g2)) q2]
          refine zz_loop_inr ?_
          show f_X12_replay_L35 h' m (zi (e2 + 1)) (zi (2 * n + 2)) (zi (2 * n + 2)) (Rm m Sm' Vm' g2) = _
          obtain ⟨u1, u2, u3, u4⟩ := q4.1.2.2.2.1
          unfold f_X12_replay_L35 f_X12_replay_J148
          rw [rgI_2, Option.bind_some, rp_2, Option.bind_some, if_neg (show ¬ zi (2 * n + 2) = 0 from fun q => absurd ((zi_eqL (by omega) (by decide)).mp q) (by omega))]
          by_cases q : Sm' 2 ≤ zi (e2 + 1)
          · rw [if_pos q]
            rfl
          · rw [if_neg q]
            rfl
end
section
variable {b m : Nat} {S V : Nat → Nat → Int32} {Q : Nat → Option Nat} {g g1 g2 : ZH} {Sm : Nat → Int32} {Vm : Nat → Nat → Int32}
theorem Rel.clr2 (h : Rel b S V Q g Sm Vm) : Rel b (va_up S 1 (va_up (S 1) 1 0)) V Q g (va_up Sm 2 0) Vm := h.clr
theorem wt_le {M : Nat → Int32} {L : Nat} (hM : ∀ j, L ≤ j → M j = 10) : ∀ (f k n p : Nat), wt M L f k n = some p → p ≤ L + 8
  | 0, k, n, p, h => by cases h
  | f + 1, k, n, p, h => by
    rw [wt_succ] at h
    by_cases hk : L ≤ k
    · rw [if_pos hk] at h
      cases h
    · rw [if_neg hk] at h
      by_cases h20 : n = 20
      · rw [if_pos h20] at h
        injection h with h
        omega
      · rw [if_neg h20] at h
        cases hw : wtw M k with
        | some x =>
          rw [hw] at h
          injection h with h
          have := wtw_le hw
          omega
        | none =>
          rw [hw] at h
          dsimp only at h
          by_cases he : L ≤ le' M L k + 1
          · rw [if_pos he] at h
            injection h with h
            omega
          · rw [if_neg he] at h
            have hs := (se_spec hM (show le' M L k + 1 ≤ L by omega)).2.1
            by_cases h10 : M (se M L (le' M L k + 1)) = 10
            · rw [if_neg (fun q => q h10)] at h
              exact wt_le hM f _ _ p h
            · rw [if_pos h10] at h
              injection h with h
              omega
theorem op_replay (h : Rel b S V Q g Sm Vm) : ∃ r S' V' Sm' Vm', f_X11_replay (Cl b S V Q g1) b = some (r, Cl b S' V' Q g1) ∧ f_X12_replay (Rm m Sm Vm g2) m = some (r, Rm m Sm' Vm' g2) ∧ Rel b S' V' Q g Sm' Vm' := by
  obtain ⟨nr, nw, nt, t, ns, nf, p, hst, hct, hmo, h27, hpl, htp, hwd, htx, hsd, hsc, hfl⟩ := id h
  obtain ⟨t1, t2, t3, t4⟩ := id htp
  have hB := Byt_tape (b := b) (S := S) (V := V) (Q := Q) (g := g1) t1 t3
  have eT : mby (V 2) t = mb (Vm 1) t := (mb_mby t4).symm
  have hM : ∀ j, t ≤ j → mb (Vm 1) t j = 10 := fun j hj => mb_hi hj
  unfold f_X11_replay f_X12_replay f_X11_replay_J24
  simp only [cgR_0_0, Option.bind_some, X2_wrongInTranscript hB, eT, rp_0, rO, X12_wrongTranscript (S := va_up Sm 0 0) (show va_up Sm 0 0 2 = zi t from t2) t3, cO_0, cO_1, X0_clear_tape, rp_2]
  cases hw : wt (mb (Vm 1) t) t 601 0 0 with
  | some x =>
    have hx := wt_le hM _ _ _ _ hw
    rw [if_neg (show ¬ mE (some x) = -1 from fun q => zi_neg (n := x) (by omega) (by rw [show zi x = (-1 : Int32) from q]; decide)), if_neg (show ¬ mE (some x) < 0 from zi_neg (by omega))]
    exact ⟨_, _, _, _, _, rfl, rfl, h.clr⟩
  | none =>
    rw [if_pos (show mE none = -1 from rfl), if_pos (show mE none < 0 by decide)]
    have hr : Rre b (mS S 52 (bgn (amo S V 52) (S 4 5))) (mV V 52 (bgn (amo S V 52) (S 4 5))) Q g (va_up Sm 0 0) (beginV (va_up Sm 0 0) Vm) nr nw nt t ns p nf := by
      refine ⟨Rco.fr (S := S) (V := V) (Sm := va_up Sm 0 0) (Vm := Vm) ⟨hst, hpl, h27, htp, hwd, htx, hsd, hsc⟩ (fun q hq => up_ne _ _ (by omega)) (fun q hq => up_ne _ _ (by omega)) (fun k hk => rfl) (fun k hk => ?_), hct, ?_, hfl⟩
      · unfold beginV
        rw [up_ne _ _ (by omega), up_ne _ _ (by omega)]
      · exact Rmo_begin (S := S) (V := V) (Sm := va_up Sm 0 0) (Vm := Vm) (nt := nt) hsd
    obtain ⟨r, S', V', Sm', Vm', r1, r2, r3⟩ := rep_loop (m := m) (g1 := g1) (g2 := g2) (h := Cl b S V Q g1) (h' := Rm m Sm Vm g2) (T := Vm 1) 601 0 0 _ _ _ _ hr rfl (by omega) (by omega) (by omega) hw
    unfold f_X11_firstUnlikeLine
    simp only [cgR_0_2, Option.bind_some, cO_51, X8_begin, X12_begin]
    refine ⟨r, _, V', _, Vm', ?_, r2, r3.rel.clr2⟩
    rw [show zz_loop (fun st : (Int32 × Int32 × ZH) => f_X11_firstUnlikeLine_L11 (Cl b S V Q g1) b (st.1) (st.2.1) (st.2.2)) (0, 2, Cl b (mS S 52 (bgn (amo S V 52) (S 4 5))) (mV V 52 (bgn (amo S V 52) (S 4 5))) Q g1) = some (r, Cl b S' V' Q g1) from r1]
    simp only [Option.bind_some, cgR_0_0, cO_1, X0_clear_tape]
end
