/-! ===== a script runs ===== -/
section
variable {b m : Nat} {S V : Nat → Nat → Int32} {Q : Nat → Option Nat} {g g1 g2 : ZH} {Sm : Nat → Int32} {Vm : Nat → Nat → Int32} {nr nw nt t ns p nf a L i : Nat} {f : Nat → Int32}
theorem X7_note {ln : Int32} (hf : S 56 6 = zi nf) (hn : nf < 40) : f_X7_noteFailed (Cl b S V Q g1) (b + 56) ln = some (Cl b (va_up S 56 (va_up (S 56) 6 (zi (nf + 1)))) (va_up (va_up V 59 (va_up (V 59) nf ln)) 60 (va_up (V 60) nf (S 56 7))) Q g1) := by
  unfold f_X7_noteFailed
  simp only [cgI_56_6, cgR_56_4, cN_59, cgR_56_5, cN_60, Option.bind_some, hf]
  rw [if_neg (zi_neg (by omega)), if_neg (fun q => absurd ((zi_le (by omega) (by omega)).mp q) (by omega)), if_pos ((zi_lt (by omega) (by omega)).mpr hn), cs_59 _ hn, Option.bind_some, cgR_56_5, Option.bind_some, cgI_56_6, Option.bind_some, hf, cgI_56_7, Option.bind_some, cs_60 _ hn, Option.bind_some, cgI_56_6, Option.bind_some, hf, zi_one, cp_56_6, Option.bind_some]
  rfl
/-- the loop over the lines -/
theorem run_loop {h h' : ZH} (hs : Scr b Q g g1 a L i ns f) (hr : Rrn b S V Q g Sm Vm nr nw nt t ns p 0) (hw : wsc (mby f L) L 601 0 1 = none) :
    ∃ (r : Int32) (S' V' : Nat → Nat → Int32) (Sm' : Nat → Int32) (Vm' : Nat → Nat → Int32), zz_loop (fun st : (Int32 × Int32 × ZH) => f_X7_runThrough_L45 h (b + 56) a (st.1) (st.2.1) (st.2.2)) (0, 1, Cl b S V Q g1) = some (r, Cl b S' V' Q g1) ∧ zz_loop (fun st : (Int32 × Int32 × ZH) => f_X12_run_L56 h' m (zi i) (zi (600 * i + L)) (st.1) (st.2.1) (st.2.2)) (zi (600 * i), 0, Rm m Sm Vm g2) = some (r, Rm m Sm' Vm' g2) ∧ Rel b S' V' Q g Sm' Vm' := by
  obtain ⟨hi, hns, -, hL6, -⟩ := id hs
  have key := loop_rel (b1 := fun st : (Int32 × Int32 × ZH) => f_X7_runThrough_L45 h (b + 56) a (st.1) (st.2.1) (st.2.2)) (b2 := fun st : (Int32 × Int32 × ZH) => f_X12_run_L56 h' m (zi i) (zi (600 * i + L)) (st.1) (st.2.1) (st.2.2)) (fun s1 s2 => ∃ (k ln fu nf : Nat) (S' V' : Nat → Nat → Int32) (Sm' : Nat → Int32) (Vm' : Nat → Nat → Int32), s1 = (zi k, zi (ln + 1), Cl b S' V' Q g1) ∧ s2 = (zi (600 * i + k), zi ln, Rm m Sm' Vm' g2) ∧ Rrn b S' V' Q g Sm' Vm' nr nw nt t ns p nf ∧ nf ≤ ln ∧ ln ≤ k ∧ k ≤ L + 1 ∧ L < k + fu ∧ wsc (mby f L) L fu k (ln + 1) = none) (fun r1 r2 => ∃ (r : Int32) (S' V' : Nat → Nat → Int32) (Sm' : Nat → Int32) (Vm' : Nat → Nat → Int32), r1 = (r, Cl b S' V' Q g1) ∧ r2 = (r, Rm m Sm' Vm' g2) ∧ Rel b S' V' Q g Sm' Vm') (fun s => L + 1 - s.1.toNatClampNeg) ?_ (0, 1, Cl b S V Q g1) (zi (600 * i), 0, Rm m Sm Vm g2) ⟨0, 0, 601, 0, S, V, Sm, Vm, rfl, rfl, hr, by omega, by omega, by omega, by omega, hw⟩
  · obtain ⟨r1, r2, e1, e2, r, S', V', Sm', Vm', q1, q2, q3⟩ := key
    exact ⟨r, S', V', Sm', Vm', by rw [e1, q1], by rw [e2, q2], q3⟩
  · rintro s1 s2 ⟨k, ln, fu, nf, S', V', Sm', Vm', rfl, rfl, hr', hnf, hln, hkL, hfu, hw'⟩
    have hB := hs.byt (S := S') (V := V')
    have hm := hs.m31 hr'
    have hfl := hr'.2.2.2.1
    have hfa := hr'.2.2.2.2.1
    have fin1 : Option.map Sum.inr (f_X7_runThrough_J128 h (b + 56) a (Cl b S' V' Q g1)) = some (Sum.inr (α := Int32 × Int32 × ZH) (zi nf, Cl b S' V' Q g1)) := by
      unfold f_X7_runThrough_J128
      rw [cgI_56_6, Option.bind_some, hfl.1]
      rfl
    have fin2 : Option.map Sum.inr (f_X12_run_J156 h' m (zi i) (Rm m Sm' Vm' g2)) = some (Sum.inr (α := Int32 × Int32 × ZH) (zi nf, Rm m Sm' Vm' g2)) := by
      unfold f_X12_run_J156
      rw [rgI_35, Option.bind_some, hfl.2.1]
      rfl
    have stop : f_X7_runThrough_L45 h (b + 56) a (zi k) (zi (ln + 1)) (Cl b S' V' Q g1) = some (.inr (zi nf, Cl b S' V' Q g1)) → f_X12_run_L56 h' m (zi i) (zi (600 * i + L)) (zi (600 * i + k)) (zi ln) (Rm m Sm' Vm' g2) = some (.inr (zi nf, Rm m Sm' Vm' g2)) → (∃ r1 r2, f_X7_runThrough_L45 h (b + 56) a (zi k) (zi (ln + 1)) (Cl b S' V' Q g1) = some (.inr r1) ∧ f_X12_run_L56 h' m (zi i) (zi (600 * i + L)) (zi (600 * i + k)) (zi ln) (Rm m Sm' Vm' g2) = some (.inr r2) ∧ ∃ (r : Int32) (S' V' : Nat → Nat → Int32) (Sm' : Nat → Int32) (Vm' : Nat → Nat → Int32), r1 = (r, Cl b S' V' Q g1) ∧ r2 = (r, Rm m Sm' Vm' g2) ∧ Rel b S' V' Q g Sm' Vm') :=
      fun q1 q2 => ⟨_, _, q1, q2, zi nf, S', V', Sm', Vm', rfl, rfl, hr'.rel⟩
    by_cases hk : L ≤ k
    · refine Or.inr (stop ?_ ?_)
      · unfold f_X7_runThrough_L45
        rw [hB.len, Option.bind_some, if_pos ((zi_le (by omega) (by omega)).mpr hk), fin1]
        by_cases q : (600 : Int32) < zi (ln + 1)
        · rw [if_pos q]
        · rw [if_neg q]
      · unfold f_X12_run_L56
        rw [if_pos ((zi_le (by omega) (by omega)).mpr (by omega)), fin2]
    · by_cases h0 : Sm' 36 = 0
      · obtain ⟨f', rfl⟩ : ∃ f', fu = f' + 1 := ⟨fu - 1, by omega⟩
        rw [wsc_succ, if_neg hk] at hw'
        have hE := X2_lineEnd hB (k := k) (by omega)
        have hle := le'_le (M := mby f L) (show k ≤ L by omega)
        have hge := le'_ge (mby f L) L k
        have c1 : f_X7_runThrough_L45 h (b + 56) a (zi k) (zi (ln + 1)) (Cl b S' V' Q g1) = ((if mby f L k = 62 then f_X7_saysAll (Cl b S' V' Q g1) (b + 56) a (zi (k + 2)) (zi (le' (mby f L) L k)) else f_X7_comesOut (Cl b S' V' Q g1) (b + 56) a (zi k) (zi (le' (mby f L) L k))).bind fun q => f_X7_runThrough_J105 h (b + 56) a (zi (ln + 1)) (zi (le' (mby f L) L k)) q.1 q.2) := by
          unfold f_X7_runThrough_L45
          rw [hB.len, Option.bind_some, if_neg (fun q => absurd ((zi_Llt (by omega) (by decide)).mp q) (by omega)), if_neg (fun q => hk ((zi_le (by omega) (by omega)).mp q)), cgI_56_7, Option.bind_some, hfa, if_pos h0, hE, Option.bind_some, hB.isO, X0_at hB (by omega), Option.bind_some, bt_lt (show k < L by omega), cO_56, cO_56, show zi k + (2 : Int32) = zi (k + 2) from zi_add k 2]
          by_cases c : mby f L k = 62
          · rw [if_pos c, if_pos c]
          · rw [if_neg c, if_neg c]
        have c2 : f_X12_run_L56 h' m (zi i) (zi (600 * i + L)) (zi (600 * i + k)) (zi ln) (Rm m Sm' Vm' g2) = f_X12_run_J95 h' m (zi i) (zi (600 * i + k)) (zi (600 * i + L)) (zi ln) (zi (600 * i + le' (mby f L) L k)) (Rm m Sm' Vm' g2) := by
          unfold f_X12_run_L56
          rw [if_neg (fun q => absurd ((zi_le (by omega) (by omega)).mp q) (by omega)), rgI_36, Option.bind_some, if_pos h0]
          have key := loop_to (b := fun st : Int32 => f_X12_run_L71 h' m (zi i) (zi (600 * i + k)) (zi (600 * i + L)) (zi ln) (Rm m Sm' Vm' g2) st) (fun j => zi (600 * i + j)) k (le' (mby f L) L k) hge (fun j q1 q2 => by
            show f_X12_run_L71 h' m (zi i) (zi (600 * i + k)) (zi (600 * i + L)) (zi ln) (Rm m Sm' Vm' g2) (zi (600 * i + j)) = _
            unfold f_X12_run_L71
            rw [if_neg (fun q => absurd ((zi_le (by omega) (by omega)).mp q) (by omega)), rgR_31, Option.bind_some, rl_31 (by omega), Option.bind_some, hm j (by omega), if_neg (le'_no q1 q2), zi_one]
            rfl)
          refine Eq.trans key (zz_loop_map ?_)
          show f_X12_run_L71 h' m (zi i) (zi (600 * i + k)) (zi (600 * i + L)) (zi ln) (Rm m Sm' Vm' g2) (zi (600 * i + le' (mby f L) L k)) = _
          unfold f_X12_run_L71
          by_cases q : L ≤ le' (mby f L) L k
          · rw [if_pos ((zi_le (by omega) (by omega)).mpr (by omega))]
          · rw [if_neg (fun q => absurd ((zi_le (by omega) (by omega)).mp q) (by omega)), rgR_31, Option.bind_some, rl_31 (by omega), Option.bind_some, hm _ (by omega), if_pos (le'_is (fun j hj => mby_hi hj) (by omega))]
        have hms : ∀ e, k ≤ e → e ≤ L → L + 1 - (zi (e + 1)).toNatClampNeg < L + 1 - (zi k).toNatClampNeg := fun e q1 q2 => by
          rw [zi_nat (by omega), zi_nat (by omega)]
          omega
        by_cases h10 : mby f L k = 10
        · rw [if_pos h10] at hw'
          have ee := le'_at (L := L) h10
          rw [ee] at c1 c2 hE
          refine Or.inl ⟨(zi (k + 1), zi (ln + 1 + 1), Cl b S' V' Q g1), (zi (600 * i + (k + 1)), zi (ln + 1), Rm m Sm' Vm' g2), ?_, ?_, ⟨k + 1, ln + 1, f', nf, S', V', Sm', Vm', rfl, rfl, hr', by omega, by omega, by omega, by omega, hw'⟩, hms k (by omega) (by omega)⟩
          · show f_X7_runThrough_L45 h (b + 56) a (zi k) (zi (ln + 1)) (Cl b S' V' Q g1) = _
            rw [c1, if_neg (by rw [h10]; decide)]
            unfold f_X7_comesOut f_X7_runThrough_J105 f_X7_runThrough_J117
            rw [show zi k + (2 : Int32) = zi (k + 2) from zi_add k 2, zz_let, hB.isO, X0_at hB (by omega), Option.bind_some, zz_let, hB.isO, X0_at hB (by omega), Option.bind_some, bt_lt (show k < L by omega), h10, zi_one, zi_one]
            rfl
          · show f_X12_run_L56 h' m (zi i) (zi (600 * i + L)) (zi (600 * i + k)) (zi ln) (Rm m Sm' Vm' g2) = _
            rw [c2]
            unfold f_X12_run_J95 f_X12_run_J148
            rw [if_pos ((zi_le (by omega) (by omega)).mpr (by omega)), zz_let, zi_one, zi_one]
            rfl
        · rw [if_neg h10] at hw'
          have h40 : ¬ 40 < ln + 1 := fun q => by
            rw [if_pos q] at hw'
            cases hw'
          rw [if_neg h40] at hw'
          have hwl : wl (mby f L) k = none := by
            cases hq : wl (mby f L) k with
            | none => rfl
            | some x =>
              rw [hq] at hw'
              cases hw'
          rw [hwl] at hw'
          have hw' : wsc (mby f L) L f' (le' (mby f L) L k + 1) (ln + 1 + 1) = none := hw'
          have hlt : k < le' (mby f L) L k := by
            rcases Nat.lt_or_ge k (le' (mby f L) L k) with q | q
            · exact q
            · have := le'_is (M := mby f L) (L := L) (k := k) (fun j hj => mby_hi hj) (by omega)
              rw [show le' (mby f L) L k = k by omega] at this
              exact absurd this h10
          obtain ⟨P, S2, V2, Sm2, Vm2, q1, q2, q3⟩ := com_line (m := m) (g2 := g2) hs hr' h10 hwl rfl
          rw [q1, Option.bind_some] at c1
          unfold f_X12_run_J95 at c2
          rw [if_neg (fun q => absurd ((zi_le (by omega) (by omega)).mp q) (by omega)), rO, q2, Option.bind_some] at c2
          generalize le' (mby f L) L k = e at c1 c2 hle hge hlt hw'
          cases P with
          | true =>
            refine Or.inl ⟨(zi (e + 1), zi (ln + 1 + 1), Cl b S2 V2 Q g1), (zi (600 * i + (e + 1)), zi (ln + 1), Rm m Sm2 Vm2 g2), ?_, ?_, ⟨e + 1, ln + 1, f', nf, S2, V2, Sm2, Vm2, rfl, rfl, q3, by omega, by omega, by omega, by omega, hw'⟩, hms e (by omega) (by omega)⟩
            · show f_X7_runThrough_L45 h (b + 56) a (zi k) (zi (ln + 1)) (Cl b S' V' Q g1) = _
              rw [c1]
              unfold f_X7_runThrough_J105 f_X7_runThrough_J117
              rw [if_neg (show ¬ b01 (true = true) = 0 by decide), zz_let, zi_one, zi_one]
            · show f_X12_run_L56 h' m (zi i) (zi (600 * i + L)) (zi (600 * i + k)) (zi ln) (Rm m Sm' Vm' g2) = _
              rw [c2]
              unfold f_X12_run_J148
              dsimp only
              rw [if_neg (show ¬ b01 (true = true) = 0 by decide), zz_let, zi_one, zi_one]
              rfl
          | false =>
            have hfl2 := q3.2.2.2.1
            refine Or.inl ⟨(zi (e + 1), zi (ln + 1 + 1), _), (zi (600 * i + (e + 1)), zi (ln + 1), _), ?_, ?_, ⟨e + 1, ln + 1, f', nf + 1, _, _, _, _, rfl, rfl, q3.note (ln := zi (ln + 1)) (by omega), by omega, by omega, by omega, by omega, hw'⟩, hms e (by omega) (by omega)⟩
            · show f_X7_runThrough_L45 h (b + 56) a (zi k) (zi (ln + 1)) (Cl b S' V' Q g1) = _
              rw [c1]
              unfold f_X7_runThrough_J105 f_X7_runThrough_J117
              rw [if_pos (show b01 (false = true) = 0 by decide), cO_56, X7_note hfl2.1 (by omega), Option.bind_some, zz_let, zi_one, zi_one]
            · show f_X12_run_L56 h' m (zi i) (zi (600 * i + L)) (zi (600 * i + k)) (zi ln) (Rm m Sm' Vm' g2) = _
              rw [c2]
              unfold f_X12_run_J148
              dsimp only
              rw [if_pos (show b01 (false = true) = 0 by decide), rgR_33, Option.bind_some, rgI_35, Option.bind_some, hfl2.2.1, zi_one, rs_33 _ (by omega), Option.bind_some, rgR_34, Option.bind_some, rgI_35, Option.bind_some, hfl2.2.1, rgI_36, Option.bind_some, rs_34 _ (by omega), Option.bind_some, rgI_35, Option.bind_some, hfl2.2.1, zi_one, rp_35, Option.bind_some, zz_let, zi_one]
              rfl
      · refine Or.inr (stop ?_ ?_)
        · unfold f_X7_runThrough_L45
          rw [hB.len, Option.bind_some, if_neg (fun q => hk ((zi_le (by omega) (by omega)).mp q)), cgI_56_7, Option.bind_some, hfa, if_neg h0, fin1]
          by_cases q : (600 : Int32) < zi (ln + 1)
          · rw [if_pos q]
          · rw [if_neg q]
        · unfold f_X12_run_L56
          rw [if_neg (fun q => absurd ((zi_le (by omega) (by omega)).mp q) (by omega)), rgI_36, Option.bind_some, if_neg h0, fin2]
theorem X7_through : f_X7_runThrough (Cl b S V Q g1) (b + 56) a = zz_loop (fun st : (Int32 × Int32 × ZH) => f_X7_runThrough_L45 (Cl b S V Q g1) (b + 56) a (st.1) (st.2.1) (st.2.2)) (0, 1, Cl b (va_up (mS S 52 (bgn (amo S V 52) (S 4 5))) 56 (va_up (va_up (S 56) 6 0) 7 0)) (va_up (mV V 52 (bgn (amo S V 52) (S 4 5))) 58 (bw (V 58) 0 4 (fun _ => 0))) Q g1) := by
  unfold f_X7_runThrough
  rw [cgR_56_1, Option.bind_some, cO_51, X8_begin, Option.bind_some]
  have e56 : mS S 52 (bgn (amo S V 52) (S 4 5)) 56 = S 56 := rfl
  have e58 : mV V 52 (bgn (amo S V 52) (S 4 5)) 58 = V 58 := rfl
  generalize hS1 : mS S 52 (bgn (amo S V 52) (S 4 5)) = S1 at e56
  generalize hV1 : mV V 52 (bgn (amo S V 52) (S 4 5)) = V1 at e58
  have key := loop_to (b := fun st : (Int32 × ZH) => f_X7_runThrough_L9 (Cl b S V Q g1) (b + 56) a (st.1) (st.2)) (fun i => (zi i, Cl b S1 (va_up V1 58 (bw (V 58) 0 i (fun _ => 0))) Q g1)) 0 4 (by decide) (fun i _ hi => by
    show f_X7_runThrough_L9 (Cl b S V Q g1) (b + 56) a (zi i) (Cl b S1 (va_up V1 58 (bw (V 58) 0 i (fun _ => 0))) Q g1) = _
    unfold f_X7_runThrough_L9
    rw [cgR_56_3, Option.bind_some, cN_58, Option.bind_some, if_neg (fun q => absurd ((zi_le (by omega) (by omega)).mp q) (by omega)), Option.bind_some, cs_58 _ hi, Option.bind_some, up_up, up_self, nar_b0, zi_one]
    have e := bw_up (V 58) 0 i (fun _ => (0 : Int32))
    rw [Nat.zero_add] at e
    rw [e])
  rw [show ((0 : Int32), Cl b S1 V1 Q g1) = (fun i => (zi i, Cl b S1 (va_up V1 58 (bw (V 58) 0 i (fun _ => 0))) Q g1)) 0 by
    dsimp only
    rw [bw_0, ← e58, up_id]
    rfl, key]
  refine zz_loop_map ?_
  show f_X7_runThrough_L9 (Cl b S V Q g1) (b + 56) a (zi 4) (Cl b S1 (va_up V1 58 (bw (V 58) 0 4 (fun _ => 0))) Q g1) = _
  unfold f_X7_runThrough_L9
  rw [cgR_56_3, Option.bind_some, cN_58, Option.bind_some, if_pos ((zi_le (by omega) (by omega)).mpr (by omega)), cp_56_6, Option.bind_some, cp_56_7, Option.bind_some, up_up, up_self, e56]
theorem op_run {x : Int32} (hx : Ext b g g1) (h : Rel b S V Q g Sm Vm) : ∃ r S' V' Sm' Vm', f_X11_run (Cl b S V Q g1) b x = some (r, Cl b S' V' Q g1) ∧ f_X12_run (Rm m Sm Vm g2) m x = some (r, Rm m Sm' Vm' g2) ∧ Rel b S' V' Q g Sm' Vm' := by
  obtain ⟨nr, nw, nt, t, ns, nf, p, hst, hct, hmo, h27, hpl, htp, hwd, htx, hsd, hsc, hfl⟩ := id h
  obtain ⟨s1, s2, s3, s4⟩ := id hsc
  unfold f_X11_run f_X12_run
  simp only [cgI_0_6, s1, inside_eq, Option.bind_some, rp_0, rgI_30, show va_up Sm 0 0 30 = Sm 30 from rfl, s2, in_0_v]
  by_cases hin : (0 : Int32) ≤ x ∧ x ≤ zi ns - 1
  · rw [if_neg (fun q => b01_0.mp q hin), if_neg (fun q => b01_0.mp q hin)]
    obtain ⟨i, hi, rfl⟩ := (zi_below (by omega)).mp hin
    obtain ⟨a, r, L, f, q1, q2, q3, q4, q5, q6, q7, q8, q9⟩ := s4 i hi
    have hs : Scr b Q g g1 a L i ns f := ⟨hi, s3, q1, q6, r, q2, q3, q4, q5, hx a q2, hx r q3⟩
    have eQ : zl_Q (Cl b S V Q g1) (b + 3) 4 (zi i) = some (some a) := by
      rw [← q1]
      exact zl_Q_of (Cl_at (o := 3) (by decide) rfl) (show i < 10 by omega) (by decide)
    have hr : Rrn b (va_up (mS S 52 (bgn (amo S V 52) (S 4 5))) 56 (va_up (va_up (S 56) 6 0) 7 0)) (va_up (mV V 52 (bgn (amo S V 52) (S 4 5))) 58 (bw (V 58) 0 4 (fun _ => 0))) Q g (va_up (va_up (va_up Sm 0 0) 35 0) 36 0) (beginV (va_up Sm 0 0) Vm) nr nw nt t ns p 0 := by
      refine ⟨Rco.fr (S := S) (V := V) (Sm := va_up Sm 0 0) (Vm := Vm) ⟨hst, hpl, h27, htp, hwd, htx, hsd, hsc⟩ (fun q hq => ?_) (fun q hq => ?_) (fun k hk => ?_) (fun k hk => ?_), hct, ?_, ⟨rfl, rfl, by decide, fun k hk => absurd hk (by omega), fun k hk => absurd hk (by omega)⟩, rfl, ?_⟩
      · rw [up_ne _ _ (by omega)]
        exact up_ne _ _ (by omega)
      · rw [up_ne _ _ (by omega)]
        exact up_ne _ _ (by omega)
      · rw [up_ne _ _ (by omega), up_ne _ _ (by omega)]
      · unfold beginV
        rw [up_ne _ _ (by omega), up_ne _ _ (by omega)]
      · exact Rmo_begin (S := S) (V := V) (Sm := va_up Sm 0 0) (Vm := Vm) (nt := nt) hsd
      · intro j hj
        have e1 : va_up (mV V 52 (bgn (amo S V 52) (S 4 5))) 58 (bw (V 58) 0 4 (fun _ => 0)) 58 j = 0 := by
          rw [up_self]
          have := bw_in (f := V 58) (lo := 0) (src := fun _ => (0 : Int32)) hj
          rw [Nat.zero_add] at this
          exact this
        have e2 : beginV (va_up Sm 0 0) Vm 29 (1 + j) = 0 := by
          unfold beginV
          rw [up_self]
          exact bw_in hj
        rw [e1, e2]
        exact ⟨rfl, fun q => absurd rfl q⟩
    obtain ⟨r', S', V', Sm', Vm', l1, l2, l3⟩ := run_loop (m := m) (g2 := g2) (h := Cl b S V Q g1) (h' := Rm m Sm Vm g2) hs hr q9
    refine ⟨r', S', V', Sm', Vm', ?_, ?_, l3⟩
    · rw [cgR_0_5, Option.bind_some, eQ, Option.bind_some]
      show (zg_R (Cl b S V Q g1) b 9 3).bind _ = _
      rw [cgR_0_3, Option.bind_some, cO_56, X7_through, l1, Option.bind_some]
    · rw [rO, X12_begin, Option.bind_some, rp_35, Option.bind_some, rp_36, Option.bind_some, zz_let, zi_Lmul, rgR_32, Option.bind_some, rl_32 (by omega), Option.bind_some, show beginV (va_up Sm 0 0) Vm 32 i = zi L from q7, zz_let, zi_add]
      exact l2
  · rw [if_pos (b01_f hin), if_pos (b01_f hin)]
    exact ⟨_, S, V, _, Vm, rfl, rfl, h.thr 0⟩
end
