/-! ===== shrinking: class and reference in step ===== -/
theorem cgo_congr {sf sf' : (Nat → Int32) → Int32 → Int32 × (Nat → Int32)} {tl tl' wd wd' : Nat → Int32} {nt p : Nat} {broke sd : Int32} (hnt : nt ≤ 24) (hsf : sfR sf sf' nt) (htl : ∀ k, k < nt → tl k = tl' k) (hwd : ∀ i, i < p → wd i = wd' i) {i : Nat} (hi : i < p) : cgo sf tl wd p broke sd i = cgo sf' tl' wd' p broke sd i := by
  unfold cgo
  by_cases h1 : p = 1
  · rw [if_pos h1, if_pos h1]
  · rw [if_neg h1, if_neg h1]
    by_cases hl : i = p - 1
    · rw [if_pos hl]
      exact cg_congr hnt hsf htl (fun j hj => hwd j (by omega)) _ _ _ _ (by omega) bgn_ag
    · rw [if_neg hl]
      exact cg_congr hnt hsf htl (fun j hj => hwd j (by omega)) _ _ _ _ (by omega) bgn_ag
theorem shrink_pair {b m : Nat} {S V : Nat → Nat → Int32} {Sm : Nat → Int32} {Vm : Nat → Nat → Int32} {Q : Nat → Option Nat} {g g2 h1 h2 : ZH} {nr nw nt : Nat} {y1 y2 y3 y4 : Int32} (hst : Rst S V Sm Vm nr nw nt) (htl : ∀ k, k < nt → V 10 k = Vm 9 k) (hsd : S 4 5 = Sm 3) (hbr : S 69 5 = Sm 39) (h27 : Sm 27 = 0) (h39 : ¬ Sm 39 = 0) :
    ∀ (p rnd : Nat) (wc wm mo mom x : Nat → Int32), rnd + p ≤ 60 → 1 ≤ p → ag p wc wm → ∃ (p' : Nat) (wc' wm' mo' mom' x' : Nat → Int32), 1 ≤ p' ∧ p' ≤ p ∧ ag p' wc' wm' ∧ (∀ k, 12 ≤ k → mom' k = mom k) ∧
      zz_loop (fun st : (Int32 × ZH) => f_X9_shorten_L2 h1 (b + 69) (st.1) (st.2)) (zi rnd, Cl b (mS (va_up S 69 (va_up (S 69) 4 (zi p))) 70 mo) (mV (va_up V 72 wc) 70 mo) Q g) = some (zi p', Cl b (mS (va_up S 69 (va_up (S 69) 4 (zi p'))) 70 mo') (mV (va_up V 72 wc') 70 mo') Q g) ∧
      zz_loop (fun st : (Int32 × ZH) => f_X12_shrink_L58 h2 m y1 y2 y3 y4 (st.1) (st.2)) (1, Rm m (va_up Sm 37 (zi p)) (wv Vm mom x wm) g2) = zz_loop (fun st : (Int32 × ZH) => f_X12_shrink_L58 h2 m y1 y2 y3 y4 (st.1) (st.2)) (0, Rm m (va_up Sm 37 (zi p')) (wv Vm mom' x' wm') g2) := by
  intro p
  induction p with
  | zero => intro rnd wc wm mo mom x _ h; omega
  | succ n ih =>
    intro rnd wc wm mo mom x hr h1p hag
    obtain ⟨⟨a1, a2, a3⟩, ⟨b1, b2, b3⟩, ⟨c1, c2, c3⟩, d, e, e', f⟩ := id hst
    have k1 : ∀ q, q < 51 → va_up S 69 (va_up (S 69) 4 (zi (n + 1))) q = S q := fun q hq => up_ne _ _ (by omega)
    have k2 : ∀ q, q < 51 → va_up V 72 wc q = V q := fun q hq => up_ne _ _ (by omega)
    obtain ⟨mo1, ec⟩ := X9_first (b := b) (S := va_up S 69 (va_up (S 69) 4 (zi (n + 1)))) (V := va_up V 72 wc) (Q := Q) (g := g) (p := n + 1) (mo := mo) (nr := nr) (nw := nw) (nt := nt) a1 a3 b1 b3 c1 c3 (RI_env k1 a3 e) (HI_env k1 f.hi) (by rw [up_self, up_self]) (by omega)
    have esf : sayF nr (cru (va_up S 69 (va_up (S 69) 4 (zi (n + 1))))) (chs (va_up S 69 (va_up (S 69) 4 (zi (n + 1))))) (chm (va_up S 69 (va_up (S 69) 4 (zi (n + 1))))) (chv (va_up V 72 wc)) = sayF nr (cru S) (chs S) (chm S) (chv V) := by
      funext mo w
      exact sayF_env k1 k2 a3 e
    rw [esf] at ec
    rw [show va_up S 69 (va_up (S 69) 4 (zi (n + 1))) 69 5 = S 69 5 from rfl, show va_up S 69 (va_up (S 69) 4 (zi (n + 1))) 4 5 = S 4 5 from rfl, show va_up V 72 wc 10 = V 10 from rfl, show va_up V 72 wc 72 = wc from rfl] at ec
    have hsf : sfR (sayF nr (cru S) (chs S) (chm S) (chv V)) (sfm nr Vm) nt := sayF_sfR a3 d e f (fun _ _ => rfl)
    have hmm : sfR (sfm nr Vm) (sfm nr Vm) nt := by
      intro mo mo' w h
      have q1 := hsf mo mo w (fun _ _ => rfl)
      have q2 := hsf mo mo' w h
      refine ⟨q1.1.symm.trans q2.1, fun k hk => (q1.2.1 k hk).symm.trans (q2.2.1 k hk), fun h9 => ?_⟩
      rw [← q1.1] at h9
      rw [← q1.2.1 3 (by decide)]
      exact q1.2.2 h9
    obtain ⟨mom1, x1, em, hm1⟩ := X12_shr_round (m := m) (S := va_up Sm 37 (zi (n + 1))) (V := Vm) (g := g2) (h0 := h2) (nr := nr) (nw := nw) (nt := nt) (p := n + 1) (y1 := y1) (y2 := y2) (y3 := y3) (y4 := y4) (mo := mom) (x := x) (ws := wm) a2 a3 c3 e' hmm h27 h39 (by rw [up_self]) (by omega)
    rw [show va_up Sm 37 (zi (n + 1)) 39 = Sm 39 from rfl, show va_up Sm 37 (zi (n + 1)) 3 = Sm 3 from rfl] at em
    have ek : fsr (cgo (sayF nr (cru S) (chs S) (chm S) (chv V)) (V 10) wc (n + 1) (S 69 5) (S 4 5)) (n + 1) 0 = fsr (cgo (sfm nr Vm) (Vm 9) wm (n + 1) (Sm 39) (Sm 3)) (n + 1) 0 := by
      rw [hbr, hsd]
      exact fsr_congr (fun j _ hj => cgo_congr c3 hsf htl (fun i hi => hag i hi) (by omega))
    rw [ek] at ec
    have hk1 : cgo (sfm nr Vm) (Vm 9) wm (n + 1) (Sm 39) (Sm 3) 0 = cgo (sfm nr Vm) (Vm 9) wm (n + 1) (Sm 39) (Sm 3) 0 := rfl
    have none1 : n = 0 → ¬ fsr (cgo (sfm nr Vm) (Vm 9) wm (n + 1) (Sm 39) (Sm 3)) (n + 1) 0 < n + 1 := by
      intro hn h
      obtain ⟨-, -, -, g4⟩ := fsr_spec (cgo (sfm nr Vm) (Vm 9) wm (n + 1) (Sm 39) (Sm 3)) (n + 1) 0
      have := g4 (by omega)
      unfold cgo at this
      rw [if_pos (by omega)] at this
      cases this
    generalize fsr (cgo (sfm nr Vm) (Vm 9) wm (n + 1) (Sm 39) (Sm 3)) (n + 1) 0 = k at ec em none1
    have mstep : f_X12_shrink_L58 h2 m y1 y2 y3 y4 1 (Rm m (va_up Sm 37 (zi (n + 1))) (wv Vm mom x wm) g2) = zz_loop (fun st : (Int32 × Int32 × ZH) => f_X12_shrink_L69 h2 m y1 y2 y3 y4 (st.1) (st.2.1) (st.2.2)) (0, 0, Rm m (va_up Sm 37 (zi (n + 1))) (wv Vm mom x wm) g2) := by
      unfold f_X12_shrink_L58
      rw [if_neg (by decide)]
    by_cases hk : k < n + 1
    · rw [if_pos hk] at ec
      rw [b01_t hk, if_pos hk, if_pos hk, up_up] at em
      have hn : 1 ≤ n := by
        by_cases q : n = 0
        · exact absurd hk (none1 q)
        · omega
      obtain ⟨p', wc', wm', mo', mom', x', q1, q2, q3, q4, q5, q6⟩ := ih (rnd + 1) (bw wc k (n - k) (fun j => wc (k + 1 + j))) (bw wm k (n - k) (fun j => wm (k + 1 + j))) mo1 mom1 x1 (by omega) hn (by
        intro j hj
        unfold bw
        by_cases hj2 : k ≤ j ∧ j < k + (n - k)
        · rw [if_pos hj2, if_pos hj2]
          exact hag _ (by omega)
        · rw [if_neg hj2, if_neg hj2]
          exact hag _ (by omega))
      refine ⟨p', wc', wm', mo', mom', x', q1, by omega, q3, fun i hi => (q4 i hi).trans (hm1 i hi), ?_, ?_⟩
      · rw [zz_loop_inl (s' := (zi (rnd + 1), Cl b (mS (va_up S 69 (va_up (S 69) 4 (zi n))) 70 mo1) (mV (va_up V 72 (bw wc k (n - k) (fun j => wc (k + 1 + j)))) 70 mo1) Q g)), q5]
        show f_X9_shorten_L2 h1 (b + 69) (zi rnd) _ = _
        unfold f_X9_shorten_L2
        rw [cgR_69_3, Option.bind_some, cN_72, Option.bind_some, if_neg (fun q => absurd ((zi_le (by decide) (by omega)).mp q) (by omega)), cO_69, ec, Option.bind_some]
        show (if zi k = (-1 : Int32) then _ else _) = _
        rw [if_neg (by
          intro q
          have h2 := zi_neg (n := k) (by omega)
          rw [q] at h2
          exact h2 (by decide)), cO_69, X9_drop (p := n + 1) (k := k) (by
            show va_up (S 69) 4 (zi (n + 1)) 4 = _
            rw [up_self]) (by omega) hk, Option.bind_some, zi_one]
        have e1 : va_up (mS (va_up S 69 (va_up (S 69) 4 (zi (n + 1)))) 70 mo1) 69 (va_up (mS (va_up S 69 (va_up (S 69) 4 (zi (n + 1)))) 70 mo1 69) 4 (zi (n + 1 - 1))) = mS (va_up S 69 (va_up (S 69) 4 (zi n))) 70 mo1 := by
          rw [show mS (va_up S 69 (va_up (S 69) 4 (zi (n + 1)))) 70 mo1 69 = va_up (S 69) 4 (zi (n + 1)) from rfl, up_up, show n + 1 - 1 = n by omega]
          unfold mS
          rw [up_comm _ _ _ (show 70 ≠ 69 by decide), up_up]
          rfl
        have e2 : va_up (mV (va_up V 72 wc) 70 mo1) 72 (bw (mV (va_up V 72 wc) 70 mo1 72) k (n + 1 - 1 - k) (fun j => mV (va_up V 72 wc) 70 mo1 72 (k + 1 + j))) = mV (va_up V 72 (bw wc k (n - k) (fun j => wc (k + 1 + j)))) 70 mo1 := by
          rw [show mV (va_up V 72 wc) 70 mo1 72 = wc from rfl, show n + 1 - 1 - k = n - k by omega]
          unfold mV
          rw [up_comm _ _ _ (show 70 + 1 ≠ 72 by decide), up_up]
        rw [e1, e2]
      · rw [zz_loop_inl (s' := (1, Rm m (va_up Sm 37 (zi (n + 1 - 1))) (wv Vm mom1 x1 (bw wm k (n + 1 - 1 - k) (fun j => wm (k + 1 + j)))) g2))]
        · rw [show n + 1 - 1 = n by omega]
          exact q6
        · show f_X12_shrink_L58 h2 m y1 y2 y3 y4 1 _ = _
          rw [mstep, em]
    · rw [if_neg hk] at ec
      rw [b01_f hk, if_neg hk, if_neg hk] at em
      refine ⟨n + 1, wc, wm, mo1, mom1, x1, by omega, by omega, hag, hm1, ?_, ?_⟩
      · refine zz_loop_inr ?_
        show f_X9_shorten_L2 h1 (b + 69) (zi rnd) _ = _
        unfold f_X9_shorten_L2
        rw [cgR_69_3, Option.bind_some, cN_72, Option.bind_some, if_neg (fun q => absurd ((zi_le (by decide) (by omega)).mp q) (by omega)), cO_69, ec, Option.bind_some]
        show (if (-1 : Int32) = (-1 : Int32) then _ else _) = _
        rw [if_pos rfl]
        unfold f_X9_shorten_J35
        rw [cgI_69_4, Option.bind_some]
        rw [show mS (va_up S 69 (va_up (S 69) 4 (zi (n + 1)))) 70 mo1 69 4 = zi (n + 1) from by
          show va_up (S 69) 4 (zi (n + 1)) 4 = _
          rw [up_self]]
        rfl
      · rw [zz_loop_inl (s' := (0, Rm m (va_up Sm 37 (zi (n + 1))) (wv Vm mom1 x1 wm) g2))]
        show f_X12_shrink_L58 h2 m y1 y2 y3 y4 1 _ = _
        rw [mstep, em]
