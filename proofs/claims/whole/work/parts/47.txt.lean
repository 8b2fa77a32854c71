/-! ===== text ===== -/
/-- where the signs from k on end -/
def se (M : Nat → Int32) (L k : Nat) : Nat := fsr (fun j => decide (¬ sgn (M j))) (L - k) k
theorem X2_signsEnd {h : ZH} {a L : Nat} {f : Nat → Int32} {k : Nat} (hB : Byt h a L f) (hk : k < 1000000) : f_X2_signsEnd h a (zi k) = some (zi (se (mby f L) L k)) := by
  have h6 := hB.le
  unfold f_X2_signsEnd se
  obtain ⟨g1, g2, g3, g4⟩ := fsr_spec (fun j => decide (¬ sgn (mby f L j))) (L - k) k
  generalize fsr (fun j => decide (¬ sgn (mby f L j))) (L - k) k = n at g1 g2 g3 g4
  have key := loop_to (b := fun st : Int32 => f_X2_signsEnd_L2 h a (zi k) st) (fun i => zi i) k n g1 ?_
  · rw [show zi k = (fun i => zi i) k from rfl, key]
    refine zz_loop_inr ?_
    show f_X2_signsEnd_L2 h a (zi k) (zi n) = _
    unfold f_X2_signsEnd_L2
    rw [hB.len, Option.bind_some]
    by_cases hL : L ≤ n
    · rw [if_pos ((zi_le (by omega) (by omega)).mpr hL)]
      rfl
    · have := g4 (by omega)
      rw [decide_eq_true_eq] at this
      rw [if_neg (fun q => hL ((zi_le (by omega) (by omega)).mp q)), hB.isO, X0_at hB (by omega), Option.bind_some, X2_isSign, Option.bind_some, if_pos (b01_f (fun q => this ((bt_sgn f L n).mp q)))]
      rfl
  · intro i h1 hi
    have := g3 i h1 hi
    rw [decide_eq_false_iff_not, Decidable.not_not] at this
    show f_X2_signsEnd_L2 h a (zi k) (zi i) = _
    unfold f_X2_signsEnd_L2
    rw [hB.len, Option.bind_some, if_neg (fun q => absurd ((zi_le (by omega) (by omega)).mp q) (by omega)), hB.isO, X0_at hB (by omega), Option.bind_some, X2_isSign, Option.bind_some, if_neg (fun q => b01_0.mp q ((bt_sgn f L i).mpr this)), zi_one]
theorem X2_lineEnd {h : ZH} {a L : Nat} {f : Nat → Int32} {k : Nat} (hB : Byt h a L f) (hk : k < 1000000) : f_X2_lineEnd h a (zi k) = some (zi (le' (mby f L) L k)) := by
  have h6 := hB.le
  unfold f_X2_lineEnd le'
  obtain ⟨g1, g2, g3, g4⟩ := fsr_spec (fun j => decide (mby f L j = 10)) (L - k) k
  generalize fsr (fun j => decide (mby f L j = 10)) (L - k) k = n at g1 g2 g3 g4
  have key := loop_to (b := fun st : Int32 => f_X2_lineEnd_L2 h a (zi k) st) (fun i => zi i) k n g1 ?_
  · rw [show zi k = (fun i => zi i) k from rfl, key]
    refine zz_loop_inr ?_
    show f_X2_lineEnd_L2 h a (zi k) (zi n) = _
    unfold f_X2_lineEnd_L2
    rw [hB.len, Option.bind_some]
    by_cases hL : L ≤ n
    · rw [if_pos ((zi_le (by omega) (by omega)).mpr hL)]
      rfl
    · have := g4 (by omega)
      rw [decide_eq_true_eq] at this
      rw [if_neg (fun q => hL ((zi_le (by omega) (by omega)).mp q)), hB.isO, X0_at hB (by omega), Option.bind_some]
      rcases bt_mby f L n with ⟨-, e⟩ | ⟨q, -⟩
      · rw [e, if_pos this]
        rfl
      · omega
  · intro i h1 hi
    have := g3 i h1 hi
    rw [decide_eq_false_iff_not] at this
    show f_X2_lineEnd_L2 h a (zi k) (zi i) = _
    unfold f_X2_lineEnd_L2
    rw [hB.len, Option.bind_some, if_neg (fun q => absurd ((zi_le (by omega) (by omega)).mp q) (by omega)), hB.isO, X0_at hB (by omega), Option.bind_some]
    rcases bt_mby f L i with ⟨-, e⟩ | ⟨q, -⟩
    · rw [e, if_neg this, zi_one]
    · omega
section
variable {b m : Nat} {S V : Nat → Nat → Int32} {Q : Nat → Option Nat} {g g1 g2 : ZH} {Sm : Nat → Int32} {Vm : Nat → Nat → Int32}
def gt (M : Nat → Int32) (t : Nat) : Prop := t ≤ 20 ∧ ∀ k, k < t → sgn (M k)
theorem X12_text_chk {t : Nat} {h0 : ZH} {S1 : Nat → Int32} {v0 : Int32} (h6 : t ≤ 600) (hv0 : v0 = 0 ∧ 20 < t ∨ v0 = 1 ∧ t ≤ 20) : ∃ v : Int32, (v = 0 ∧ ¬ gt (Vm 1) t ∨ v = 1 ∧ gt (Vm 1) t) ∧ zz_loop (fun st : (Int32 × Int32) => f_X12_text_L29 h0 m (zi t) (Rm m S1 Vm g) (st.1) (st.2)) (v0, (0 : Int32)) = f_X12_text_J54 h0 m (zi t) v (Rm m S1 Vm g) := by
  have ex : ∀ (v k : Int32), v = 0 ∨ zi t ≤ k → f_X12_text_L29 h0 m (zi t) (Rm m S1 Vm g) v k = (f_X12_text_J54 h0 m (zi t) v (Rm m S1 Vm g)).map Sum.inr := by
    intro v k hv
    unfold f_X12_text_L29
    by_cases hk : zi t ≤ k
    · rw [if_pos hk]
    · rw [if_neg hk, if_pos (hv.resolve_right hk)]
  rcases hv0 with ⟨rfl, ht⟩ | ⟨rfl, ht⟩
  · exact ⟨0, Or.inl ⟨rfl, fun q => absurd q.1 (by omega)⟩, zz_loop_map (ex 0 0 (Or.inl rfl))⟩
  · obtain ⟨f1, f2, f3, f4⟩ := fsr_spec (fun k => decide (¬ sgn (Vm 1 k))) t 0
    generalize fsr (fun k => decide (¬ sgn (Vm 1 k))) t 0 = i at f1 f2 f3 f4
    have key := loop_to (b := fun st : (Int32 × Int32) => f_X12_text_L29 h0 m (zi t) (Rm m S1 Vm g) (st.1) (st.2)) (fun i => (1, zi i)) 0 i (Nat.zero_le _) ?_
    · rw [show ((1 : Int32), (0 : Int32)) = (fun i => (1, zi i)) 0 from rfl, key]
      by_cases hi : i = t
      · subst hi
        refine ⟨1, Or.inr ⟨rfl, ht, fun k hk => ?_⟩, zz_loop_map (ex 1 (zi i) (Or.inr ((zi_le (by omega) (by omega)).mpr (Nat.le_refl _))))⟩
        have := f3 k (Nat.zero_le _) hk
        rw [decide_eq_false_iff_not, Decidable.not_not] at this
        exact this
      · have hlt := f4 (by omega)
        rw [decide_eq_true_eq] at hlt
        refine ⟨0, Or.inl ⟨rfl, fun q => hlt (q.2 i (by omega))⟩, ?_⟩
        rw [zz_loop_inl (s' := (0, zi (i + 1)))]
        · exact zz_loop_map (ex 0 _ (Or.inl rfl))
        · show f_X12_text_L29 h0 m (zi t) (Rm m S1 Vm g) 1 (zi i) = _
          unfold f_X12_text_L29
          rw [if_neg (fun q => absurd ((zi_le (by omega) (by omega)).mp q) (by omega)), if_neg (by decide), rgR_1, Option.bind_some, rl_1 (by omega), Option.bind_some, X12_isSign, Option.bind_some, b01_f hlt, zi_one]
    · intro k _ hk
      have := f3 k (Nat.zero_le _) hk
      rw [decide_eq_false_iff_not, Decidable.not_not] at this
      show f_X12_text_L29 h0 m (zi t) (Rm m S1 Vm g) 1 (zi k) = _
      unfold f_X12_text_L29
      rw [if_neg (fun q => absurd ((zi_le (by omega) (by omega)).mp q) (by omega)), if_neg (by decide), rgR_1, Option.bind_some, rl_1 (by omega), Option.bind_some, X12_isSign, Option.bind_some, b01_t this, zi_one]
theorem X12_text_app {t nw : Nat} {h0 : ZH} {S1 : Nat → Int32} (h4 : S1 7 = zi nw) (hN : nw < 24) (ht : t ≤ 20) : zz_loop (fun st : (Int32 × ZH) => f_X12_text_L75 h0 m (zi t) (st.1) (st.2)) ((0 : Int32), Rm m S1 Vm g) = some (zi nw, Rm m (va_up S1 7 (zi (nw + 1))) (va_up (va_up Vm 8 (bw (Vm 8) (20 * nw) t (Vm 1))) 9 (va_up (Vm 9) nw (zi t))) g) := by
  have key := loop_cnt (b := fun st : (Int32 × ZH) => f_X12_text_L75 h0 m (zi t) (st.1) (st.2)) t (fun k => Rm m S1 (va_up Vm 8 (bw (Vm 8) (20 * nw) k (Vm 1))) g) (zi nw, Rm m (va_up S1 7 (zi (nw + 1))) (va_up (va_up Vm 8 (bw (Vm 8) (20 * nw) t (Vm 1))) 9 (va_up (Vm 9) nw (zi t))) g) 0 (Nat.zero_le _) ?_ ?_
  · rw [bw_0, up_id] at key
    exact key
  · intro k _ hk
    show f_X12_text_L75 h0 m (zi t) (zi k) _ = _
    unfold f_X12_text_L75
    rw [if_neg (fun q => absurd ((zi_le (by omega) (by omega)).mp q) (by omega)), rgR_8, Option.bind_some, rgI_7, Option.bind_some, h4, rgR_1, Option.bind_some, rl_1 (by omega), Option.bind_some, zi_Lmul, zi_add, rs_8 _ (by omega), Option.bind_some, up_self, up_up, zi_one]
    rw [show va_up Vm 8 (bw (Vm 8) (20 * nw) k (Vm 1)) 1 k = Vm 1 k from rfl, bw_up]
  · show f_X12_text_L75 h0 m (zi t) (zi t) _ = _
    unfold f_X12_text_L75
    rw [if_pos ((zi_le (by omega) (by omega)).mpr (Nat.le_refl _)), rgR_9, Option.bind_some, rgI_7, Option.bind_some, h4, rs_9 _ (by omega), Option.bind_some, rgI_7, Option.bind_some, h4, zi_one, rp_7, Option.bind_some, rgI_7, Option.bind_some, up_self, show zi (nw + 1) - (1 : Int32) = zi nw from zi_sub (b := 1) (by omega)]
    rfl
theorem op_text (h : Rel b S V Q g Sm Vm) : ∃ r S' V' Sm' Vm', f_X11_text (Cl b S V Q g1) b = some (r, Cl b S' V' Q g1) ∧ f_X12_text (Rm m Sm Vm g2) m = some (r, Rm m Sm' Vm' g2) ∧ Rel b S' V' Q g Sm' Vm' := by
  obtain ⟨nr, nw, nt, t, ns, nf, p, hst, hct, hmo, h27, hpl, htp, hwd, htx, hsd, hsc, hfl⟩ := id h
  obtain ⟨t1, t2, t3, t4⟩ := id htp
  obtain ⟨-, ⟨b1, b2, b3⟩, ⟨c1, c2, c3⟩, -⟩ := id hst
  have hB := Byt_tape (b := b) (S := S) (V := V) (Q := Q) (g := g1) t1 t3
  have eL : f_X2_signsEnd (Cl b S V Q g1) (b + 1) 0 = some (zi (se (mby (V 2) t) t 0)) := X2_signsEnd (k := 0) hB (by decide)
  have hse : (∀ k, k < t → sgn (Vm 1 k)) ↔ se (mby (V 2) t) t 0 = t := by
    constructor
    · intro h
      refine fsr_eq (Nat.zero_le _) (by omega) (fun j _ hj => ?_) (fun hj => by omega)
      rw [decide_eq_false_iff_not, Decidable.not_not, mby_tape t4 hj]
      exact h j hj
    · intro h k hk
      obtain ⟨g1, g2, g3, g4⟩ := fsr_spec (fun j => decide (¬ sgn (mby (V 2) t j))) (t - 0) 0
      rw [show fsr (fun j => decide (¬ sgn (mby (V 2) t j))) (t - 0) 0 = t from h] at g1 g2 g3 g4
      have := g3 k (Nat.zero_le _) hk
      rw [decide_eq_false_iff_not, Decidable.not_not, mby_tape t4 hk] at this
      exact this
  have hsl : se (mby (V 2) t) t 0 ≤ 0 + (t - 0) := (fsr_spec (fun j => decide (¬ sgn (mby (V 2) t j))) (t - 0) 0).2.1
  unfold f_X11_text f_X11_addText f_X12_text
  simp only [cO_0, cgR_0_0, cgI_1_1, cgR_0_1, cgR_4_1, cO_8, Option.bind_some, t1, eL, rp_0, rgI_2, rp_2, show va_up Sm 0 0 2 = Sm 2 from rfl, t2]
  obtain ⟨v0, hv0, ev0⟩ : ∃ v0 : Int32, (v0 = 0 ∧ 20 < t ∨ v0 = 1 ∧ t ≤ 20) ∧ (if (20 : Int32) < zi t then f_X12_text_J26 (Rm m Sm Vm g2) m (zi t) 0 (Rm m (va_up (va_up Sm 0 0) 2 0) Vm g2) else f_X12_text_J26 (Rm m Sm Vm g2) m (zi t) 1 (Rm m (va_up (va_up Sm 0 0) 2 0) Vm g2)) = f_X12_text_J26 (Rm m Sm Vm g2) m (zi t) v0 (Rm m (va_up (va_up Sm 0 0) 2 0) Vm g2) := by
    by_cases h20 : (20 : Int32) < zi t
    · exact ⟨0, Or.inl ⟨rfl, (zi_Llt (by omega) (by decide)).mp h20⟩, if_pos h20⟩
    · exact ⟨1, Or.inr ⟨rfl, by
        rcases Nat.lt_or_ge 20 t with q | q
        · exact absurd ((zi_Llt (by omega) (by decide)).mpr q) h20
        · exact q⟩, if_neg h20⟩
  rw [ev0]
  unfold f_X12_text_J26
  obtain ⟨v, hv, ev⟩ := X12_text_chk (m := m) (g := g2) (Vm := Vm) (t := t) (h0 := Rm m Sm Vm g2) (S1 := va_up (va_up Sm 0 0) 2 0) t3 hv0
  rw [ev]
  unfold f_X12_text_J54
  rcases hv with ⟨rfl, hv⟩ | ⟨rfl, hv⟩
  · rw [if_pos rfl]
    by_cases h20 : (20 : Int32) < zi t
    · rw [if_pos h20]
      simp only [Option.bind_some, cgR_0_0, cO_1, X0_clear_tape]
      exact ⟨_, _, _, _, _, rfl, rfl, h.clr⟩
    · rw [if_neg h20, if_neg]
      · simp only [Option.bind_some, cgR_0_0, cO_1, X0_clear_tape]
        exact ⟨_, _, _, _, _, rfl, rfl, h.clr⟩
      · intro q
        have := (zi_eq (by omega) (by omega)).mp q
        refine hv ⟨?_, hse.mpr this⟩
        rcases Nat.lt_or_ge 20 t with q | q
        · exact absurd ((zi_Llt (by omega) (by decide)).mpr q) h20
        · exact q
  · have ht20 := hv.1
    rw [if_neg (show ¬ (1 : Int32) = 0 by decide), if_neg (fun q => absurd ((zi_Llt (by omega) (by decide)).mp q) (by omega)), if_pos (by rw [hse.mp hv.2])]
    simp only [X1_append_t c1 c3 t1 ht20, Option.bind_some, rgI_7, show va_up (va_up Sm 0 0) 2 0 7 = Sm 7 from rfl, c2]
    by_cases hN : nt < 24
    · rw [if_pos hN, if_neg (fun q => absurd ((zi_eqL (by omega) (by decide)).mp q) (by omega)), X12_text_app (S1 := va_up (va_up Sm 0 0) 2 0) c2 hN ht20]
      simp only [cgR_0_0, Option.bind_some, cO_1, X0_clear_tape]
      refine ⟨_, _, _, _, _, rfl, rfl, ?_⟩
      have hbt : ∀ k, k < t → vp_nar .byte ((bt (V 2) t k).toInt8.toInt32) = Vm 1 k := by
        intro k hk
        rw [bt_tape t4 hk]
        obtain ⟨c, hc, e⟩ := ltr_zi (hv.2 k hk)
        rw [e, nar_id c hc]
      refine Rel.gr (t := t) (nw' := nw) (nt' := nt + 1) hst hct hmo h27 hpl ⟨htp, hwd, htx, hsd, hsc, hfl⟩ (Nat.le_refl _) (by omega) b3 (by omega) (fun q n1 n2 n3 => by rw [up_ne _ _ n1, up_ne _ _ n3]) rfl b1 rfl (fun q _ _ n6 n7 => by rw [up_ne _ _ n7, up_ne _ _ n6]) (fun k n0 n2 n4 n7 => by rw [up_ne _ _ n7, up_ne _ _ n2, up_ne _ _ n0]) ⟨rfl, b2, rfl⟩ (fun k _ _ n5 n6 => by rw [up_ne _ _ n6, up_ne _ _ n5]) hwd ?_
      intro w hw
      by_cases hwn : w = nt
      · subst hwn
        refine ⟨t, ht20, ?_, ?_, fun k hk => ?_⟩
        · show va_up (V 10) w (zi t) w = _
          rw [up_self]
        · show va_up (Vm 9) w (zi t) w = _
          rw [up_self]
        · rw [up_ne _ _ (show 9 ≠ 10 by decide), up_self, up_ne _ _ (show 8 ≠ 9 by decide), up_self, bw_in hk, bw_in hk]
          exact hbt k hk
      · obtain ⟨l, l6, e1, e2, e3⟩ := htx w (by omega)
        refine ⟨l, l6, ?_, ?_, fun k hk => ?_⟩
        · show va_up (V 10) nt (zi t) w = _
          rw [up_ne _ _ hwn]
          exact e1
        · show va_up (Vm 9) nt (zi t) w = _
          rw [up_ne _ _ hwn]
          exact e2
        · rw [up_ne _ _ (show 9 ≠ 10 by decide), up_self, up_ne _ _ (show 8 ≠ 9 by decide), up_self, bw_out (by omega), bw_out (by omega)]
          exact e3 k hk
    · have e24 : nt = 24 := by omega
      subst e24
      rw [if_neg hN, if_pos (show zi 24 = (24 : Int32) from rfl)]
      simp only [cgR_0_0, Option.bind_some, cO_1, X0_clear_tape]
      exact ⟨_, _, _, _, _, rfl, rfl, h.clr⟩
end
