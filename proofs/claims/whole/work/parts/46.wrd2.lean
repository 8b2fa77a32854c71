theorem RI_mono {nr nw nt nw' nt' : Nat} {ru : Nat → Nat → Int32} (h : RI nr ru nw nt) (h1 : nw ≤ nw') (h2 : nt ≤ nt') : RI nr ru nw' nt' := by
  intro r hr
  obtain ⟨a, ⟨k, hk, e⟩, c, d, ⟨j, hj, e2⟩, f⟩ := h r hr
  exact ⟨a, ⟨k, by omega, e⟩, c, d, ⟨j, by omega, e2⟩, f⟩
theorem Rst.gr {S V S' V' : Nat → Nat → Int32} {Sm Sm' : Nat → Int32} {Vm Vm' : Nat → Nat → Int32} {nr nw nt nw' nt' : Nat} (h : Rst S V Sm Vm nr nw nt) (hw : nw ≤ nw') (ht : nt ≤ nt') (w16 : nw' ≤ 16) (t24 : nt' ≤ 24) (h1 : ∀ q, q = 4 ∨ (13 ≤ q ∧ q < 51) → S' q = S q) (h5 : S' 5 3 = zi nw') (h8 : S' 8 3 = zi nt') (h2 : ∀ q, 44 ≤ q → q < 51 → V' q = V q) (h3 : Sm' 4 = zi nw' ∧ Sm' 7 = zi nt' ∧ Sm' 10 = Sm 10) (h4 : ∀ k, (11 ≤ k ∧ k < 20) ∨ k = 22 ∨ k = 23 ∨ k = 24 → Vm' k = Vm k) : Rst S' V' Sm' Vm' nr nw' nt' := by
  obtain ⟨⟨a1, a2, a3⟩, ⟨b1, b2, b3⟩, ⟨c1, c2, c3⟩, d, e, e', f⟩ := h
  have ecru : ∀ r j, r < nr → cru S' r j = cru S r j := fun r j hr => by
    unfold cru
    rw [h1 (13 + r) (by omega)]
  have emru : ∀ r j, j < 9 → mru Vm' r j = mru Vm r j := fun r j hj => by
    unfold mru
    rw [h4 (11 + j) (by omega)]
  refine ⟨⟨by rw [h1 4 (by omega)]; exact a1, by rw [h3.2.2]; exact a2, a3⟩, ⟨h5, h3.1, w16⟩, ⟨h8, h3.2.1, t24⟩, ?_, RI_mono ?_ hw ht, RI_mono ?_ hw ht, ?_⟩
  · intro r hr j hj
    rw [ecru r j hr, emru r j hj]
    exact d r hr j hj
  · intro r hr
    rw [ecru r 0 hr, ecru r 1 hr, ecru r 2 hr, ecru r 4 hr, ecru r 5 hr, ecru r 6 hr, ecru r 7 hr, ecru r 8 hr]
    exact e r hr
  · intro r hr
    rw [emru r 0 (by decide), emru r 1 (by decide), emru r 2 (by decide), emru r 4 (by decide), emru r 5 (by decide), emru r 6 (by decide), emru r 7 (by decide), emru r 8 (by decide)]
    exact e' r hr
  · intro a ha
    have k1 : chs S' a = chs S a := by unfold chs; rw [h1 _ (by omega)]
    have k2 : chm S' a = chm S a := by unfold chm; rw [h1 _ (by omega)]
    have k3 : ∀ j, chv V' a j = chv V a j := fun j => by unfold chv; rw [h2 _ (by omega) (by omega)]
    rw [k1, k2, k3, h4 22 (by omega), h4 23 (by omega), h4 24 (by omega)]
    refine ⟨(f a ha).1, ?_⟩
    rcases (f a ha).2 with q | q | ⟨q, c, c1, c2, c3, c4, c5⟩
    · exact Or.inl q
    · exact Or.inr (Or.inl q)
    · exact Or.inr (Or.inr ⟨q, c, c1, c2, c3, c4, fun j hj => by rw [k3]; exact c5 j hj⟩)
/-- words and texts may grow, the tape is empty; all else stays -/
theorem Rel.gr {b : Nat} {S V S' V' : Nat → Nat → Int32} {Q : Nat → Option Nat} {g : ZH} {Sm Sm' : Nat → Int32} {Vm Vm' : Nat → Nat → Int32} {nr nw nt nw' nt' t ns nf p : Nat} (h : Rst S V Sm Vm nr nw nt) (hct : Rct S V Sm Vm) (hmo : Rmo S V Vm nt) (h27 : Sm 27 = 1) (hpl : Rpl S V Sm Vm p) (ho : Rot b S V Q g Sm Vm nw nt t ns nf) (hw : nw ≤ nw') (ht : nt ≤ nt') (w16 : nw' ≤ 16) (t24 : nt' ≤ 24)
    (h1 : ∀ q, q ≠ 1 → q ≠ 5 → q ≠ 8 → S' q = S q) (h11 : S' 1 1 = 0) (h5 : S' 5 3 = zi nw') (h8 : S' 8 3 = zi nt') (h2 : ∀ q, q ≠ 6 → q ≠ 7 → q ≠ 9 → q ≠ 10 → V' q = V q) (h3 : ∀ k, k ≠ 0 → k ≠ 2 → k ≠ 4 → k ≠ 7 → Sm' k = Sm k) (h32 : Sm' 2 = 0 ∧ Sm' 4 = zi nw' ∧ Sm' 7 = zi nt') (h4 : ∀ k, k ≠ 5 → k ≠ 6 → k ≠ 8 → k ≠ 9 → Vm' k = Vm k) (hwd : Rwd V' Vm' nw') (htx : Rtx V' Vm' nt') : Rel b S' V' Q g Sm' Vm' := by
  obtain ⟨-, -, -, hsd, hsc, hfl⟩ := ho
  refine ⟨nr, nw', nt', 0, ns, nf, p, h.gr hw ht w16 t24 (fun q hq => h1 q (by omega) (by omega) (by omega)) h5 h8 (fun q n1 n2 => h2 q (by omega) (by omega) (by omega) (by omega)) ⟨h32.2.1, h32.2.2, h3 10 (by decide) (by decide) (by decide) (by decide)⟩ (fun k hk => h4 k (by omega) (by omega) (by omega) (by omega)), ?_, ?_, ?_, ?_, ⟨h11, h32.1, by decide, fun i hi => by omega⟩, hwd, htx, ?_, ?_, ?_⟩
  · unfold Rct
    rw [h1 51 (by decide) (by decide) (by decide), h2 54 (by decide) (by decide) (by decide) (by decide), h2 55 (by decide) (by decide) (by decide) (by decide), h3 26 (by decide) (by decide) (by decide) (by decide), h3 25 (by decide) (by decide) (by decide) (by decide), h4 20 (by decide) (by decide) (by decide) (by decide), h4 21 (by decide) (by decide) (by decide) (by decide)]
    exact hct
  · unfold Rmo amo
    rw [h1 52 (by decide) (by decide) (by decide), h2 (52 + 1) (by decide) (by decide) (by decide) (by decide), h4 28 (by decide) (by decide) (by decide) (by decide)]
    refine ⟨hmo.1, ?_⟩
    rcases hmo.2 with q | q | ⟨k, hk, q⟩
    · exact Or.inl q
    · exact Or.inr (Or.inl q)
    · exact Or.inr (Or.inr ⟨k, by omega, q⟩)
  · rw [h3 27 (by decide) (by decide) (by decide) (by decide)]
    exact h27
  · unfold Rpl
    rw [h1 69 (by decide) (by decide) (by decide), h2 72 (by decide) (by decide) (by decide) (by decide), h3 37 (by decide) (by decide) (by decide) (by decide), h3 39 (by decide) (by decide) (by decide) (by decide), h4 38 (by decide) (by decide) (by decide) (by decide)]
    exact hpl
  · rw [h1 4 (by decide) (by decide) (by decide), h3 3 (by decide) (by decide) (by decide) (by decide)]
    exact hsd
  · unfold Rsc
    rw [h1 0 (by decide) (by decide) (by decide), h3 30 (by decide) (by decide) (by decide) (by decide), h4 31 (by decide) (by decide) (by decide) (by decide), h4 32 (by decide) (by decide) (by decide) (by decide)]
    exact hsc
  · unfold Rfl
    rw [h1 56 (by decide) (by decide) (by decide), h2 59 (by decide) (by decide) (by decide) (by decide), h2 60 (by decide) (by decide) (by decide) (by decide), h3 35 (by decide) (by decide) (by decide) (by decide), h4 33 (by decide) (by decide) (by decide) (by decide), h4 34 (by decide) (by decide) (by decide) (by decide)]
    exact hfl
section
variable {b m : Nat} {S V : Nat → Nat → Int32} {Q : Nat → Option Nat} {g g1 g2 : ZH} {Sm : Nat → Int32} {Vm : Nat → Nat → Int32}
theorem Rel.clr (h : Rel b S V Q g Sm Vm) : Rel b (va_up S 1 (va_up (S 1) 1 0)) V Q g (va_up (va_up Sm 0 0) 2 0) Vm := by
  obtain ⟨nr, nw, nt, t, ns, nf, p, hst, hct, hmo, h27, hpl, htp, hwd, htx, hsd, hsc, hfl⟩ := id h
  obtain ⟨-, ⟨b1, b2, b3⟩, ⟨c1, c2, c3⟩, -⟩ := id hst
  exact Rel.gr (t := t) (nw' := nw) (nt' := nt) hst hct hmo h27 hpl ⟨htp, hwd, htx, hsd, hsc, hfl⟩ (Nat.le_refl _) (Nat.le_refl _) b3 c3 (fun q n1 n2 n3 => up_ne _ _ n1) rfl b1 c1 (fun _ _ _ _ _ => rfl) (fun k n0 n2 n4 n7 => by rw [up_ne _ _ n2, up_ne _ _ n0]) ⟨rfl, b2, c2⟩ (fun _ _ _ _ _ => rfl) hwd htx
theorem mby_tape {t k : Nat} (h : ∀ i, i < t → V 2 i &&& 255 = Vm 1 i) (hk : k < t) : mby (V 2) t k = Vm 1 k := by
  unfold mby
  rw [if_pos hk]
  exact h k hk
theorem bt_tape {t k : Nat} (h : ∀ i, i < t → V 2 i &&& 255 = Vm 1 i) (hk : k < t) : bt (V 2) t k = Vm 1 k := by
  unfold bt
  rw [if_pos hk]
  exact h k hk
theorem xor_m1 {k : Nat} (hk : k < 2147483648) : zi k ^^^ (-1 : Int32) = -1 - zi k := by
  apply Int32.toBitVec_inj.mp
  rw [Int32.toBitVec_xor, Int32.toBitVec_sub, show (-1 : Int32).toBitVec = BitVec.allOnes 32 from rfl, BitVec.xor_allOnes]
  exact (BitVec.allOnes_sub_eq_not _).symm
theorem xor_int {k : Nat} (hk : k < 2147483648) : (zi k ^^^ (-1 : Int32)).toInt = -1 - (k : Int) := by
  rw [xor_m1 hk, Int32.toInt_sub, zi_int hk, show (-1 : Int32).toInt = -1 from rfl]
  rw [Int.bmod_eq_of_le (by omega) (by omega)]
theorem op_word (h : Rel b S V Q g Sm Vm) : ∃ r S' V' Sm' Vm', f_X11_word (Cl b S V Q g1) b = some (r, Cl b S' V' Q g1) ∧ f_X12_word (Rm m Sm Vm g2) m = some (r, Rm m Sm' Vm' g2) ∧ Rel b S' V' Q g Sm' Vm' := by
  obtain ⟨nr, nw, nt, t, ns, nf, p, hst, hct, hmo, h27, hpl, htp, hwd, htx, hsd, hsc, hfl⟩ := id h
  obtain ⟨t1, t2, t3, t4⟩ := id htp
  obtain ⟨-, ⟨b1, b2, b3⟩, ⟨c1, c2, c3⟩, -⟩ := id hst
  have hB := Byt_tape (b := b) (S := S) (V := V) (Q := Q) (g := g1) t1 t3
  have eL : f_X2_lettersEnd (Cl b S V Q g1) (b + 1) 0 = some (if lt6 (mby (V 2) t) 0 = 0 then zi 0 ^^^ (-1 : Int32) else zi (0 + lt6 (mby (V 2) t) 0)) := X2_lettersEnd (k := 0) hB (by decide)
  have eF : f_X1_find (Cl b S V Q g1) (b + 5) (b + 1) 0 (zi t) = some (if fsr (stq 6 (V 7) (V 6) (bt (V 2) t) 0 t) nw 0 < nw then zi (fsr (stq 6 (V 7) (V 6) (bt (V 2) t) 0 t) nw 0) else -1) := (Ent_words b1 b3).find (s := 0) hB (fun w hw => by
    obtain ⟨l, -, l6, e, -⟩ := hwd w hw
    exact ⟨l, l6, e⟩) (Nat.zero_le _) (by omega)
  have eM : f_X12_wordAt (Rm m (va_up (va_up Sm 0 0) 2 0) Vm g2) m (m + 1) 0 (zi t) = some (if fsr (stq 6 (Vm 6) (Vm 5) (Vm 1) 0 t) nw 0 < nw then zi (fsr (stq 6 (Vm 6) (Vm 5) (Vm 1) 0 t) nw 0) else -1) := X12_wordAt (at' := 0) (cap := 600) (fun i hi => rl_1 hi) b2 b3 (fun w hw => by
    obtain ⟨l, -, l6, -, e, -⟩ := hwd w hw
    exact ⟨l, l6, e⟩) (by omega) (by decide)
  have eFM := find_congr (s := 0) (a := 0) (n := t) (B := bt (V 2) t) (B' := Vm 1) hwd (by omega) (fun k hk => by
    rw [Nat.zero_add]
    exact bt_tape t4 hk)
  rw [eFM] at eF
  have hgw : gw (Vm 1) t ↔ gw (mby (V 2) t) t := by
    constructor
    · intro ⟨h1, h2, h3⟩
      exact ⟨h1, h2, fun k hk => by rw [mby_tape t4 hk]; exact h3 k hk⟩
    · intro ⟨h1, h2, h3⟩
      exact ⟨h1, h2, fun k hk => by rw [← mby_tape t4 hk]; exact h3 k hk⟩
  unfold f_X11_word f_X11_addWord f_X12_word
  simp only [cO_0, cgR_0_0, cgI_1_1, cgR_0_1, cgR_4_0, cO_5, Option.bind_some, t1, eL, rp_0, rgI_2, rp_2, show va_up Sm 0 0 2 = Sm 2 from rfl, t2, in_1_6]
  obtain ⟨v, hv, ev⟩ := X12_word_chk (m := m) (g := g2) (Vm := Vm) (t := t) (h0 := Rm m Sm Vm g2) (S1 := va_up (va_up Sm 0 0) 2 0) t3
  rw [ev]
  unfold f_X12_word_J52
  rcases hv with ⟨rfl, hv⟩ | ⟨rfl, hv⟩
  · rw [if_pos rfl, if_neg]
    · simp only [Option.bind_some, cgR_0_0, cO_1, X0_clear_tape]
      exact ⟨_, _, _, _, _, rfl, rfl, h.clr⟩
    · intro q
      rw [hgw, gw_lt6] at hv
      by_cases hz : lt6 (mby (V 2) t) 0 = 0
      · rw [if_pos hz] at q
        have := congrArg Int32.toInt q
        rw [xor_int (by decide), zi_int (by omega)] at this
        omega
      · rw [if_neg hz] at q
        have h6 : lt6 (mby (V 2) t) 0 ≤ 0 + 6 := (fsr_spec (fun j => decide (¬ ltr (mby (V 2) t (0 + j)))) 6 0).2.1
        have := (zi_eq (by omega) (by omega)).mp q
        exact hv ⟨by omega, by omega⟩
  · rw [if_neg (show ¬ (1 : Int32) = 0 by decide)]
    have hv2 := gw_lt6.mp (hgw.mp hv)
    rw [if_pos (show (if lt6 (mby (V 2) t) 0 = 0 then zi 0 ^^^ (-1 : Int32) else zi (0 + lt6 (mby (V 2) t) 0)) = zi t by rw [if_neg (by omega), hv2.2, Nat.zero_add])]
    have ht6 : t ≤ 6 := hv.2.1
    simp only [eF, rgR_1, rO, eM, Option.bind_some]
    generalize fsr (stq 6 (Vm 6) (Vm 5) (Vm 1) 0 t) nw 0 = i
    by_cases hi : i < nw
    · have n1 : ¬ zi i = (-1 : Int32) := fun q => by
        have := zi_neg (n := i) (by omega)
        rw [q] at this
        exact this (by decide)
      rw [if_pos hi, if_neg n1, if_pos ((zi_Lle (by omega) (by decide)).mpr (Nat.zero_le _))]
      unfold f_X12_word_J83
      rw [if_neg (zi_neg (by omega))]
      simp only [Option.bind_some, cgR_0_0, cO_1, X0_clear_tape]
      exact ⟨_, _, _, _, _, rfl, rfl, h.clr⟩
    · rw [if_neg hi, if_pos rfl, if_neg (show ¬ (0 : Int32) ≤ -1 by decide)]
      simp only [X1_append_w b1 b3 t1 ht6, Option.bind_some, rgI_4, show va_up (va_up Sm 0 0) 2 0 4 = Sm 4 from rfl, b2]
      by_cases hN : nw < 16
      · rw [if_pos hN, if_neg (fun q => absurd ((zi_eqL (by omega) (by decide)).mp q) (by omega)), X12_word_app (S1 := va_up (va_up Sm 0 0) 2 0) b2 hN ht6]
        simp only [Option.bind_some, cgR_0_0, cO_1, X0_clear_tape]
        refine ⟨_, _, _, _, _, rfl, rfl, ?_⟩
        have hbt : ∀ k, k < t → vp_nar .byte ((bt (V 2) t k).toInt8.toInt32) = Vm 1 k := by
          intro k hk
          rw [bt_tape t4 hk]
          obtain ⟨c, hc, e⟩ := ltr_zi (ltr_sgn (hv.2.2 k hk))
          rw [e, nar_id c hc]
        refine Rel.gr (t := t) (nw' := nw + 1) (nt' := nt) hst hct hmo h27 hpl ⟨htp, hwd, htx, hsd, hsc, hfl⟩ (by omega) (Nat.le_refl _) (by omega) c3 (fun q n1 n2 n3 => by rw [up_ne _ _ n1, up_ne _ _ n2]) rfl rfl c1 (fun q n6 n7 _ _ => by rw [up_ne _ _ n7, up_ne _ _ n6]) (fun k n0 n2 n4 n7 => by rw [up_ne _ _ n4, up_ne _ _ n2, up_ne _ _ n0]) ⟨rfl, rfl, c2⟩ (fun k n5 n6 _ _ => by rw [up_ne _ _ n6, up_ne _ _ n5]) ?_ htx
        intro w hw
        by_cases hwn : w = nw
        · subst hwn
          refine ⟨t, hv.1, ht6, ?_, ?_, fun k hk => ?_⟩
          · show va_up (V 7) w (zi t) w = _
            rw [up_self]
          · show va_up (Vm 6) w (zi t) w = _
            rw [up_self]
          · rw [up_ne _ _ (show 6 ≠ 7 by decide), up_self, up_ne _ _ (show 5 ≠ 6 by decide), up_self, bw_in hk, bw_in hk]
            exact hbt k hk
        · obtain ⟨l, l1, l6, e1, e2, e3⟩ := hwd w (by omega)
          refine ⟨l, l1, l6, ?_, ?_, fun k hk => ?_⟩
          · show va_up (V 7) nw (zi t) w = _
            rw [up_ne _ _ hwn]
            exact e1
          · show va_up (Vm 6) nw (zi t) w = _
            rw [up_ne _ _ hwn]
            exact e2
          · rw [up_ne _ _ (show 6 ≠ 7 by decide), up_self, up_ne _ _ (show 5 ≠ 6 by decide), up_self, bw_out (by omega), bw_out (by omega)]
            exact e3 k hk
      · have e16 : nw = 16 := by omega
        subst e16
        rw [if_neg hN, if_pos (show zi 16 = (16 : Int32) from rfl)]
        unfold f_X12_word_J83
        rw [if_pos (show (-1 : Int32) < 0 by decide)]
        simp only [Option.bind_some, cgR_0_0, cO_1, X0_clear_tape]
        exact ⟨_, _, _, _, _, rfl, rfl, h.clr⟩
end
