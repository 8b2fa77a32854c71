/-! ===== rule ===== -/
theorem act_pair {h h' : ZH} {a c d : Int32} : ∃ v, f_X11_actWants h a c d = some v ∧ f_X12_actFits h' a c d = some v ∧ (v = 0 ∨ (v = 1 ∧ actOK a c d)) := by
  unfold f_X11_actWants f_X12_actFits
  simp only [inside_eq, Option.bind_some, in_0_7, in_m1000, in_0_3, in_1_100, in_1_9, b01_ok]
  by_cases h0 : a = 0
  · rw [if_pos h0]
    exact ⟨1, rfl, rfl, Or.inr ⟨rfl, Or.inl h0⟩⟩
  rw [if_neg h0]
  have two : ∀ (P P2 : Prop) [Decidable P] [Decidable P2], (P ∧ P2 → actOK a c d) → ∃ v, (if b01 P = 0 then some (0 : Int32) else if b01 P2 = 0 then some 0 else some 1) = some v ∧ (if b01 P = 0 then some (0 : Int32) else if b01 P2 = 0 then some 0 else some 1) = some v ∧ (v = 0 ∨ (v = 1 ∧ actOK a c d)) := by
    intro P P2 i1 i2 ok
    by_cases p1 : P
    · rw [if_neg (fun q => b01_0.mp q p1)]
      by_cases p2 : P2
      · rw [if_neg (fun q => b01_0.mp q p2)]
        exact ⟨1, rfl, rfl, Or.inr ⟨rfl, ok ⟨p1, p2⟩⟩⟩
      · rw [if_pos (b01_f p2)]
        exact ⟨0, rfl, rfl, Or.inl rfl⟩
    · rw [if_pos (b01_f p1)]
      exact ⟨0, rfl, rfl, Or.inl rfl⟩
  have one : ∀ (P : Prop) [Decidable P], (P → actOK a c d) → ∃ v, some (b01 P) = some v ∧ some (b01 P) = some v ∧ (v = 0 ∨ (v = 1 ∧ actOK a c d)) := by
    intro P i1 ok
    by_cases p1 : P
    · rw [b01_t p1]
      exact ⟨1, rfl, rfl, Or.inr ⟨rfl, ok p1⟩⟩
    · rw [b01_f p1]
      exact ⟨0, rfl, rfl, Or.inl rfl⟩
  by_cases h1 : a = 1
  · rw [if_pos h1]
    exact two _ _ (fun q => Or.inr (Or.inl ⟨h1, q⟩))
  rw [if_neg h1]
  by_cases h2 : a = 2
  · rw [if_pos h2]
    exact two _ _ (fun q => Or.inr (Or.inr (Or.inl ⟨h2, q⟩)))
  rw [if_neg h2]
  by_cases h3 : a = 3
  · rw [if_pos h3]
    exact two _ _ (fun q => Or.inr (Or.inr (Or.inr (Or.inl ⟨h3, q⟩))))
  rw [if_neg h3]
  by_cases h4 : a = 4
  · rw [if_pos h4]
    exact one _ (fun q => Or.inr (Or.inr (Or.inr (Or.inr (Or.inl ⟨h4, q⟩)))))
  rw [if_neg h4]
  by_cases h5 : a = 5
  · rw [if_pos h5]
    exact two _ _ (fun q => Or.inr (Or.inr (Or.inr (Or.inr (Or.inr (Or.inl ⟨h5, q⟩))))))
  rw [if_neg h5]
  by_cases h6 : a = 6
  · rw [if_pos h6]
    exact one _ (fun q => Or.inr (Or.inr (Or.inr (Or.inr (Or.inr (Or.inr ⟨h6, q⟩))))))
  rw [if_neg h6]
  exact ⟨0, rfl, rfl, Or.inl rfl⟩
section
variable {b m : Nat} {S V : Nat → Nat → Int32} {Q : Nat → Option Nat} {g g1 g2 : ZH} {Sm : Nat → Int32} {Vm : Nat → Nat → Int32}
theorem X10_nextRule {nr : Nat} (hn : S 4 4 = zi nr) (h30 : nr < 30) : f_X10_nextRule (Cl b S V Q g) (b + 4) = some (some (b + (13 + nr)), Cl b (va_up S 4 (va_up (S 4) 4 (zi (nr + 1)))) V Q g) := by
  unfold f_X10_nextRule
  rw [cgI_4_4, Option.bind_some, hn, if_neg (zi_neg (by omega)), Option.bind_some, cgR_4_2, Option.bind_some, cN_11, Option.bind_some, if_pos ((zi_lt (by omega) (by decide)).mpr h30), Option.bind_some, zi_one, cp_4_4, Option.bind_some, cgR_4_2, Option.bind_some, cgI_4_4, Option.bind_some, up_self, up_self, show zi (nr + 1) - (1 : Int32) = zi nr from zi_sub (b := 1) (by omega), cl_ru h30, Option.bind_some]
theorem X10_nextRule_full (hn : S 4 4 = zi 30) : f_X10_nextRule (Cl b S V Q g) (b + 4) = some (none, Cl b S V Q g) := by
  unfold f_X10_nextRule
  rw [cgI_4_4, Option.bind_some, hn, if_neg (zi_neg (by omega)), Option.bind_some, cgR_4_2, Option.bind_some, cN_11, Option.bind_some, if_neg (fun q => absurd ((zi_lt (by decide) (by decide)).mp q) (by decide))]
/-- the nine numbers of a rule -/
def r9 (a0 a1 a2 a3 a4 a5 a6 a7 a8 : Int32) (j : Nat) : Int32 := if j = 0 then a0 else if j = 1 then a1 else if j = 2 then a2 else if j = 3 then a3 else if j = 4 then a4 else if j = 5 then a5 else if j = 6 then a6 else if j = 7 then a7 else a8
theorem Rst_ru {S' : Nat → Nat → Int32} {Sm' : Nat → Int32} {Vm' : Nat → Nat → Int32} {nr nw nt : Nat} {a : Nat → Int32} (h : Rst S V Sm Vm nr nw nt) (h30 : nr < 30) (h1 : ∀ q, q ≠ 4 → q ≠ 13 + nr → S' q = S q) (h2 : S' 4 4 = zi (nr + 1)) (h3 : ∀ j, j < 9 → S' (13 + nr) j = a j) (h4 : Sm' 10 = zi (nr + 1)) (h5 : ∀ k, k ≠ 0 → k ≠ 10 → Sm' k = Sm k) (h6 : ∀ j, j < 9 → Vm' (11 + j) = va_up (Vm (11 + j)) nr (a j)) (h7 : ∀ k, k < 11 ∨ 20 ≤ k → Vm' k = Vm k)
    (ok : ((-1 : Int32) ≤ a 0 ∧ a 0 ≤ 7) ∧ (∃ k, k < nw ∧ a 1 = zi k) ∧ ((-1 : Int32) ≤ a 2 ∧ a 2 ≤ 7) ∧ actOK (a 4) (a 5) (a 6) ∧ (∃ k, k < nt ∧ a 7 = zi k) ∧ ((-1 : Int32) ≤ a 8 ∧ a 8 ≤ 7)) : Rst S' V Sm' Vm' (nr + 1) nw nt := by
  obtain ⟨⟨a1, a2, a3⟩, ⟨b1, b2, b3⟩, ⟨c1, c2, c3⟩, d, e, e', f⟩ := h
  have k1 : ∀ j, j < 9 → cru S' nr j = a j := h3
  have k2 : ∀ r j, r < nr → cru S' r j = cru S r j := fun r j hr => by
    unfold cru
    rw [h1 _ (by omega) (by omega)]
  have k3 : ∀ j, j < 9 → mru Vm' nr j = a j := fun j hj => by
    unfold mru
    rw [h6 j hj, up_self]
  have k4 : ∀ r j, r < nr → j < 9 → mru Vm' r j = mru Vm r j := fun r j hr hj => by
    unfold mru
    rw [h6 j hj, up_ne _ _ (by omega)]
  refine ⟨⟨h2, h4, by omega⟩, ⟨by rw [h1 5 (by decide) (by omega)]; exact b1, by rw [h5 4 (by decide) (by decide)]; exact b2, b3⟩, ⟨by rw [h1 8 (by decide) (by omega)]; exact c1, by rw [h5 7 (by decide) (by decide)]; exact c2, c3⟩, ?_, ?_, ?_, ?_⟩
  · intro r hr j hj
    by_cases hrn : r = nr
    · rw [hrn, k1 j hj, k3 j hj]
    · rw [k2 r j (by omega), k4 r j (by omega) hj]
      exact d r (by omega) j hj
  · intro r hr
    by_cases hrn : r = nr
    · rw [hrn, k1 0 (by decide), k1 1 (by decide), k1 2 (by decide), k1 4 (by decide), k1 5 (by decide), k1 6 (by decide), k1 7 (by decide), k1 8 (by decide)]
      exact ok
    · have hr' : r < nr := by omega
      rw [k2 r 0 hr', k2 r 1 hr', k2 r 2 hr', k2 r 4 hr', k2 r 5 hr', k2 r 6 hr', k2 r 7 hr', k2 r 8 hr']
      exact e r hr'
  · intro r hr
    by_cases hrn : r = nr
    · rw [hrn, k3 0 (by decide), k3 1 (by decide), k3 2 (by decide), k3 4 (by decide), k3 5 (by decide), k3 6 (by decide), k3 7 (by decide), k3 8 (by decide)]
      exact ok
    · have hr' : r < nr := by omega
      rw [k4 r 0 hr' (by decide), k4 r 1 hr' (by decide), k4 r 2 hr' (by decide), k4 r 4 hr' (by decide), k4 r 5 hr' (by decide), k4 r 6 hr' (by decide), k4 r 7 hr' (by decide), k4 r 8 hr' (by decide)]
      exact e' r hr'
  · intro x hx
    unfold chs chm
    rw [h1 _ (by omega) (by omega), h7 22 (by omega), h7 23 (by omega), h7 24 (by omega)]
    exact f x hx
theorem rule_fin {S' : Nat → Nat → Int32} {Sm' : Nat → Int32} {Vm' : Nat → Nat → Int32} {nr nw nt t ns nf p : Nat} {a : Nat → Int32} (h : Rst S V Sm Vm nr nw nt) (hct : Rct S V Sm Vm) (hmo : Rmo S V Vm nt) (h27 : Sm 27 = 1) (hpl : Rpl S V Sm Vm p) (ho : Rot b S V Q g Sm Vm nw nt t ns nf) (h30 : nr < 30) (h1 : ∀ q, q ≠ 4 → q ≠ 13 + nr → S' q = S q) (h2 : S' 4 4 = zi (nr + 1)) (h25 : S' 4 5 = S 4 5) (h3 : ∀ j, j < 9 → S' (13 + nr) j = a j) (h4 : Sm' 10 = zi (nr + 1)) (h5 : ∀ k, k ≠ 0 → k ≠ 10 → Sm' k = Sm k) (h6 : ∀ j, j < 9 → Vm' (11 + j) = va_up (Vm (11 + j)) nr (a j)) (h7 : ∀ k, k < 11 ∨ 20 ≤ k → Vm' k = Vm k)
    (ok : ((-1 : Int32) ≤ a 0 ∧ a 0 ≤ 7) ∧ (∃ k, k < nw ∧ a 1 = zi k) ∧ ((-1 : Int32) ≤ a 2 ∧ a 2 ≤ 7) ∧ actOK (a 4) (a 5) (a 6) ∧ (∃ k, k < nt ∧ a 7 = zi k) ∧ ((-1 : Int32) ≤ a 8 ∧ a 8 ≤ 7)) : Rel b S' V Q g Sm' Vm' := by
  obtain ⟨htp, hwd, htx, hsd, hsc, hfl⟩ := ho
  refine ⟨nr + 1, nw, nt, t, ns, nf, p, Rst_ru h h30 h1 h2 h3 h4 h5 h6 h7 ok, ?_, ?_, ?_, ?_, ?_, ?_, ?_, ?_, ?_, ?_⟩
  · unfold Rct
    rw [h1 51 (by decide) (by omega), h5 26 (by decide) (by decide), h5 25 (by decide) (by decide), h7 20 (by omega), h7 21 (by omega)]
    exact hct
  · unfold Rmo amo
    rw [h1 52 (by decide) (by omega), h7 28 (by omega)]
    exact hmo
  · rw [h5 27 (by decide) (by decide)]
    exact h27
  · unfold Rpl
    rw [h1 69 (by decide) (by omega), h5 37 (by decide) (by decide), h5 39 (by decide) (by decide), h7 38 (by omega)]
    exact hpl
  · unfold Rtp
    rw [h1 1 (by decide) (by omega), h5 2 (by decide) (by decide), h7 1 (by omega)]
    exact htp
  · unfold Rwd
    rw [h7 6 (by omega), h7 5 (by omega)]
    exact hwd
  · unfold Rtx
    rw [h7 9 (by omega), h7 8 (by omega)]
    exact htx
  · rw [h25, h5 3 (by decide) (by decide)]
    exact hsd
  · unfold Rsc
    rw [h1 0 (by decide) (by omega), h5 30 (by decide) (by decide), h7 32 (by omega), h7 31 (by omega)]
    exact hsc
  · unfold Rfl
    rw [h1 56 (by decide) (by omega), h5 35 (by decide) (by decide), h7 33 (by omega), h7 34 (by omega)]
    exact hfl
theorem op_rule {a1 a2 a3 a4 a5 a6 a7 a8 a9 : Int32} (h : Rel b S V Q g Sm Vm) : ∃ r S' V' Sm' Vm', f_X11_rule (Cl b S V Q g1) b a1 a2 a3 a4 a5 a6 a7 a8 a9 = some (r, Cl b S' V' Q g1) ∧ f_X12_rule (Rm m Sm Vm g2) m a1 a2 a3 a4 a5 a6 a7 a8 a9 = some (r, Rm m Sm' Vm' g2) ∧ Rel b S' V' Q g Sm' Vm' := by
  obtain ⟨nr, nw, nt, t, ns, nf, p, hst, hct, hmo, h27, hpl, htp, hwd, htx, hsd, hsc, hfl⟩ := id h
  obtain ⟨⟨x1, x2, x3⟩, ⟨b1, b2, b3⟩, ⟨c1, c2, c3⟩, -⟩ := id hst
  unfold f_X11_rule f_X12_rule
  simp only [cgR_0_1, Option.bind_some, cgR_4_0, cgR_4_1, cO_5, cO_8, X1_has_words' b1 b3, X1_has_texts c1 c3, inside_eq, rp_0, rgI_4, rgI_7, show va_up Sm 0 0 4 = Sm 4 from rfl, show va_up Sm 0 0 7 = Sm 7 from rfl, b2, c2, in_0_v, in_m1_7]
  by_cases g1' : (0 : Int32) ≤ a2 ∧ a2 ≤ zi nw - 1
  case neg =>
    rw [if_pos (b01_f g1'), if_pos (b01_f g1')]
    exact ⟨_, _, _, _, _, rfl, rfl, h.thr 0⟩
  rw [if_neg (fun q => b01_0.mp q g1'), if_neg (fun q => b01_0.mp q g1')]
  by_cases g2' : (0 : Int32) ≤ a8 ∧ a8 ≤ zi nt - 1
  case neg =>
    rw [if_pos (b01_f g2'), if_pos (b01_f g2')]
    exact ⟨_, _, _, _, _, rfl, rfl, h.thr 0⟩
  rw [if_neg (fun q => b01_0.mp q g2'), if_neg (fun q => b01_0.mp q g2')]
  by_cases g3 : (-1 : Int32) ≤ a1 ∧ a1 ≤ 7
  case neg =>
    rw [if_pos (b01_f g3), if_pos (b01_f g3)]
    exact ⟨_, _, _, _, _, rfl, rfl, h.thr 0⟩
  rw [if_neg (fun q => b01_0.mp q g3), if_neg (fun q => b01_0.mp q g3)]
  by_cases g4 : (-1 : Int32) ≤ a9 ∧ a9 ≤ 7
  case neg =>
    rw [if_pos (b01_f g4), if_pos (b01_f g4)]
    exact ⟨_, _, _, _, _, rfl, rfl, h.thr 0⟩
  rw [if_neg (fun q => b01_0.mp q g4), if_neg (fun q => b01_0.mp q g4)]
  by_cases g5 : (-1 : Int32) ≤ a3 ∧ a3 ≤ 7
  case neg =>
    rw [if_pos (b01_f g5), if_pos (b01_f g5)]
    exact ⟨_, _, _, _, _, rfl, rfl, h.thr 0⟩
  rw [if_neg (fun q => b01_0.mp q g5), if_neg (fun q => b01_0.mp q g5)]
  obtain ⟨v, e1, e2, e3⟩ := act_pair (h := Cl b S V Q g1) (h' := Rm m (va_up Sm 0 0) Vm g2) (a := a5) (c := a6) (d := a7)
  rw [e1, e2, Option.bind_some, Option.bind_some]
  rcases e3 with rfl | ⟨rfl, ok⟩
  · rw [if_pos rfl, if_pos rfl]
    exact ⟨_, _, _, _, _, rfl, rfl, h.thr 0⟩
  rw [if_neg (by decide), if_neg (by decide), cO_4]
  by_cases h30 : nr = 30
  · subst h30
    simp only [X10_nextRule_full x1, rgI_10, Option.bind_some, show va_up Sm 0 0 10 = Sm 10 from rfl, x2]
    rw [if_pos (show zi 30 = (30 : Int32) from rfl)]
    exact ⟨_, _, _, _, _, rfl, rfl, h.thr 0⟩
  have hr : nr < 30 := by omega
  simp only [X10_nextRule x1 hr, rgI_10, Option.bind_some, show va_up Sm 0 0 10 = Sm 10 from rfl, x2]
  rw [if_neg (fun q => h30 ((zi_eqL (by omega) (by decide)).mp q))]
  unfold zz_nr
  simp only [cp_ru_0 _ hr, cp_ru_1 _ hr, cp_ru_2 _ hr, cp_ru_3 _ hr, cp_ru_4 _ hr, cp_ru_5 _ hr, cp_ru_6 _ hr, cp_ru_7 _ hr, cp_ru_8 _ hr, Option.bind_some, up_self, up_up, cgR_0_1, cgI_4_4, rp_10, rgR_11, rs_11 _ hr, rgR_12, rs_12 _ hr, rgR_13, rs_13 _ hr, rgR_14, rs_14 _ hr, rgR_15, rs_15 _ hr, rgR_16, rs_16 _ hr, rgR_17, rs_17 _ hr, rgR_18, rs_18 _ hr, rgR_19, rs_19 _ hr]
  rw [up_ne _ _ (show 4 ≠ 13 + nr by omega), up_self, up_self, zi_one, show zi (nr + 1) - (1 : Int32) = zi nr from zi_sub (b := 1) (by omega)]
  refine ⟨_, _, _, _, _, rfl, rfl, rule_fin (a := r9 a1 a2 a3 a4 a5 a6 a7 a8 a9) hst hct hmo h27 hpl ⟨htp, hwd, htx, hsd, hsc, hfl⟩ hr (fun q n1 n2 => by rw [up_ne _ _ n2, up_ne _ _ n1]) ?_ ?_ ?_ rfl ?_ ?_ ?_ ⟨g3, (zi_below (by omega)).mp g1', g5, ok, (zi_below (by omega)).mp g2', g4⟩⟩
  · rw [up_ne _ _ (by omega), up_self, up_self]
  · rw [up_ne _ _ (by omega), up_self]
    rfl
  · intro j hj
    rw [up_self]
    have : j = 0 ∨ j = 1 ∨ j = 2 ∨ j = 3 ∨ j = 4 ∨ j = 5 ∨ j = 6 ∨ j = 7 ∨ j = 8 := by omega
    rcases this with rfl | rfl | rfl | rfl | rfl | rfl | rfl | rfl | rfl <;> rfl
  · intro k n0 n10
    rw [up_ne _ _ n10, up_ne _ _ n0]
  · intro j hj
    have : j = 0 ∨ j = 1 ∨ j = 2 ∨ j = 3 ∨ j = 4 ∨ j = 5 ∨ j = 6 ∨ j = 7 ∨ j = 8 := by omega
    rcases this with rfl | rfl | rfl | rfl | rfl | rfl | rfl | rfl | rfl <;> rfl
  · intro k hk
    rw [up_ne _ _ (by omega), up_ne _ _ (by omega), up_ne _ _ (by omega), up_ne _ _ (by omega), up_ne _ _ (by omega), up_ne _ _ (by omega), up_ne _ _ (by omega), up_ne _ _ (by omega), up_ne _ _ (by omega)]
end
