/-! ===== a transcript is replayed ===== -/
section
variable {b m : Nat} {S V : Nat → Nat → Int32} {Q : Nat → Option Nat} {g g1 g2 : ZH} {Sm : Nat → Int32} {Vm : Nat → Nat → Int32} {nr nw nt t ns p nf : Nat}
def Rre (b : Nat) (S V : Nat → Nat → Int32) (Q : Nat → Option Nat) (g : ZH) (Sm : Nat → Int32) (Vm : Nat → Nat → Int32) (nr nw nt t ns p nf : Nat) : Prop := Rco b S V Q g Sm Vm nr nw nt t ns p ∧ Rct S V Sm Vm ∧ Rmo S V Vm nt ∧ Rfl S V Sm Vm nf
theorem Rre.rel (h : Rre b S V Q g Sm Vm nr nw nt t ns p nf) : Rel b S V Q g Sm Vm := by
  obtain ⟨⟨a1, a2, a3, a4, a5, a6, a7, a8⟩, c, d, e⟩ := h
  exact ⟨nr, nw, nt, t, ns, nf, p, a1, c, d, a3, a2, a4, a5, a6, a7, a8, e⟩
theorem Rre.hear {w : Int32} (h : Rre b S V Q g Sm Vm nr nw nt t ns p nf) : ∃ (r : Int32) (S' V' : Nat → Nat → Int32) (Sm' : Nat → Int32) (Vm' : Nat → Nat → Int32), hearC S V (sayF nr (cru S) (chs S) (chm S) (chv V) (amo S V 52) w) = (r, S', V') ∧ saysM Sm Vm nr w = (r, Sm', Vm') ∧ (r = 0 ∨ ∃ f, 1 ≤ f ∧ f ≤ 4 ∧ r = zi f) ∧ (r = 0 → (Vm' 28 3 = -1 ∨ ∃ k, k < nt ∧ Vm' 28 3 = zi k)) ∧ Vm' 1 = Vm 1 ∧ Rre b S' V' Q g Sm' Vm' nr nw nt t ns p nf := by
  obtain ⟨hco, hct, hmo, hfl⟩ := h
  obtain ⟨r, S', V', Sm', Vm', e1, e2, k1, k2, k3, k4, f1, f2, f3, f4, f5⟩ := hear_says (w := w) hco.1 hct hmo hco.2.2.1
  refine ⟨r, S', V', Sm', Vm', e1, e2, k4, fun q => ?_, f4 1 (by decide) (by decide) (by decide), ?_, k2, k3, ?_⟩
  · rw [q] at e2
    exact says_lat hco.1.1.2.2 hco.1.2.2.2.2.2.1 hco.2.2.1 e2 rfl
  · exact hco.fr (fun q hq => f1 q (by omega) (by omega)) (fun q hq => f2 q (by omega) (by omega) (by omega)) (fun k hk => f3 k (by omega) (by omega)) (fun k hk => f4 k (by omega) (by omega) (by omega))
  · unfold Rfl at hfl ⊢
    rw [f1 56 (by decide) (by decide), f2 59 (by decide) (by decide) (by decide), f2 60 (by decide) (by decide) (by decide), f3 35 (by decide) (by decide), f4 33 (by decide) (by decide) (by decide), f4 34 (by decide) (by decide) (by decide)]
    exact hfl
theorem X12_isLine_txt {s e2 n : Nat} {sg : Nat → Int32} (hn : n ≤ 20) (hlm : f_X12_signsOf (Rm m Sm Vm g2) m (Vm 28 3) = some (zi n)) (hsg : ∀ j, j < n → f_X12_signOf (Rm m Sm Vm g2) m (Vm 28 3) (zi j) = some (sg j)) (hs : s ≤ e2) (he : e2 ≤ 600) :
    f_X12_isLine (Rm m Sm Vm g2) m (zi s) (zi e2) 0 0 = some (b01 (n = e2 - s ∧ fsr (fun j => decide (sg j ≠ Vm 1 (s + j))) (e2 - s) 0 = e2 - s)) := by
  unfold f_X12_isLine
  rw [zz_let, if_pos rfl, if_pos (by decide), rgR_28, Option.bind_some, rlL_28 (i := 3) (by decide), Option.bind_some, show Vm 28 (OfNat.ofNat 3) = Vm 28 3 from rfl, rO, hlm, Option.bind_some, zi_sub hs]
  unfold f_X12_isLine_J95
  have f0 : ∀ j, zz_loop (fun st : (Int32 × Int32) => f_X12_isLine_L100 (Rm m Sm Vm g2) m (zi s) (zi e2) 0 0 (zi (e2 - s)) (st.1) (st.2)) (0, zi j) = some 0 := fun j => by
    refine zz_loop_inr ?_
    show f_X12_isLine_L100 (Rm m Sm Vm g2) m (zi s) (zi e2) 0 0 (zi (e2 - s)) 0 (zi j) = _
    unfold f_X12_isLine_L100
    by_cases q : zi (e2 - s) ≤ zi j
    · rw [if_pos q]
      rfl
    · rw [if_neg q, if_pos rfl]
      rfl
  by_cases hne : zi (e2 - s) = zi n
  · have hn2 := (zi_eq (by omega) (by omega)).mp hne
    rw [if_pos hne]
    obtain ⟨g1, g2', g3, g4⟩ := fsr_spec (fun j => decide (sg j ≠ Vm 1 (s + j))) (e2 - s) 0
    generalize fsr (fun j => decide (sg j ≠ Vm 1 (s + j))) (e2 - s) 0 = i at g1 g2' g3 g4
    have stp : ∀ j, j < n → f_X12_isLine_L100 (Rm m Sm Vm g2) m (zi s) (zi e2) 0 0 (zi (e2 - s)) 1 (zi j) = some (.inl (if Vm 1 (s + j) = sg j then 1 else 0, zi (j + 1))) := fun j hj => by
      unfold f_X12_isLine_L100 f_X12_isLine_J141
      rw [if_neg (fun q => absurd ((zi_le (by omega) (by omega)).mp q) (by omega)), if_neg (by decide), rgR_1, Option.bind_some, zi_add, rl_1 (by omega), Option.bind_some, rgR_28, Option.bind_some, rlL_28 (i := 3) (by decide), Option.bind_some, show Vm 28 (OfNat.ofNat 3) = Vm 28 3 from rfl, rO, hsg j hj, Option.bind_some, zi_one]
      by_cases q : Vm 1 (s + j) = sg j
      · rw [if_pos q, if_pos q]
      · rw [if_neg q, if_neg q]
    have key := loop_to (b := fun st : (Int32 × Int32) => f_X12_isLine_L100 (Rm m Sm Vm g2) m (zi s) (zi e2) 0 0 (zi (e2 - s)) (st.1) (st.2)) (fun j => (1, zi j)) 0 i (Nat.zero_le _) (fun j _ hj => by
      have := g3 j (Nat.zero_le _) hj
      rw [decide_eq_false_iff_not, Decidable.not_not] at this
      show f_X12_isLine_L100 (Rm m Sm Vm g2) m (zi s) (zi e2) 0 0 (zi (e2 - s)) 1 (zi j) = _
      rw [stp j (by omega), if_pos this.symm])
    refine Eq.trans key ?_
    by_cases hi : i < e2 - s
    · have := g4 (by omega)
      rw [decide_eq_true_eq] at this
      rw [b01_f (fun q => by have := q.2; omega), zz_loop_inl (s' := (0, zi (i + 1)))]
      · exact f0 (i + 1)
      · show f_X12_isLine_L100 (Rm m Sm Vm g2) m (zi s) (zi e2) 0 0 (zi (e2 - s)) 1 (zi i) = _
        rw [stp i (by omega), if_neg (fun q => this q.symm)]
    · rw [b01_t ⟨hn2.symm, by omega⟩]
      refine zz_loop_inr ?_
      show f_X12_isLine_L100 (Rm m Sm Vm g2) m (zi s) (zi e2) 0 0 (zi (e2 - s)) 1 (zi i) = _
      unfold f_X12_isLine_L100
      rw [if_pos ((zi_le (by omega) (by omega)).mpr (by omega))]
      rfl
  · rw [if_neg hne, b01_f (fun q => hne (by rw [q.1]))]
    exact f0 0
theorem line_text {s e2 : Nat} (hr : Rre b S V Q g Sm Vm nr nw nt t ns p nf) (ht : Vm 28 3 = -1 ∨ ∃ k, k < nt ∧ Vm 28 3 = zi k) (hs : s ≤ e2) (he : e2 ≤ t) : ∃ P : Bool, f_X10_textStands (Cl b S V Q g1) (b + 4) (Vm 28 3) (b + 1) (zi s) (zi e2) = some (b01 (P = true)) ∧ f_X12_isLine (Rm m Sm Vm g2) m (zi s) (zi e2) 0 0 = some (b01 (P = true)) := by
  obtain ⟨⟨-, -, ⟨c1, c2, c3⟩, -⟩, -, -, ⟨t1, t2, t3, t4⟩, -, htx, -⟩ := id hr.1
  have hB := Byt_tape (b := b) (S := S) (V := V) (Q := Q) (g := g1) t1 t3
  have hE := Ent_texts (b := b) (V := V) (Q := Q) (g := g1) c1 c3
  unfold f_X10_textStands
  rcases ht with h3 | ⟨k, hk, h3⟩
  · have hm := X12_isLine_txt (m := m) (Sm := Sm) (Vm := Vm) (g2 := g2) (s := s) (e2 := e2) (n := 1) (sg := fun _ => 63) (by decide) (by rw [h3, X12_signsOf c3 (Or.inl (by decide))]; rfl) (fun j _ => by rw [h3]; unfold f_X12_signOf; rw [if_neg (by decide)]) hs (by omega)
    refine ⟨decide (1 = e2 - s ∧ fsr (fun j => decide ((63 : Int32) ≠ Vm 1 (s + j))) (e2 - s) 0 = e2 - s), ?_, ?_⟩
    · rw [h3, if_pos rfl, zi_sub hs]
      by_cases h1 : e2 - s = 1
      · rw [if_pos (by rw [h1]; rfl), hB.isO, X0_at hB (by omega), Option.bind_some, bt_tape t4 (by omega), h1]
        unfold fsr fsr
        by_cases q : Vm 1 s = 63
        · rw [if_pos q, b01_t]
          rw [decide_eq_true_eq]
          refine ⟨rfl, ?_⟩
          rw [if_neg (by rw [decide_eq_true_eq, Nat.add_zero, q]; exact fun r => r rfl)]
        · rw [if_neg q, b01_f]
          rw [decide_eq_true_eq]
          rintro ⟨-, r⟩
          rw [if_pos (by rw [decide_eq_true_eq, Nat.add_zero]; exact fun r => q r.symm)] at r
          cases r
      · rw [if_neg (fun q => h1 ((zi_eqL (by omega) (by decide)).mp q)), b01_f]
        rw [decide_eq_true_eq]
        exact fun q => h1 q.1.symm
    · rw [hm, b01_congr (decide_eq_true_iff).symm]
  · obtain ⟨n, hn, e1, e2', e3⟩ := htx k hk
    have hm := X12_isLine_txt (m := m) (Sm := Sm) (Vm := Vm) (g2 := g2) (s := s) (e2 := e2) (n := n) (sg := fun j => Vm 8 (20 * k + j)) hn (by
      rw [h3, X12_signsOf c3 (Or.inr ⟨k, hk, rfl⟩)]
      unfold tlen
      rw [if_neg (zi_neg (by omega)), zi_nat (by omega), e2']) (fun j hj => by
      rw [h3]
      unfold f_X12_signOf
      rw [if_pos ((zi_Lle (by omega) (by decide)).mpr (Nat.zero_le _)), rgR_8, Option.bind_some, zi_Lmul, zi_add, rl_8 (by omega), Option.bind_some]) hs (by omega)
    refine ⟨decide (n = e2 - s ∧ fsr (fun j => decide (Vm 8 (20 * k + j) ≠ Vm 1 (s + j))) (e2 - s) 0 = e2 - s), ?_, ?_⟩
    · rw [h3, if_neg (fun q => zi_neg (n := k) (by omega) (by rw [q]; decide)), cgR_4_1, Option.bind_some, hE.isO, hE.stands hB hk e1 hn hs (by omega), Option.bind_some, b01_ok]
      congr 1
      refine b01_congr ?_
      unfold stq
      rw [e1, Bool.and_eq_true, decide_eq_true_eq, decide_eq_true_eq, decide_eq_true_eq, zi_eq (by omega) (by omega)]
      refine and_congr_right fun q => ?_
      rw [fsr_congr (q := fun j => decide (Vm 8 (20 * k + j) ≠ Vm 1 (s + j))) (fun j q1 q2 => by rw [e3 j (by omega), bt_tape t4 (by omega)])]
    · rw [hm, b01_congr (decide_eq_true_iff).symm]
/-- one pair of lines -/
theorem rep_pair {k e e2 n : Nat} {h' : ZH} (hr : Rre b S V Q g Sm Vm nr nw nt t ns p nf) (hk : k < t) (hke : k + 2 ≤ e) (hke6 : e ≤ k + 8) (het : e + 1 < t) (he2 : e + 1 ≤ e2) (he2t : e2 ≤ t) (hle : le' (mb (Vm 1) t) t k = e) (hle2 : le' (mb (Vm 1) t) t (e + 1) = e2) :
    ∃ (P : Bool) (S' V' : Nat → Nat → Int32) (Sm' : Nat → Int32) (Vm' : Nat → Nat → Int32), f_X11_answersAlike (Cl b S V Q g1) b (zi (k + 2)) (zi e) (zi e2) = some (b01 (P = true), Cl b S' V' Q g1) ∧ f_X12_replay_L35 h' m (zi k) (zi (2 * n)) 0 (Rm m Sm Vm g2) = some (.inl (zi (e2 + 1), zi (2 * n + 2), (if P = true then 0 else zi (2 * n + 2)), Rm m Sm' Vm' g2)) ∧ Vm' 1 = Vm 1 ∧ Rre b S' V' Q g Sm' Vm' nr nw nt t ns p nf := by
  obtain ⟨⟨⟨a1', a2', a3⟩, ⟨b1, b2, b3⟩, ⟨c1, c2, c3⟩, d1, RI1, RI2, HR1⟩, -, -, ⟨t1, t2, t3, t4⟩, hwd, htx, -⟩ := id hr.1
  have hB := Byt_tape (b := b) (S := S) (V := V) (Q := Q) (g := g1) t1 t3
  have hE := Ent_words (b := b) (V := V) (Q := Q) (g := g1) b1 b3
  have mo1 : S 52 3 = Vm 28 1 := hr.2.2.1.1 1 (by decide)
  have hlen : ∀ w, w < nw → ∃ l, l ≤ 6 ∧ V 7 w = zi l := fun w hw => by
    obtain ⟨l, -, q1, q2, -⟩ := hwd w hw
    exact ⟨l, q1, q2⟩
  have hlenm : ∀ w, w < nw → ∃ l, l ≤ 6 ∧ Vm 6 w = zi l := fun w hw => by
    obtain ⟨l, -, q1, -, q2, -⟩ := hwd w hw
    exact ⟨l, q1, q2⟩
  have j138 : ∀ (P : Bool) (H : ZH), (if b01 (P = true) = 0 then (f_X12_replay_J138 h' m (zi (2 * n) + (2 : Int32)) (zi e2) (zi (2 * n) + (2 : Int32)) H) else (f_X12_replay_J138 h' m (zi (2 * n) + (2 : Int32)) (zi e2) (0 : Int32) H)) = some (.inl (zi (e2 + 1), zi (2 * n + 2), (if P = true then 0 else zi (2 * n + 2)), H)) := by
    intro P H
    unfold f_X12_replay_J138
    rw [zi_one, show zi (2 * n) + (2 : Int32) = zi (2 * n + 2) from zi_add (2 * n) 2]
    cases P <;> rfl
  have ml : f_X12_replay_L35 h' m (zi k) (zi (2 * n)) 0 (Rm m Sm Vm g2) = (if Vm 28 1 = 0 then f_X12_replay_J69 h' m (zi k) (zi (2 * n)) (zi e) 0 (Rm m Sm Vm g2) else f_X12_replay_J69 h' m (zi k) (zi (2 * n)) (zi e) 1 (Rm m Sm Vm g2)) := by
    unfold f_X12_replay_L35
    rw [rgI_2, Option.bind_some, t2, if_neg (fun q => absurd ((zi_le (by omega) (by omega)).mp q) (by omega)), if_pos rfl, rO, X12_endOf t2 t3 (by omega), Option.bind_some, hle, rgR_28, Option.bind_some, rlL_28 (i := 1) (by decide), Option.bind_some]
  rw [ml]
  unfold f_X11_answersAlike f_X12_replay_J69
  simp only [zz_let, zi_one, cgR_0_2, cgR_51_1, cgI_52_3, Option.bind_some]
  rw [mo1]
  by_cases h0 : Vm 28 1 = 0
  · rw [if_pos h0, if_pos h0, if_pos trivial]
    have ew := hE.find hB (s := k + 2) (e := e) hlen (by omega) (by omega)
    have em := X12_wordAt (m := m) (S := Sm) (V := Vm) (g := g2) (ar := m + 1) (cap := 600) (at' := k + 2) (n := e - (k + 2)) (T := Vm 1) (fun j hj => rl_1 hj) b2 b3 hlenm (by omega) (by decide)
    rw [find_congr (a := k + 2) (B' := Vm 1) hwd (by omega) (fun j hj => bt_tape t4 (by omega))] at ew
    generalize (if fsr (stq 6 (Vm 6) (Vm 5) (Vm 1) (k + 2) (e - (k + 2))) nw 0 < nw then zi (fsr (stq 6 (Vm 6) (Vm 5) (Vm 1) (k + 2) (e - (k + 2))) nw 0) else -1) = w at ew em
    obtain ⟨r, S', V', Sm', Vm', q1, q2, q3, q4, q5, q6⟩ := hr.hear (w := w)
    have eh := X8_hear (b := b) (V := V) (Q := Q) (g := g1) (w := w) a1' a3 b1 b3 c3 RI1 HR1.hi
    have es := X12_says (m := m) (g := g2) (w := w) a2' a3 c3 RI2
    rw [q1] at eh
    rw [q2] at es
    have eh : f_X8_hear (Cl b S V Q g1) (b + 51) w = some (r, Cl b S' V' Q g1) := eh
    have es : f_X12_says (Rm m Sm Vm g2) m w = some (r, Rm m Sm' Vm' g2) := es
    obtain ⟨u1, u2, u3, u4⟩ := id q6.1.2.2.2.1
    have hB' := Byt_tape (b := b) (S := S') (V := V') (Q := Q) (g := g1) u1 u3
    have hle2' : le' (mb (Vm' 1) t) t (e + 1) = e2 := by
      rw [q5]
      exact hle2
    simp only [cgR_0_1, cgR_4_0, cgR_0_0, cO_5, ew, cO_51, eh, Option.bind_some, rgR_1, rO, show zi k + (2 : Int32) = zi (k + 2) from zi_add k 2]
    rw [zi_sub (show k ≤ e by omega), show zi (e - k) - (2 : Int32) = zi (e - (k + 2)) by rw [show zi (e - k) - (2 : Int32) = zi (e - k - 2) from zi_sub (b := 2) (by omega), Nat.sub_sub], em]
    simp only [Option.bind_some, rO, es]
    unfold f_X12_replay_J101
    rw [zi_one, rO, X12_endOf u2 u3 (by omega), Option.bind_some, hle2', rO]
    rcases q3 with rfl | ⟨ff, f1, f4, rfl⟩
    · rw [if_pos rfl]
      obtain ⟨P, p1, p2⟩ := line_text (m := m) (g1 := g1) (g2 := g2) q6 (q4 rfl) he2 he2t
      have m3 : S' 52 4 = Vm' 28 3 := q6.2.2.1.1 3 (by decide)
      simp only [cgR_0_1, cgR_0_2, cgR_51_1, cgI_52_4, cgR_0_0, cO_4, Option.bind_some, m3, p1, p2, b01_ok]
      exact ⟨P, S', V', Sm', Vm', rfl, j138 P _, q5, q6⟩
    · have n0 : ¬ zi ff = 0 := fun q => absurd ((zi_eqL (by omega) (by decide)).mp q) (by omega)
      rw [if_neg n0, zi_sub he2]
      unfold f_X12_isLine
      rw [zz_let, if_pos (show (0 : Int32) = 0 from rfl), if_neg (fun q => absurd ((zi_leL (by omega) (by decide)).mp q) (by omega)), zi_sub he2]
      by_cases h2 : e2 - (e + 1) = 2
      · have z2 : zi (e2 - (e + 1)) = 2 := by
          rw [h2]
          rfl
        rw [if_pos z2, if_pos z2, hB'.isO, X0_at hB' (by omega), Option.bind_some, bt_tape u4 (by omega), rgR_1, Option.bind_some, rl_1 (by omega), Option.bind_some]
        by_cases h33 : Vm' 1 (e + 1) = 33
        · rw [if_pos h33, if_pos h33, hB'.isO, zi_one, X0_at hB' (by omega), Option.bind_some, bt_tape u4 (by omega), Option.bind_some, rl_1 (by omega), Option.bind_some]
          by_cases h48 : Vm' 1 (e + 1 + 1) = 48 + zi ff
          · rw [if_pos h48, if_pos h48, Option.bind_some]
            exact ⟨true, S', V', Sm', Vm', rfl, j138 true _, q5, q6⟩
          · rw [if_neg h48, if_neg h48, Option.bind_some]
            exact ⟨false, S', V', Sm', Vm', rfl, j138 false _, q5, q6⟩
        · rw [if_neg h33, if_neg h33, Option.bind_some]
          exact ⟨false, S', V', Sm', Vm', rfl, j138 false _, q5, q6⟩
      · have z2 : ¬ zi (e2 - (e + 1)) = 2 := fun q => h2 ((zi_eqL (by omega) (by decide)).mp q)
        rw [if_neg z2, if_neg z2, Option.bind_some]
        exact ⟨false, S', V', Sm', Vm', rfl, j138 false _, q5, q6⟩
  · rw [if_neg h0, if_neg h0, if_neg (show ¬ (1 : Int32) = 0 by decide)]
    unfold f_X12_replay_J101 f_X12_isLine
    rw [zi_one, rO, X12_endOf t2 t3 (by omega), Option.bind_some, hle2, rO, zz_let, if_neg (show ¬ (1 : Int32) = 0 by decide), zi_sub he2]
    by_cases h1 : e2 - (e + 1) = 1
    · have z1 : zi (e2 - (e + 1)) = 1 := by
        rw [h1]
        rfl
      rw [if_pos z1, if_pos z1, cgR_0_0, Option.bind_some, hB.isO, X0_at hB (by omega), Option.bind_some, bt_tape t4 (by omega), rgR_1, Option.bind_some, rl_1 (by omega), Option.bind_some]
      by_cases h46 : Vm 1 (e + 1) = 46
      · rw [if_pos h46, if_pos h46, Option.bind_some]
        exact ⟨true, S, V, Sm, Vm, rfl, j138 true _, rfl, hr⟩
      · rw [if_neg h46, if_neg h46, Option.bind_some]
        exact ⟨false, S, V, Sm, Vm, rfl, j138 false _, rfl, hr⟩
    · have z1 : ¬ zi (e2 - (e + 1)) = 1 := fun q => h1 ((zi_eqL (by omega) (by decide)).mp q)
      rw [if_neg z1, if_neg z1, Option.bind_some]
      exact ⟨false, S, V, Sm, Vm, rfl, j138 false _, rfl, hr⟩
end
