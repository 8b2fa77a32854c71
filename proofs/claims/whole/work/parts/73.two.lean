/-! ===== the start, and the two objects in one heap ===== -/
theorem Rel_0 {b : Nat} {g : ZH} {sd : Int32} : Rel b (S0 sd) Vz (fun _ => none) g (Sm1 sd) (beginV (Sm1 sd) Vz) := by
  refine ⟨0, 0, 0, 0, 0, 0, 0, ⟨⟨rfl, rfl, by decide⟩, ⟨rfl, rfl, by decide⟩, ⟨rfl, rfl, by decide⟩, fun r hr => absurd hr (by omega), fun r hr => absurd hr (by omega), fun r hr => absurd hr (by omega), ?_⟩, ⟨rfl, rfl, fun _ _ => rfl, rfl, fun _ _ => rfl⟩, ⟨?_, Or.inl rfl⟩, rfl, ⟨rfl, rfl, by decide, fun k hk => absurd hk (by omega), rfl, Or.inl rfl⟩, ⟨rfl, rfl, by decide, fun k hk => absurd hk (by omega)⟩, fun k hk => absurd hk (by omega), fun k hk => absurd hk (by omega), rfl, ⟨rfl, rfl, by decide, fun k hk => absurd hk (by omega)⟩, ⟨rfl, rfl, by decide, fun k hk => absurd hk (by omega), fun k hk => absurd hk (by omega)⟩⟩
  · intro a ha
    match a, ha with
    | 0, _ => exact ⟨rfl, Or.inl rfl⟩
    | 1, _ => exact ⟨rfl, Or.inl rfl⟩
    | 2, _ => exact ⟨rfl, Or.inl rfl⟩
    | 3, _ => exact ⟨rfl, Or.inl rfl⟩
    | a + 4, h => exact absurd h (by omega)
  · intro k hk
    match k, hk with
    | 0, _ => rfl
    | 1, _ => rfl
    | 2, _ => rfl
    | 3, _ => rfl
    | 4, _ => rfl
    | 5, _ => rfl
    | 6, _ => rfl
    | 7, _ => rfl
    | 8, _ => rfl
    | 9, _ => rfl
    | 10, _ => rfl
    | 11, _ => rfl
    | k + 12, h => exact absurd h (by omega)
/-- the row of the law -/
def oz (b : Nat) (lo : Nat → Int64) (g : ZH) : ZH := va_up g (b + 100) (some (.inl (3, 1, .inr (.inl lo))))
/-- the class's object, the reference's, the law's row, the scripts' -/
def HH (b : Nat) (S V : Nat → Nat → Int32) (Q : Nat → Option Nat) (Sm : Nat → Int32) (Vm : Nat → Nat → Int32) (lo : Nat → Int64) (g : ZH) : ZH := Cl b S V Q (Rm (b + 73) Sm Vm (oz b lo g))
section
variable {b : Nat} {S V : Nat → Nat → Int32} {Q : Nat → Option Nat} {g : ZH} {Sm : Nat → Int32} {Vm : Nat → Nat → Int32} {lo : Nat → Int64}
theorem swp : Cl b S V Q (Rm (b + 73) Sm Vm g) = Rm (b + 73) Sm Vm (Cl b S V Q g) := by
  funext q
  unfold Cl Rm
  by_cases h1 : b ≤ q ∧ q < b + 73
  · rw [if_pos h1, if_neg (by omega)]
    exact (if_pos h1).symm
  · rw [if_neg h1]
    by_cases h2 : b + 73 ≤ q ∧ q < b + 73 + 27
    · rw [if_pos h2, if_pos h2]
    · rw [if_neg h2, if_neg h2]
      exact (if_neg h1).symm
theorem HH_m : HH b S V Q Sm Vm lo g = Rm (b + 73) Sm Vm (Cl b S V Q (oz b lo g)) := swp
theorem Rm_up {m n : Nat} {c : Option ZC} (h : ¬ (m ≤ n ∧ n < m + 27)) : va_up (Rm m Sm Vm g) n c = Rm m Sm Vm (va_up g n c) := by
  funext q
  by_cases e : q = n
  · subst e
    rw [up_self]
    unfold Rm
    rw [if_neg h, up_self]
  · rw [up_ne _ _ e]
    unfold Rm
    by_cases h2 : m ≤ q ∧ q < m + 27
    · rw [if_pos h2, if_pos h2]
    · rw [if_neg h2, if_neg h2, up_ne _ _ e]
theorem HH_Hc {n t i : Nat} {src : Nat → Int32} (hn : b + 101 ≤ n) : Hc (Rm (b + 73) Sm Vm (oz b lo g)) n t i src = Rm (b + 73) Sm Vm (oz b lo (Hc g n t i src)) := by
  unfold Hc oz
  rw [Rm_up (by omega), Rm_up (by omega), up_comm _ _ _ (show b + 100 ≠ n by omega), up_comm _ _ _ (show b + 100 ≠ n + 1 by omega)]
theorem HH_ext : Ext b g (Rm (b + 73) Sm Vm (oz b lo g)) := by
  intro q hq
  unfold Rm oz
  rw [if_neg (by omega), up_ne _ _ (by omega)]
theorem fch {SA VA SB VB : Nat → Nat → Int32} {QA QB : Nat → Option Nat} {xA xB : ZH} (h : Cl b SA VA QA (Rm (b + 73) Sm Vm xA) = Cl b SB VB QB (Rm (b + 73) Sm Vm xB)) (hx : ∀ q, b + 73 ≤ q → q < b + 100 → xA q = xB q) : Cl b SA VA QA xA = Cl b SB VB QB xB := by
  funext q
  have hq := congrFun h q
  unfold Cl at hq ⊢
  by_cases h1 : b ≤ q ∧ q < b + 73
  · rw [if_pos h1, if_pos h1] at hq ⊢
    exact hq
  · rw [if_neg h1, if_neg h1] at hq ⊢
    by_cases h2 : b + 73 ≤ q ∧ q < b + 73 + 27
    · exact hx q h2.1 (by omega)
    · unfold Rm at hq
      rw [if_neg h2, if_neg h2] at hq
      exact hq
theorem lo_gen {F1 : Option (Int32 × ZH)} {F2 : ZH → Option (Int32 × ZH)} {rA rB : Int32} {SA VA SB VB : Nat → Nat → Int32} {SmB : Nat → Int32} {VmB : Nat → Nat → Int32} (e1 : F1 = some (rA, Cl b SA VA Q (Rm (b + 73) Sm Vm (oz b lo g)))) (e3 : F1 = some (rB, Cl b SB VB Q (Rm (b + 73) Sm Vm (oz b lo g)))) (e4 : F2 (Rm (b + 73) Sm Vm (Cl b SA VA Q (oz b lo g))) = some (rB, Rm (b + 73) SmB VmB (Cl b SA VA Q (oz b lo g)))) : F2 (HH b SB VB Q Sm Vm lo g) = some (rB, HH b SB VB Q SmB VmB lo g) := by
  have e5 := e1.symm.trans e3
  simp only [Option.some.injEq, Prod.mk.injEq] at e5
  have e6 := fch e5.2 (fun q _ _ => rfl)
  rw [HH_m, HH_m, ← e6]
  exact e4
theorem lo_play  (h : Rel b S V Q g Sm Vm) : ∃ r Sm', f_X11_play (HH b S V Q Sm Vm lo g) b = some r ∧ f_X12_play (HH b S V Q Sm Vm lo g) (b + 73) = some (r, HH b S V Q Sm' Vm lo g) ∧ Rel b S V Q g Sm' Vm := by
  obtain ⟨r, e1, e2⟩ := op_play (m := b + 73) (g1 := Rm (b + 73) Sm Vm (oz b lo g)) (g2 := Cl b S V Q (oz b lo g)) h
  rw [← swp] at e2
  refine ⟨r, _, e1, e2.trans ?_, h.thr 0⟩
  rw [← swp]
  rfl
theorem lo_played {x : Int32} (h : Rel b S V Q g Sm Vm) : ∃ r Sm', f_X11_played (HH b S V Q Sm Vm lo g) b x = some r ∧ f_X12_played (HH b S V Q Sm Vm lo g) (b + 73) x = some (r, HH b S V Q Sm' Vm lo g) ∧ Rel b S V Q g Sm' Vm := by
  obtain ⟨r, e1, e2⟩ := op_played (m := b + 73) (g1 := Rm (b + 73) Sm Vm (oz b lo g)) (g2 := Cl b S V Q (oz b lo g)) (x := x) h
  rw [← swp] at e2
  refine ⟨r, _, e1, e2.trans ?_, h.thr 0⟩
  rw [← swp]
  rfl
theorem lo_state {x : Int32} (h : Rel b S V Q g Sm Vm) : ∃ r Sm', f_X11_state (HH b S V Q Sm Vm lo g) b x = some r ∧ f_X12_state (HH b S V Q Sm Vm lo g) (b + 73) x = some (r, HH b S V Q Sm' Vm lo g) ∧ Rel b S V Q g Sm' Vm := by
  obtain ⟨r, e1, e2⟩ := op_state (m := b + 73) (g1 := Rm (b + 73) Sm Vm (oz b lo g)) (g2 := Cl b S V Q (oz b lo g)) (x := x) h
  rw [← swp] at e2
  refine ⟨r, _, e1, e2.trans ?_, h.thr 0⟩
  rw [← swp]
  rfl
theorem lo_done {x : Int32} (h : Rel b S V Q g Sm Vm) : ∃ r Sm', f_X11_done (HH b S V Q Sm Vm lo g) b x = some r ∧ f_X12_done (HH b S V Q Sm Vm lo g) (b + 73) x = some (r, HH b S V Q Sm' Vm lo g) ∧ Rel b S V Q g Sm' Vm := by
  obtain ⟨r, e1, e2⟩ := op_done (m := b + 73) (g1 := Rm (b + 73) Sm Vm (oz b lo g)) (g2 := Cl b S V Q (oz b lo g)) (x := x) h
  rw [← swp] at e2
  refine ⟨r, _, e1, e2.trans ?_, h.thr 0⟩
  rw [← swp]
  rfl
theorem lo_failed {x : Int32} {y : Int32} (h : Rel b S V Q g Sm Vm) : ∃ r Sm', f_X11_failed (HH b S V Q Sm Vm lo g) b x y = some r ∧ f_X12_failed (HH b S V Q Sm Vm lo g) (b + 73) x y = some (r, HH b S V Q Sm' Vm lo g) ∧ Rel b S V Q g Sm' Vm := by
  obtain ⟨r, e1, e2⟩ := op_failed (m := b + 73) (g1 := Rm (b + 73) Sm Vm (oz b lo g)) (g2 := Cl b S V Q (oz b lo g)) (x := x) (y := y) h
  rw [← swp] at e2
  refine ⟨r, _, e1, e2.trans ?_, h.thr 0⟩
  rw [← swp]
  rfl
theorem lo_told {x : Int32} (h : Rel b S V Q g Sm Vm) : ∃ r Sm', f_X11_told (HH b S V Q Sm Vm lo g) b x = some r ∧ f_X12_told (HH b S V Q Sm Vm lo g) (b + 73) x = some (r, HH b S V Q Sm' Vm lo g) ∧ Rel b S V Q g Sm' Vm := by
  obtain ⟨r, e1, e2⟩ := op_told (m := b + 73) (g1 := Rm (b + 73) Sm Vm (oz b lo g)) (g2 := Cl b S V Q (oz b lo g)) (x := x) h
  rw [← swp] at e2
  refine ⟨r, _, e1, e2.trans ?_, h.thr 0⟩
  rw [← swp]
  rfl
theorem lo_shown {x : Int32} (h : Rel b S V Q g Sm Vm) : ∃ r Sm', f_X11_shown (HH b S V Q Sm Vm lo g) b x = some r ∧ f_X12_shown (HH b S V Q Sm Vm lo g) (b + 73) x = some (r, HH b S V Q Sm' Vm lo g) ∧ Rel b S V Q g Sm' Vm := by
  obtain ⟨r, e1, e2⟩ := op_shown (m := b + 73) (g1 := Rm (b + 73) Sm Vm (oz b lo g)) (g2 := Cl b S V Q (oz b lo g)) (x := x) h
  rw [← swp] at e2
  refine ⟨r, _, e1, e2.trans ?_, h.thr 0⟩
  rw [← swp]
  rfl
theorem lo_never {x : Int32} (h : Rel b S V Q g Sm Vm) : ∃ r Sm', f_X11_never (HH b S V Q Sm Vm lo g) b x = some r ∧ f_X12_never (HH b S V Q Sm Vm lo g) (b + 73) x = some (r, HH b S V Q Sm' Vm lo g) ∧ Rel b S V Q g Sm' Vm := by
  obtain ⟨r, e1, e2⟩ := op_never (m := b + 73) (g1 := Rm (b + 73) Sm Vm (oz b lo g)) (g2 := Cl b S V Q (oz b lo g)) (x := x) h
  rw [← swp] at e2
  refine ⟨r, _, e1, e2.trans ?_, h.thr 0⟩
  rw [← swp]
  rfl
theorem lo_feed {w : Int64} {x : Int32} (h : Rel b S V Q g Sm Vm) : ∃ r S' V' Sm' Vm', f_X11_feed (HH b S V Q Sm Vm lo g) b w x = some (r, HH b S' V' Q Sm Vm lo g) ∧ f_X12_feed (HH b S' V' Q Sm Vm lo g) (b + 73) w x = some (r, HH b S' V' Q Sm' Vm' lo g) ∧ Rel b S' V' Q g Sm' Vm' := by
  obtain ⟨rA, SA, VA, SmA, VmA, e1, -, -⟩ := op_feed (m := b + 73) (g1 := Rm (b + 73) Sm Vm (oz b lo g)) (g2 := g) (w := w) (x := x) h
  obtain ⟨r, S', V', Sm', Vm', e3, e4, hR⟩ := op_feed (m := b + 73) (g1 := Rm (b + 73) Sm Vm (oz b lo g)) (g2 := Cl b SA VA Q (oz b lo g)) (w := w) (x := x) h
  exact ⟨r, S', V', Sm', Vm', e3, lo_gen (F2 := fun H => f_X12_feed H (b + 73) w x) e1 e3 e4, hR⟩
theorem lo_word  (h : Rel b S V Q g Sm Vm) : ∃ r S' V' Sm' Vm', f_X11_word (HH b S V Q Sm Vm lo g) b = some (r, HH b S' V' Q Sm Vm lo g) ∧ f_X12_word (HH b S' V' Q Sm Vm lo g) (b + 73) = some (r, HH b S' V' Q Sm' Vm' lo g) ∧ Rel b S' V' Q g Sm' Vm' := by
  obtain ⟨rA, SA, VA, SmA, VmA, e1, -, -⟩ := op_word (m := b + 73) (g1 := Rm (b + 73) Sm Vm (oz b lo g)) (g2 := g) h
  obtain ⟨r, S', V', Sm', Vm', e3, e4, hR⟩ := op_word (m := b + 73) (g1 := Rm (b + 73) Sm Vm (oz b lo g)) (g2 := Cl b SA VA Q (oz b lo g)) h
  exact ⟨r, S', V', Sm', Vm', e3, lo_gen (F2 := fun H => f_X12_word H (b + 73)) e1 e3 e4, hR⟩
theorem lo_text  (h : Rel b S V Q g Sm Vm) : ∃ r S' V' Sm' Vm', f_X11_text (HH b S V Q Sm Vm lo g) b = some (r, HH b S' V' Q Sm Vm lo g) ∧ f_X12_text (HH b S' V' Q Sm Vm lo g) (b + 73) = some (r, HH b S' V' Q Sm' Vm' lo g) ∧ Rel b S' V' Q g Sm' Vm' := by
  obtain ⟨rA, SA, VA, SmA, VmA, e1, -, -⟩ := op_text (m := b + 73) (g1 := Rm (b + 73) Sm Vm (oz b lo g)) (g2 := g) h
  obtain ⟨r, S', V', Sm', Vm', e3, e4, hR⟩ := op_text (m := b + 73) (g1 := Rm (b + 73) Sm Vm (oz b lo g)) (g2 := Cl b SA VA Q (oz b lo g)) h
  exact ⟨r, S', V', Sm', Vm', e3, lo_gen (F2 := fun H => f_X12_text H (b + 73)) e1 e3 e4, hR⟩
theorem lo_rule {a1 : Int32} {a2 : Int32} {a3 : Int32} {a4 : Int32} {a5 : Int32} {a6 : Int32} {a7 : Int32} {a8 : Int32} {a9 : Int32} (h : Rel b S V Q g Sm Vm) : ∃ r S' V' Sm' Vm', f_X11_rule (HH b S V Q Sm Vm lo g) b a1 a2 a3 a4 a5 a6 a7 a8 a9 = some (r, HH b S' V' Q Sm Vm lo g) ∧ f_X12_rule (HH b S' V' Q Sm Vm lo g) (b + 73) a1 a2 a3 a4 a5 a6 a7 a8 a9 = some (r, HH b S' V' Q Sm' Vm' lo g) ∧ Rel b S' V' Q g Sm' Vm' := by
  obtain ⟨rA, SA, VA, SmA, VmA, e1, -, -⟩ := op_rule (m := b + 73) (g1 := Rm (b + 73) Sm Vm (oz b lo g)) (g2 := g) (a1 := a1) (a2 := a2) (a3 := a3) (a4 := a4) (a5 := a5) (a6 := a6) (a7 := a7) (a8 := a8) (a9 := a9) h
  obtain ⟨r, S', V', Sm', Vm', e3, e4, hR⟩ := op_rule (m := b + 73) (g1 := Rm (b + 73) Sm Vm (oz b lo g)) (g2 := Cl b SA VA Q (oz b lo g)) (a1 := a1) (a2 := a2) (a3 := a3) (a4 := a4) (a5 := a5) (a6 := a6) (a7 := a7) (a8 := a8) (a9 := a9) h
  exact ⟨r, S', V', Sm', Vm', e3, lo_gen (F2 := fun H => f_X12_rule H (b + 73) a1 a2 a3 a4 a5 a6 a7 a8 a9) e1 e3 e4, hR⟩
theorem lo_holder {x : Int32} {s : Int32} {n : Int32} {v : Int32} (h : Rel b S V Q g Sm Vm) : ∃ r S' V' Sm' Vm', f_X11_holder (HH b S V Q Sm Vm lo g) b x s n v = some (r, HH b S' V' Q Sm Vm lo g) ∧ f_X12_holder (HH b S' V' Q Sm Vm lo g) (b + 73) x s n v = some (r, HH b S' V' Q Sm' Vm' lo g) ∧ Rel b S' V' Q g Sm' Vm' := by
  obtain ⟨rA, SA, VA, SmA, VmA, e1, -, -⟩ := op_holder (m := b + 73) (g1 := Rm (b + 73) Sm Vm (oz b lo g)) (g2 := g) (x := x) (s := s) (n := n) (v := v) h
  obtain ⟨r, S', V', Sm', Vm', e3, e4, hR⟩ := op_holder (m := b + 73) (g1 := Rm (b + 73) Sm Vm (oz b lo g)) (g2 := Cl b SA VA Q (oz b lo g)) (x := x) (s := s) (n := n) (v := v) h
  exact ⟨r, S', V', Sm', Vm', e3, lo_gen (F2 := fun H => f_X12_holder H (b + 73) x s n v) e1 e3 e4, hR⟩
theorem lo_seed {x : Int32} (h : Rel b S V Q g Sm Vm) : ∃ r S' V' Sm' Vm', f_X11_seed (HH b S V Q Sm Vm lo g) b x = some (r, HH b S' V' Q Sm Vm lo g) ∧ f_X12_seed (HH b S' V' Q Sm Vm lo g) (b + 73) x = some (r, HH b S' V' Q Sm' Vm' lo g) ∧ Rel b S' V' Q g Sm' Vm' := by
  obtain ⟨rA, SA, SmA, e1, -, -⟩ := op_seed (m := b + 73) (g1 := Rm (b + 73) Sm Vm (oz b lo g)) (g2 := g) (x := x) h
  obtain ⟨r, S', Sm', e3, e4, hR⟩ := op_seed (m := b + 73) (g1 := Rm (b + 73) Sm Vm (oz b lo g)) (g2 := Cl b SA V Q (oz b lo g)) (x := x) h
  exact ⟨r, S', V, Sm', Vm, e3, lo_gen (F2 := fun H => f_X12_seed H (b + 73) x) e1 e3 e4, hR⟩
theorem lo_run {x : Int32} (h : Rel b S V Q g Sm Vm) : ∃ r S' V' Sm' Vm', f_X11_run (HH b S V Q Sm Vm lo g) b x = some (r, HH b S' V' Q Sm Vm lo g) ∧ f_X12_run (HH b S' V' Q Sm Vm lo g) (b + 73) x = some (r, HH b S' V' Q Sm' Vm' lo g) ∧ Rel b S' V' Q g Sm' Vm' := by
  obtain ⟨rA, SA, VA, SmA, VmA, e1, -, -⟩ := op_run (m := b + 73) (g1 := Rm (b + 73) Sm Vm (oz b lo g)) (g2 := g) (x := x) HH_ext h
  obtain ⟨r, S', V', Sm', Vm', e3, e4, hR⟩ := op_run (m := b + 73) (g1 := Rm (b + 73) Sm Vm (oz b lo g)) (g2 := Cl b SA VA Q (oz b lo g)) (x := x) HH_ext h
  exact ⟨r, S', V', Sm', Vm', e3, lo_gen (F2 := fun H => f_X12_run H (b + 73) x) e1 e3 e4, hR⟩
theorem lo_replay  (h : Rel b S V Q g Sm Vm) : ∃ r S' V' Sm' Vm', f_X11_replay (HH b S V Q Sm Vm lo g) b = some (r, HH b S' V' Q Sm Vm lo g) ∧ f_X12_replay (HH b S' V' Q Sm Vm lo g) (b + 73) = some (r, HH b S' V' Q Sm' Vm' lo g) ∧ Rel b S' V' Q g Sm' Vm' := by
  obtain ⟨rA, SA, VA, SmA, VmA, e1, -, -⟩ := op_replay (m := b + 73) (g1 := Rm (b + 73) Sm Vm (oz b lo g)) (g2 := g) h
  obtain ⟨r, S', V', Sm', Vm', e3, e4, hR⟩ := op_replay (m := b + 73) (g1 := Rm (b + 73) Sm Vm (oz b lo g)) (g2 := Cl b SA VA Q (oz b lo g)) h
  exact ⟨r, S', V', Sm', Vm', e3, lo_gen (F2 := fun H => f_X12_replay H (b + 73)) e1 e3 e4, hR⟩
theorem lo_storm {x : Int32} {n : Int32} (h : Rel b S V Q g Sm Vm) : ∃ r S' V' Sm' Vm', f_X11_storm (HH b S V Q Sm Vm lo g) b x n = some (r, HH b S' V' Q Sm Vm lo g) ∧ f_X12_storm (HH b S' V' Q Sm Vm lo g) (b + 73) x n = some (r, HH b S' V' Q Sm' Vm' lo g) ∧ Rel b S' V' Q g Sm' Vm' := by
  obtain ⟨rA, SA, VA, SmA, VmA, e1, -, -⟩ := op_storm (m := b + 73) (g1 := Rm (b + 73) Sm Vm (oz b lo g)) (g2 := g) (x := x) (n := n) h
  obtain ⟨r, S', V', Sm', Vm', e3, e4, hR⟩ := op_storm (m := b + 73) (g1 := Rm (b + 73) Sm Vm (oz b lo g)) (g2 := Cl b SA VA Q (oz b lo g)) (x := x) (n := n) h
  exact ⟨r, S', V', Sm', Vm', e3, lo_gen (F2 := fun H => f_X12_storm H (b + 73) x n) e1 e3 e4, hR⟩
theorem lo_shrink  (h : Rel b S V Q g Sm Vm) : ∃ r S' V' Sm' Vm', f_X11_shrink (HH b S V Q Sm Vm lo g) b = some (r, HH b S' V' Q Sm Vm lo g) ∧ f_X12_shrink (HH b S' V' Q Sm Vm lo g) (b + 73) = some (r, HH b S' V' Q Sm' Vm' lo g) ∧ Rel b S' V' Q g Sm' Vm' := by
  obtain ⟨rA, SA, VA, SmA, VmA, e1, -, -⟩ := op_shrink (m := b + 73) (g1 := Rm (b + 73) Sm Vm (oz b lo g)) (g2 := g) h
  obtain ⟨r, S', V', Sm', Vm', e3, e4, hR⟩ := op_shrink (m := b + 73) (g1 := Rm (b + 73) Sm Vm (oz b lo g)) (g2 := Cl b SA VA Q (oz b lo g)) h
  exact ⟨r, S', V', Sm', Vm', e3, lo_gen (F2 := fun H => f_X12_shrink H (b + 73)) e1 e3 e4, hR⟩
theorem lo_script {n : Nat} (hn : b + 101 ≤ n) (hfr : ∀ q, n ≤ q → g q = none) (h : Rel b S V Q g Sm Vm) : ∃ r S' Q' Sm' Vm' g' n', f_X11_script (HH b S V Q Sm Vm lo g) n b = some (r, HH b S' V Q' Sm Vm lo g', n') ∧ f_X12_script (HH b S' V Q' Sm Vm lo g') (b + 73) = some (r, HH b S' V Q' Sm' Vm' lo g') ∧ Rel b S' V Q' g' Sm' Vm' ∧ n ≤ n' ∧ ∀ q, n' ≤ q → g' q = none := by
  have hfr1 : ∀ q, n ≤ q → Rm (b + 73) Sm Vm (oz b lo g) q = none := fun q hq => by
    rw [HH_ext (lo := lo) (Sm := Sm) (Vm := Vm) q (by omega)]
    exact hfr q hq
  obtain ⟨rA, SA, QA, SmA, VmA, GA, nA, hGA, e1, -, -⟩ := op_script (m := b + 73) (g1 := Rm (b + 73) Sm Vm (oz b lo g)) (g2 := g) hn hfr hfr1 h
  obtain ⟨r, S', Q', Sm', Vm', G, n', hG, e3, e4, hR⟩ := op_script (m := b + 73) (g1 := Rm (b + 73) Sm Vm (oz b lo g)) (g2 := Cl b SA V QA (oz b lo (GA g))) hn hfr hfr1 h
  have c1 : ∀ (G : ZH → ZH) (n' : Nat), (n' = n ∧ G = id ∨ n' = n + 2 ∧ ∃ t src, G = fun g => Hc g n t t src) → G (Rm (b + 73) Sm Vm (oz b lo g)) = Rm (b + 73) Sm Vm (oz b lo (G g)) ∧ (∀ q, q < n → G g q = g q) ∧ n ≤ n' ∧ ∀ q, n' ≤ q → G g q = none := by
    intro G n' hG
    rcases hG with ⟨rfl, rfl⟩ | ⟨rfl, t, src, rfl⟩
    · exact ⟨rfl, fun _ _ => rfl, Nat.le_refl _, hfr⟩
    · refine ⟨HH_Hc hn, fun q hq => ?_, by omega, fun q hq => ?_⟩
      · show Hc g n t t src q = g q
        unfold Hc
        rw [up_ne _ _ (by omega), up_ne _ _ (by omega)]
      · show Hc g n t t src q = none
        unfold Hc
        rw [up_ne _ _ (by omega), up_ne _ _ (by omega)]
        exact hfr q (by omega)
  obtain ⟨a1, a2, -, -⟩ := c1 GA nA hGA
  obtain ⟨b1, b2, b3, b4⟩ := c1 G n' hG
  have e5 := e1.symm.trans e3
  simp only [Option.some.injEq, Prod.mk.injEq] at e5
  rw [a1, b1] at e5
  have e6 := fch e5.2.1 (fun q h1 h2 => by
    unfold oz
    rw [up_ne _ _ (by omega), up_ne _ _ (by omega), a2 q (by omega), b2 q (by omega)])
  refine ⟨r, S', Q', Sm', Vm', G g, n', ?_, ?_, hR, b3, b4⟩
  · rw [b1] at e3
    exact e3
  · rw [HH_m, HH_m, ← e6]
    exact e4
end
