/-! ===== shrinking: the class ===== -/
/-- can the word at i go? -/
def cgo (sf : (Nat → Int32) → Int32 → Int32 × (Nat → Int32)) (tl wd : Nat → Int32) (p : Nat) (broke sd : Int32) (i : Nat) : Bool := if p = 1 then false else cg sf tl wd i (if i = p - 1 then p - 2 else p - 1) broke ((if i = p - 1 then p - 2 else p - 1) + 1) 0 (bgn (fun _ => 0) sd)
/-- two ways of saying that can't be told apart -/
def sfR (sf sf' : (Nat → Int32) → Int32 → Int32 × (Nat → Int32)) (nt : Nat) : Prop := ∀ mo mo' w, ag 12 mo mo' → (sf mo w).1 = (sf' mo' w).1 ∧ ag 12 (sf mo w).2 (sf' mo' w).2 ∧ ((-1 : Int32) ≤ (sf mo w).1 → ((sf mo w).2 3 < 0 ∨ ∃ k, k < nt ∧ (sf mo w).2 3 = zi k))
theorem cg_congr {sf sf' : (Nat → Int32) → Int32 → Int32 × (Nat → Int32)} {tl tl' wd wd' : Nat → Int32} {gone last nt : Nat} {broke : Int32} (hnt : nt ≤ 24) (hsf : sfR sf sf' nt) (htl : ∀ k, k < nt → tl k = tl' k) (hwd : ∀ i, i ≤ last → wd i = wd' i) : ∀ (n i : Nat) (mo mo' : Nat → Int32), i + n = last + 1 → ag 12 mo mo' → cg sf tl wd gone last broke n i mo = cg sf' tl' wd' gone last broke n i mo' := by
  intro n
  induction n with
  | zero => intro i mo mo' _ _; rfl
  | succ n ih =>
    intro i mo mo' hi hmo
    obtain ⟨s1, s2, s3⟩ := hsf mo mo' (wd i) hmo
    unfold cg
    rw [← hwd i (by omega), ih (i + 1) mo mo' (by omega) hmo, ih (i + 1) _ _ (by omega) s2, hmo 1 (by decide)]
    have eb : brk (flt (sf mo (wd i)).1) (sf mo (wd i)).2 tl = brk (flt (sf' mo' (wd i)).1) (sf' mo' (wd i)).2 tl' := by
      rw [← s1]
      by_cases h : (-1 : Int32) ≤ (sf mo (wd i)).1
      · exact brk_congr hnt s2 htl (s3 h)
      · have hf : ¬ flt (sf mo (wd i)).1 ≤ 0 := by
          unfold flt
          have h1 : (sf mo (wd i)).1 < -1 := by
            rw [Int32.lt_iff_toInt_lt]
            rw [Int32.le_iff_toInt_le] at h
            omega
          rw [if_pos h1]
          generalize (sf mo (wd i)).1 = x at h1
          rw [Int32.le_iff_toInt_le, Int32.toInt_sub]
          rw [Int32.lt_iff_toInt_lt] at h1
          have e1 : (-1 : Int32).toInt = -1 := rfl
          have e0 : (0 : Int32).toInt = 0 := rfl
          have hx := Int32.le_toInt x
          have hb : (-1 - x.toInt).bmod (2 ^ 32) = -1 - x.toInt := by
            rw [Int.bmod_eq_of_le] <;> omega
          rw [e1, e0, hb]
          omega
        rw [brk_pos hf, brk_pos hf]
    rw [eb]
theorem bgn_ag {f g : Nat → Int32} {sd : Int32} : ag 12 (bgn f sd) (bgn g sd) := by
  intro k hk
  unfold bgn
  by_cases h3 : k = 3
  · subst h3
    rfl
  · by_cases h2 : k = 2
    · subst h2
      rfl
    · rw [up_ne _ _ h3, up_ne _ _ h2, up_ne _ _ h3, up_ne _ _ h2]
      unfold bw
      rw [if_pos (by omega), if_pos (by omega)]
theorem sayF_sfR {nr nw nt : Nat} {ru ru' : Nat → Nat → Int32} {hs hm : Nat → Int32} {hv hv' : Nat → Nat → Int32} {hs' hm' v' : Nat → Int32} (hn : nr ≤ 30) (hru : ∀ r, r < nr → ∀ j, j < 9 → ru r j = ru' r j) (hRI : RI nr ru nw nt) (hH : HR hs hm hv hs' hm' v') (hvv : ∀ a j, hv' a j = v' a + zi j) : sfR (sayF nr ru hs hm hv) (sayF nr ru' hs' hm' hv') nt := by
  intro mo mo' w hmo
  obtain ⟨c1, c2⟩ := sayF_congr (w := w) hru hRI hH hvv hmo
  refine ⟨c1, c2, fun h => ?_⟩
  rcases sayF_rng (hs := hs) (hm := hm) (hv := hv) (mo := mo) (w := w) hRI with ⟨h1, h2⟩ | ⟨r, hr, h1, k, hk, h2⟩ | ⟨f, hf1, hf4, h1, h2⟩
  · exact Or.inl (by rw [h2]; decide)
  · exact Or.inr ⟨k, hk, h2⟩
  · rw [h1] at h
    have : f = 1 ∨ f = 2 ∨ f = 3 ∨ f = 4 := by omega
    rcases this with rfl | rfl | rfl | rfl <;> exact absurd h (by decide)
theorem sayF_self {nr nw nt : Nat} {ru : Nat → Nat → Int32} {hs hm : Nat → Int32} {hv : Nat → Nat → Int32} (hn : nr ≤ 30) (hRI : RI nr ru nw nt) (hI : HI hs hm) : ∀ mo mo' w, ag 12 mo mo' → (sayF nr ru hs hm hv mo w).1 = (sayF nr ru hs hm hv mo' w).1 ∧ ag 12 (sayF nr ru hs hm hv mo w).2 (sayF nr ru hs hm hv mo' w).2 := by
  intro mo mo' w hmo
  unfold sayF
  rw [← ffit_congr (ru := ru) (ru' := ru) (fun _ _ _ _ => rfl) hRI hmo]
  by_cases h : w < 0 ∨ ffit nr ru mo w = nr
  · rw [if_pos h, if_pos h]
    exact ⟨rfl, ag_up hmo _⟩
  · rw [if_neg h, if_neg h]
    have hr : ffit nr ru mo w < nr := by
      obtain ⟨-, g2, -⟩ := fsr_spec (fun r => decide (fitsP ru mo w r)) nr 0
      rw [show fsr (fun r => decide (fitsP ru mo w r)) nr 0 = ffit nr ru mo w from rfl] at g2
      have : ¬ ffit nr ru mo w = nr := fun q => h (Or.inr q)
      omega
    generalize ffit nr ru mo w = r at hr ⊢
    obtain ⟨-, -, -, hok, -⟩ := hRI r hr
    have c : (actF ru hs hm hv mo r).1 = (actF ru hs hm hv mo' r).1 ∧ ag 12 (actF ru hs hm hv mo r).2 (actF ru hs hm hv mo' r).2 := by
      have ha7 : ∀ {x : Int32}, (0 : Int32) ≤ x → x ≤ 7 → 4 + x.toNatClampNeg < 12 := by
        intro x h1 h2
        obtain ⟨j, hj, e⟩ := zi_rng (u := 7) h1 h2 (by decide)
        rw [e, zi_nat (by omega)]
        omega
      unfold actF
      rcases hok with e | ⟨e, q, -⟩ | ⟨e, q, q2⟩ | ⟨e, q, q2⟩ | ⟨e, q⟩ | ⟨e, q, -⟩ | ⟨e, q⟩
      · rw [e, if_neg (show ¬ (0 : Int32) = 1 by decide), if_neg (show ¬ (0 : Int32) = 1 by decide), if_neg (show ¬ (0 : Int32) = 2 by decide), if_neg (show ¬ (0 : Int32) = 2 by decide), if_neg (show ¬ (0 : Int32) = 3 by decide), if_neg (show ¬ (0 : Int32) = 3 by decide), if_neg (show ¬ (0 : Int32) = 4 by decide), if_neg (show ¬ (0 : Int32) = 4 by decide), if_neg (show ¬ (0 : Int32) = 5 by decide), if_neg (show ¬ (0 : Int32) = 5 by decide), if_neg (show ¬ (0 : Int32) = 6 by decide), if_neg (show ¬ (0 : Int32) = 6 by decide)]
        exact ⟨rfl, hmo⟩
      · rw [e, if_pos rfl, if_pos rfl, hmo _ (ha7 q.1 q.2)]
        exact ⟨rfl, ag_up hmo _⟩
      · rw [e, if_neg (show ¬ (2 : Int32) = 1 by decide), if_neg (show ¬ (2 : Int32) = 1 by decide), if_pos rfl, if_pos rfl, hmo _ (ha7 q2.1 q2.2)]
        by_cases h0 : mo' (4 + (ru r 6).toNatClampNeg) = 0
        · rw [if_pos h0, if_pos h0]
          exact ⟨rfl, hmo⟩
        · rw [if_neg h0, if_neg h0]
          exact ⟨rfl, ag_up hmo _⟩
      · rw [e, if_neg (show ¬ (3 : Int32) = 1 by decide), if_neg (show ¬ (3 : Int32) = 1 by decide), if_neg (show ¬ (3 : Int32) = 2 by decide), if_neg (show ¬ (3 : Int32) = 2 by decide), if_pos rfl, if_pos rfl, hmo _ (ha7 q2.1 q2.2)]
        by_cases h2 : hs (ru r 5).toNatClampNeg = 2
        · rw [if_pos h2, if_pos h2]
          by_cases h3 : (0 : Int32) ≤ mo' (4 + (ru r 6).toNatClampNeg) ∧ mo' (4 + (ru r 6).toNatClampNeg) ≤ hm (ru r 5).toNatClampNeg - 1
          · rw [if_pos h3, if_pos h3]
            exact ⟨rfl, ag_up hmo _⟩
          · rw [if_neg h3, if_neg h3]
            exact ⟨rfl, hmo⟩
        · rw [if_neg h2, if_neg h2]
          exact ⟨rfl, hmo⟩
      · rw [e, if_neg (show ¬ (4 : Int32) = 1 by decide), if_neg (show ¬ (4 : Int32) = 1 by decide), if_neg (show ¬ (4 : Int32) = 2 by decide), if_neg (show ¬ (4 : Int32) = 2 by decide), if_neg (show ¬ (4 : Int32) = 3 by decide), if_neg (show ¬ (4 : Int32) = 3 by decide), if_pos rfl, if_pos rfl]
        by_cases h2 : hs (ru r 5).toNatClampNeg = 1
        · rw [if_pos h2, if_pos h2]
          exact ⟨rfl, ag_up hmo _⟩
        · rw [if_neg h2, if_neg h2]
          exact ⟨rfl, hmo⟩
      · rw [e, if_neg (show ¬ (5 : Int32) = 1 by decide), if_neg (show ¬ (5 : Int32) = 1 by decide), if_neg (show ¬ (5 : Int32) = 2 by decide), if_neg (show ¬ (5 : Int32) = 2 by decide), if_neg (show ¬ (5 : Int32) = 3 by decide), if_neg (show ¬ (5 : Int32) = 3 by decide), if_neg (show ¬ (5 : Int32) = 4 by decide), if_neg (show ¬ (5 : Int32) = 4 by decide), if_pos rfl, if_pos rfl, hmo 2 (by decide)]
        exact ⟨rfl, ag_up (ag_up hmo _) _⟩
      · rw [e, if_neg (show ¬ (6 : Int32) = 1 by decide), if_neg (show ¬ (6 : Int32) = 1 by decide), if_neg (show ¬ (6 : Int32) = 2 by decide), if_neg (show ¬ (6 : Int32) = 2 by decide), if_neg (show ¬ (6 : Int32) = 3 by decide), if_neg (show ¬ (6 : Int32) = 3 by decide), if_neg (show ¬ (6 : Int32) = 4 by decide), if_neg (show ¬ (6 : Int32) = 4 by decide), if_neg (show ¬ (6 : Int32) = 5 by decide), if_neg (show ¬ (6 : Int32) = 5 by decide), if_pos rfl, if_pos rfl]
        exact ⟨rfl, ag_up hmo _⟩
    obtain ⟨c1, c2⟩ := c
    generalize actF ru hs hm hv mo r = q at c1 c2 ⊢
    generalize actF ru hs hm hv mo' r = q' at c1 c2 ⊢
    unfold sayF1
    rw [← c1, ← c2 0 (by decide)]
    by_cases h0 : q.1 = 0
    · rw [if_pos h0, if_pos h0]
      exact ⟨rfl, ag_up (ag_up c2 _) _⟩
    · rw [if_neg h0, if_neg h0]
      exact ⟨rfl, c2⟩
theorem sayF_sfR_self {nr nw nt : Nat} {ru : Nat → Nat → Int32} {hs hm : Nat → Int32} {hv : Nat → Nat → Int32} (hn : nr ≤ 30) (hRI : RI nr ru nw nt) (hI : HI hs hm) : sfR (sayF nr ru hs hm hv) (sayF nr ru hs hm hv) nt := by
  intro mo mo' w hmo
  obtain ⟨c1, c2⟩ := sayF_self (hv := hv) hn hRI hI mo mo' w hmo
  refine ⟨c1, c2, fun h => ?_⟩
  rcases sayF_rng (hs := hs) (hm := hm) (hv := hv) (mo := mo) (w := w) hRI with ⟨h1, h2⟩ | ⟨r, hr, h1, k, hk, h2⟩ | ⟨f, hf1, hf4, h1, h2⟩
  · exact Or.inl (by rw [h2]; decide)
  · exact Or.inr ⟨k, hk, h2⟩
  · rw [h1] at h
    have : f = 1 ∨ f = 2 ∨ f = 3 ∨ f = 4 := by omega
    rcases this with rfl | rfl | rfl | rfl <;> exact absurd h (by decide)
section
variable {b : Nat} {S V : Nat → Nat → Int32} {Q : Nat → Option Nat} {g : ZH} {nr nw nt p : Nat}
theorem X9_bal {i : Nat} {mo : Nat → Int32} (a1 : S 4 4 = zi nr) (a3 : nr ≤ 30) (b1 : S 5 3 = zi nw) (b3 : nw ≤ 16) (c1 : S 8 3 = zi nt) (c3 : nt ≤ 24) (ri : RI nr (cru S) nw nt) (hI : HI (chs S) (chm S)) (hp : S 69 4 = zi p) (hp60 : p ≤ 60) (hi : i < p) :
    ∃ mo', f_X9_breaksAlikeWithout (Cl b (mS S 70 mo) (mV V 70 mo) Q g) (b + 69) (zi i) = some (b01 (cgo (sayF nr (cru S) (chs S) (chm S) (chv V)) (V 10) (V 72) p (S 69 5) (S 4 5) i = true), Cl b (mS S 70 mo') (mV V 70 mo') Q g) := by
  unfold f_X9_breaksAlikeWithout
  have bg := X4_begin (b := b) (S := mS S 70 mo) (V := mV V 70 mo) (Q := Q) (g := g) (o := 70) (sd := S 4 5) (Or.inr (Or.inr (Or.inr (Or.inr (Or.inr rfl)))))
  rw [amo_m, mS_mS, mV_mV] at bg
  rw [cgR_69_2, Option.bind_some, cgR_69_0, Option.bind_some, cgI_4_5, Option.bind_some, cO_70, show mS S 70 mo 4 5 = S 4 5 from rfl, bg, Option.bind_some, cgI_69_4, Option.bind_some]
  rw [show mS S 70 (bgn mo (S 4 5)) 69 4 = S 69 4 from rfl, hp]
  have c1e : ∀ (last : Nat), last < 60 → cg (sayF nr (cru S) (chs S) (chm S) (chv V)) (V 10) (V 72) i last (S 69 5) (last + 1) 0 (bgn mo (S 4 5)) = cg (sayF nr (cru S) (chs S) (chm S) (chv V)) (V 10) (V 72) i last (S 69 5) (last + 1) 0 (bgn (fun _ => 0) (S 4 5)) := fun last _ => cg_congr c3 (sayF_sfR_self a3 ri hI) (fun _ _ => rfl) (fun _ _ => rfl) _ _ _ _ (by omega) bgn_ag
  unfold f_X9_breaksAlikeWithout_J39 cgo
  rw [show zi p - (1 : Int32) = zi (p - 1) from zi_sub (b := 1) (by omega)]
  by_cases h1 : p = 1
  · subst h1
    have hi0 : i = 0 := by omega
    subst hi0
    rw [if_pos rfl, Option.bind_some, if_pos rfl]
    refine ⟨bgn mo (S 4 5), zz_loop_inr ?_⟩
    show f_X9_breaksAlikeWithout_L42 _ (b + 69) (zi 0) (zi 1 - 2) 0 _ = _
    unfold f_X9_breaksAlikeWithout_L42
    rw [if_pos (by decide)]
    rfl
  · rw [if_neg h1]
    by_cases hl : i = p - 1
    · rw [if_pos (by rw [hl]), Option.bind_some, if_pos hl, show zi p - (2 : Int32) = zi (p - 2) from zi_sub (b := 2) (by omega)]
      obtain ⟨mo', e⟩ := X9_bal_loop (b := b) (Q := Q) (g := g) (h0 := Cl b (mS S 70 mo) (mV V 70 mo) Q g) (gone := i) (last := p - 2) a1 a3 b1 b3 c1 c3 ri hI (by omega) (by omega) (p - 2 + 1) 0 (bgn mo (S 4 5)) (by omega)
      rw [c1e _ (by omega)] at e
      exact ⟨mo', e⟩
    · rw [if_neg (fun q => hl ((zi_eq (by omega) (by omega)).mp q)), Option.bind_some, if_neg hl, show zi p - (1 : Int32) = zi (p - 1) from zi_sub (b := 1) (by omega)]
      obtain ⟨mo', e⟩ := X9_bal_loop (b := b) (Q := Q) (g := g) (h0 := Cl b (mS S 70 mo) (mV V 70 mo) Q g) (gone := i) (last := p - 1) a1 a3 b1 b3 c1 c3 ri hI (by omega) (by omega) (p - 1 + 1) 0 (bgn mo (S 4 5)) (by omega)
      rw [c1e _ (by omega)] at e
      exact ⟨mo', e⟩
theorem X9_first {mo : Nat → Int32} (a1 : S 4 4 = zi nr) (a3 : nr ≤ 30) (b1 : S 5 3 = zi nw) (b3 : nw ≤ 16) (c1 : S 8 3 = zi nt) (c3 : nt ≤ 24) (ri : RI nr (cru S) nw nt) (hI : HI (chs S) (chm S)) (hp : S 69 4 = zi p) (hp60 : p ≤ 60) :
    ∃ mo', f_X9_firstThatCanGo (Cl b (mS S 70 mo) (mV V 70 mo) Q g) (b + 69) = some (if fsr (cgo (sayF nr (cru S) (chs S) (chm S) (chv V)) (V 10) (V 72) p (S 69 5) (S 4 5)) p 0 < p then zi (fsr (cgo (sayF nr (cru S) (chs S) (chm S) (chv V)) (V 10) (V 72) p (S 69 5) (S 4 5)) p 0) else -1, Cl b (mS S 70 mo') (mV V 70 mo') Q g) := by
  unfold f_X9_firstThatCanGo
  have bal := fun (i : Nat) (mo : Nat → Int32) (hi : i < p) => X9_bal (b := b) (V := V) (Q := Q) (g := g) (mo := mo) a1 a3 b1 b3 c1 c3 ri hI hp hp60 hi
  generalize cgo (sayF nr (cru S) (chs S) (chm S) (chv V)) (V 10) (V 72) p (S 69 5) (S 4 5) = cf at bal ⊢
  obtain ⟨g1, g2, g3, g4⟩ := fsr_spec cf p 0
  generalize fsr cf p 0 = k at g1 g2 g3 g4 ⊢
  have key : ∀ (h0 : ZH) (d i : Nat) (mo : Nat → Int32), i ≤ k → k - i = d → ∃ mo', zz_loop (fun st : (Int32 × ZH) => f_X9_firstThatCanGo_L2 h0 (b + 69) (st.1) (st.2)) (zi i, Cl b (mS S 70 mo) (mV V 70 mo) Q g) = some (if k < p then zi k else -1, Cl b (mS S 70 mo') (mV V 70 mo') Q g) := by
    intro h0 d
    induction d with
    | zero =>
      intro i mo h1 h2
      have e : i = k := by omega
      subst e
      by_cases hk : i < p
      · obtain ⟨mo', eb⟩ := bal i mo hk
        refine ⟨mo', zz_loop_inr ?_⟩
        show f_X9_firstThatCanGo_L2 h0 (b + 69) (zi i) _ = _
        unfold f_X9_firstThatCanGo_L2
        rw [cgI_69_4, Option.bind_some, show mS S 70 mo 69 4 = S 69 4 from rfl, hp, if_neg (fun q => absurd ((zi_le (by omega) (by omega)).mp q) (by omega)), cO_69, eb, Option.bind_some, b01_t (g4 (by omega)), if_pos hk]
        show (if (1 : Int32) = 0 then _ else _) = _
        rw [if_neg (by decide)]
        rfl
      · refine ⟨mo, zz_loop_inr ?_⟩
        show f_X9_firstThatCanGo_L2 h0 (b + 69) (zi i) _ = _
        unfold f_X9_firstThatCanGo_L2
        rw [cgI_69_4, Option.bind_some, show mS S 70 mo 69 4 = S 69 4 from rfl, hp, if_pos ((zi_le (by omega) (by omega)).mpr (by omega)), if_neg hk]
        rfl
    | succ d ih =>
      intro i mo h1 h2
      obtain ⟨mo1, eb⟩ := bal i mo (by omega)
      obtain ⟨mo', e⟩ := ih (i + 1) mo1 (by omega) (by omega)
      refine ⟨mo', ?_⟩
      rw [zz_loop_inl (s' := (zi (i + 1), Cl b (mS S 70 mo1) (mV V 70 mo1) Q g)), e]
      show f_X9_firstThatCanGo_L2 h0 (b + 69) (zi i) _ = _
      unfold f_X9_firstThatCanGo_L2
      rw [cgI_69_4, Option.bind_some, show mS S 70 mo 69 4 = S 69 4 from rfl, hp, if_neg (fun q => absurd ((zi_le (by omega) (by omega)).mp q) (by omega)), cO_69, eb, Option.bind_some, b01_f (by rw [g3 i (by omega) (by omega)]; decide)]
      show (if (0 : Int32) = 0 then _ else _) = _
      rw [if_pos rfl, zi_one]
  exact key _ k 0 mo g1 (by omega)
theorem X9_drop {k : Nat} (hp : S 69 4 = zi p) (hp60 : p ≤ 60) (hk : k < p) : f_X9_drop (Cl b S V Q g) (b + 69) (zi k) = some (Cl b (va_up S 69 (va_up (S 69) 4 (zi (p - 1)))) (va_up V 72 (bw (V 72) k (p - 1 - k) (fun j => V 72 (k + 1 + j)))) Q g) := by
  unfold f_X9_drop
  have J : ∀ (h0 : ZH) (V' : Nat → Nat → Int32), f_X9_drop_J47 h0 (b + 69) (zi k) (Cl b S V' Q g) = some (Cl b (va_up S 69 (va_up (S 69) 4 (zi (p - 1)))) V' Q g) := by
    intro h0 V'
    unfold f_X9_drop_J47
    rw [cgI_69_4, Option.bind_some, hp, show zi p - (1 : Int32) = zi (p - 1) from zi_sub (b := 1) (by omega), cp_69_4, Option.bind_some]
  have key := loop_seq (b := fun st : (Int32 × ZH) => f_X9_drop_L2 (Cl b S V Q g) (b + 69) (zi k) (st.1) (st.2)) (p - 1 - k) (fun j => (zi (k + j), Cl b S (va_up V 72 (bw (V 72) k j (fun j => V 72 (k + 1 + j)))) Q g)) (Cl b (va_up S 69 (va_up (S 69) 4 (zi (p - 1)))) (va_up V 72 (bw (V 72) k (p - 1 - k) (fun j => V 72 (k + 1 + j)))) Q g) (fun j hj => by
      show f_X9_drop_L2 (Cl b S V Q g) (b + 69) (zi k) (zi (k + j)) _ = _
      unfold f_X9_drop_L2
      rw [if_neg (zi_neg (by omega)), cgI_69_4, Option.bind_some, hp, show zi p - (1 : Int32) = zi (p - 1) from zi_sub (b := 1) (by omega), if_neg (fun q => absurd ((zi_le (by omega) (by omega)).mp q) (by omega)), cgR_69_3, Option.bind_some, cN_72, Option.bind_some, show zi 60 - (1 : Int32) = zi 59 from rfl, if_neg (fun q => absurd ((zi_le (by decide) (by omega)).mp q) (by omega)), Option.bind_some, Option.bind_some, zi_one, cl_72 (by omega), Option.bind_some, cs_72 _ (by omega), Option.bind_some, up_up, up_self]
      rw [bw_out (k := k + j + 1) (by omega)]
      have e := bw_up (V 72) k j (fun j => V 72 (k + 1 + j))
      rw [show k + j + 1 = k + 1 + j by omega]
      rw [e]
      rw [show k + 1 + j = k + (j + 1) by omega]) (by
      show f_X9_drop_L2 (Cl b S V Q g) (b + 69) (zi k) (zi (k + (p - 1 - k))) _ = _
      unfold f_X9_drop_L2
      rw [if_neg (zi_neg (by omega)), cgI_69_4, Option.bind_some, hp, show zi p - (1 : Int32) = zi (p - 1) from zi_sub (b := 1) (by omega), if_pos ((zi_le (by omega) (by omega)).mpr (by omega)), J]
      rfl)
  rw [Nat.add_zero, bw_0, up_id] at key
  exact key
end
