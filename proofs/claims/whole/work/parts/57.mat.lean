/-! ===== a pattern against a text ===== -/
theorem wp_none {M : Nat → Int32} {fu k s : Nat} (h : wp M fu k s = none) (h10 : M k ≠ 10) : ∃ f', fu = f' + 1 ∧ ¬ (s = 1 ∧ M k = 93) ∧ wp M f' (k + 1) (if s = 3 then 0 else if s = 1 then 2 else if s = 2 then (if M k = 93 then 0 else 2) else if M k = 91 then 1 else if M k = 92 then 3 else 0) = none := by
  cases fu with
  | zero => cases h
  | succ f =>
    rw [wp_succ, if_neg h10] at h
    by_cases q : ¬ sgn (M k) ∨ (s = 1 ∧ M k = 93)
    · rw [if_pos q] at h
      cases h
    · rw [if_neg q] at h
      exact ⟨f, rfl, fun r => q (Or.inr r), h⟩
theorem wp_10 {M : Nat → Int32} {fu k s : Nat} (h : wp M fu k s = none) (h10 : M k = 10) : s = 0 := by
  cases fu with
  | zero => cases h
  | succ f =>
    rw [wp_succ, if_pos h10] at h
    by_cases q : s = 0
    · exact q
    · rw [if_neg q] at h
      cases h
theorem wp_cl {M : Nat → Int32} : ∀ (fu k : Nat), wp M fu k 2 = none → ∃ n f', k ≤ n ∧ M n = 93 ∧ (∀ i, k ≤ i → i < n → M i ≠ 93 ∧ M i ≠ 10) ∧ wp M f' (n + 1) 0 = none
  | 0, k, h => by cases h
  | fu + 1, k, h => by
    by_cases h10 : M k = 10
    · exact absurd (wp_10 h h10) (by decide)
    · obtain ⟨f', e, -, hn⟩ := wp_none h h10
      have e : f' = fu := by omega
      subst e
      rw [if_neg (by decide), if_neg (by decide), if_pos rfl] at hn
      by_cases h93 : M k = 93
      · rw [if_pos h93] at hn
        exact ⟨k, f', Nat.le_refl _, h93, fun i h1 h2 => by omega, hn⟩
      · rw [if_neg h93] at hn
        obtain ⟨n, f2, h1, h2, h3, h4⟩ := wp_cl f' (k + 1) hn
        refine ⟨n, f2, by omega, h2, fun i h5 h6 => ?_, h4⟩
        by_cases q : i = k
        · rw [q]
          exact ⟨h93, h10⟩
        · exact h3 i (by omega) h6
/-- a part of a pattern, from k to nx -/
def Prt (M : Nat → Int32) (k nx : Nat) : Prop := (M k = 92 ∧ nx = k + 2) ∨ (M k = 91 ∧ k + 1 < nx ∧ M (nx - 1) = 93 ∧ ∀ i, k + 1 ≤ i → i < nx - 1 → M i ≠ 93) ∨ (M k ≠ 92 ∧ M k ≠ 91 ∧ nx = k + 1)
theorem wp_step {M : Nat → Int32} {fu k : Nat} (h : wp M fu k 0 = none) (h10 : M k ≠ 10) : ∃ nx f', k < nx ∧ (∀ i, k ≤ i → i < nx → M i ≠ 10) ∧ Prt M k nx ∧ wp M f' nx 0 = none := by
  obtain ⟨f1, -, -, h1⟩ := wp_none h h10
  rw [if_neg (by decide), if_neg (by decide), if_neg (by decide)] at h1
  by_cases c91 : M k = 91
  · rw [if_pos c91] at h1
    have n10 : M (k + 1) ≠ 10 := fun q => absurd (wp_10 h1 q) (by decide)
    obtain ⟨f2, -, n93, h2⟩ := wp_none h1 n10
    rw [if_neg (by decide), if_pos rfl] at h2
    obtain ⟨n, f3, g1, g2, g3, g4⟩ := wp_cl f2 (k + 1 + 1) h2
    refine ⟨n + 1, f3, by omega, fun i h1 h2 => ?_, Or.inr (Or.inl ⟨c91, by omega, g2, fun i h1 h2 => ?_⟩), g4⟩
    · by_cases q : i = k
      · rw [q]
        exact h10
      · by_cases q2 : i = k + 1
        · rw [q2]
          exact n10
        · by_cases q3 : i = n
          · rw [q3, g2]
            decide
          · exact (g3 i (by omega) (by omega)).2
    · by_cases q2 : i = k + 1
      · rw [q2]
        exact fun q => n93 ⟨rfl, q⟩
      · exact (g3 i (by omega) (by omega)).1
  · rw [if_neg c91] at h1
    by_cases c92 : M k = 92
    · rw [if_pos c92] at h1
      have n10 : M (k + 1) ≠ 10 := fun q => absurd (wp_10 h1 q) (by decide)
      obtain ⟨f2, -, -, h2⟩ := wp_none h1 n10
      rw [if_pos rfl] at h2
      refine ⟨k + 2, f2, by omega, fun i h1 h2 => ?_, Or.inl ⟨c92, rfl⟩, h2⟩
      by_cases q : i = k
      · rw [q]
        exact h10
      · rw [show i = k + 1 by omega]
        exact n10
    · rw [if_neg c92] at h1
      exact ⟨k + 1, f1, by omega, fun i h2 h3 => by rw [show i = k by omega]; exact h10, Or.inr (Or.inr ⟨c92, c91, rfl⟩), h1⟩
theorem bt_lt {f : Nat → Int32} {L i : Nat} (h : i < L) : bt f L i = mby f L i := by
  unfold bt mby
  rw [if_pos h, if_pos h]
/-- a part takes a sign -/
def tk (M : Nat → Int32) (k nx : Nat) (c : Int32) : Bool := if M k = 46 then true else if M k = 92 then decide (M (k + 1) = c) else if M k = 91 then decide (fsr (fun j => decide (M j = c)) (nx - 1 - (k + 1)) (k + 1) < nx - 1) else decide (M k = c)
theorem Prt.p92 {M : Nat → Int32} {k nx : Nat} (hp : Prt M k nx) (c92 : M k = 92) : nx = k + 2 := by
  rcases hp with ⟨_, e⟩ | ⟨q, _⟩ | ⟨q, _⟩
  · exact e
  · rw [c92] at q
    exact absurd q (by decide)
  · exact absurd c92 q
theorem Prt.p91 {M : Nat → Int32} {k nx : Nat} (hp : Prt M k nx) (c91 : M k = 91) : k + 1 < nx := by
  rcases hp with ⟨q, _⟩ | ⟨_, e, _⟩ | ⟨_, q, _⟩
  · rw [c91] at q
    exact absurd q (by decide)
  · exact e
  · exact absurd c91 q
section
variable {h : ZH} {a L : Nat} {f : Nat → Int32} {k nx : Nat}
theorem X5_partEnd {e : Nat} (hB : Byt h a L f) (hp : Prt (mby f L) k nx) (hk : k < nx) (hn : nx ≤ e) (he : e ≤ L) : f_X5_partEnd h a (zi k) (zi e) = some (zi nx) := by
  have h6 := hB.le
  unfold f_X5_partEnd
  rw [hB.isO, X0_at hB (by omega), Option.bind_some, bt_lt (show k < L by omega), show zi k + (2 : Int32) = zi (k + 2) from zi_add k 2, zi_one]
  rcases hp with ⟨c, rfl⟩ | ⟨c, h1, h2, h3⟩ | ⟨c1, c2, rfl⟩
  · rw [if_pos c]
  · rw [if_neg (by rw [c]; decide), if_pos c, zz_let]
    have key := loop_to (b := fun st : Int32 => f_X5_partEnd_L31 h a (zi k) (zi e) st) (fun i => zi i) (k + 1) (nx - 1) (by omega) ?_
    · rw [show zz_loop (fun st : Int32 => f_X5_partEnd_L31 h a (zi k) (zi e) st) (zi (k + 1)) = zz_loop (fun st : Int32 => f_X5_partEnd_L31 h a (zi k) (zi e) st) (zi (nx - 1)) from key]
      refine zz_loop_map ?_
      unfold f_X5_partEnd_L31 f_X5_partEnd_J54
      rw [if_neg (fun q => absurd ((zi_le (by omega) (by omega)).mp q) (by omega)), hB.isO, X0_at hB (by omega), Option.bind_some, bt_lt (show nx - 1 < L by omega), if_pos h2, zi_one, show nx - 1 + 1 = nx by omega]
    · intro i g1 g2
      show f_X5_partEnd_L31 h a (zi k) (zi e) (zi i) = _
      unfold f_X5_partEnd_L31
      rw [if_neg (fun q => absurd ((zi_le (by omega) (by omega)).mp q) (by omega)), hB.isO, X0_at hB (by omega), Option.bind_some, bt_lt (show i < L by omega), if_neg (h3 i g1 g2), zi_one]
  · rw [if_neg c1, if_neg c2]
theorem X5_takes {c : Int32} (hB : Byt h a L f) (hp : Prt (mby f L) k nx) (hk : k < nx) (hn : nx ≤ L) : f_X5_takes h a (zi k) (zi nx) c = some (b01 (tk (mby f L) k nx c = true)) := by
  have h6 := hB.le
  unfold f_X5_takes tk
  rw [hB.isO, X0_at hB (by omega), Option.bind_some, bt_lt (show k < L by omega), zi_one]
  by_cases c46 : mby f L k = 46
  · rw [if_pos c46, if_pos c46, b01_t rfl]
  rw [if_neg c46, if_neg c46]
  by_cases c92 : mby f L k = 92
  · have hnx := hp.p92 c92
    rw [if_pos c92, if_pos c92, hB.isO, X0_at hB (by omega), Option.bind_some, bt_lt (show k + 1 < L by omega)]
    by_cases e : mby f L (k + 1) = c
    · rw [if_pos e, b01_t (by rw [decide_eq_true_eq]; exact e)]
    · rw [if_neg e, b01_f (by rw [decide_eq_true_eq]; exact e)]
  rw [if_neg c92, if_neg c92]
  by_cases c91 : mby f L k = 91
  · have hlt := hp.p91 c91
    rw [if_pos c91, if_pos c91, zz_let]
    obtain ⟨g1, g2, g3, g4⟩ := fsr_spec (fun j => decide (mby f L j = c)) (nx - 1 - (k + 1)) (k + 1)
    generalize fsr (fun j => decide (mby f L j = c)) (nx - 1 - (k + 1)) (k + 1) = i at g1 g2 g3 g4
    have key := loop_to (b := fun st : Int32 => f_X5_takes_L64 h a (zi k) (zi nx) c st) (fun i => zi i) (k + 1) i g1 ?_
    · rw [show zz_loop (fun st : Int32 => f_X5_takes_L64 h a (zi k) (zi nx) c st) (zi (k + 1)) = zz_loop (fun st : Int32 => f_X5_takes_L64 h a (zi k) (zi nx) c st) (zi i) from key]
      refine zz_loop_map ?_
      unfold f_X5_takes_L64
      rw [show zi nx - (1 : Int32) = zi (nx - 1) from zi_sub (b := 1) (by omega)]
      by_cases hi : i < nx - 1
      · have := g4 (by omega)
        rw [decide_eq_true_eq] at this
        rw [if_neg (fun q => absurd ((zi_le (by omega) (by omega)).mp q) (by omega)), hB.isO, X0_at hB (by omega), Option.bind_some, bt_lt (show i < L by omega), if_pos this, b01_t (by rw [decide_eq_true_eq]; exact hi)]
      · rw [if_pos ((zi_le (by omega) (by omega)).mpr (by omega)), b01_f (by rw [decide_eq_true_eq]; exact hi)]
    · intro j q1 q2
      have := g3 j q1 q2
      rw [decide_eq_false_iff_not] at this
      show f_X5_takes_L64 h a (zi k) (zi nx) c (zi j) = _
      unfold f_X5_takes_L64
      rw [show zi nx - (1 : Int32) = zi (nx - 1) from zi_sub (b := 1) (by omega), if_neg (fun q => absurd ((zi_le (by omega) (by omega)).mp q) (by omega)), hB.isO, X0_at hB (by omega), Option.bind_some, bt_lt (show j < L by omega), if_neg this, zi_one]
  rw [if_neg c91, if_neg c91]
  by_cases e : mby f L k = c
  · rw [if_pos e, b01_t (by rw [decide_eq_true_eq]; exact e)]
  · rw [if_neg e, b01_f (by rw [decide_eq_true_eq]; exact e)]
/-- what is reached one sign further -/
abbrev fur (M : Nat → Int32) (k nx : Nat) (x : Int32) (sg : Nat → Int32) (n i : Nat) : Prop := 1 ≤ i ∧ i ≤ n ∧ tb x (i - 1) = true ∧ tk M k nx (sg (i - 1)) = true
theorem X5_further {st : Nat} {tx x : Int32} {sg : Nat → Int32} {fs : List Value} (hB : Byt h a L f) (hp : Prt (mby f L) k nx) (hk : k < nx) (hn : nx ≤ L) (hO : h st = some (.inr (8, fs))) (hs : ∀ j, j < 20 → f_X10_textSign h st tx (zi j) = some (sg j)) : ∃ r, f_X5_oneSignFurther h a (zi k) (zi nx) st tx x = some r ∧ ∀ i, i < 32 → tb r i = decide (fur (mby f L) k nx x sg 20 i) := by
  unfold f_X5_oneSignFurther
  refine zz_loop_tot (fun s => ∃ j, j ≤ 20 ∧ s.2 = zi j ∧ ∀ i, i < 32 → tb s.1 i = decide (fur (mby f L) k nx x sg j i)) (fun s => 20 - s.2.toNatClampNeg) _ ?_ _ ⟨0, by omega, rfl, fun i hi => by
    rw [tb_0, eq_comm, decide_eq_false_iff_not]
    rintro ⟨q1, q2, -⟩
    omega⟩
  rintro ⟨acc, y⟩ ⟨j, hj, hy, hI⟩
  have hy : y = zi j := hy
  subst hy
  have hI : ∀ i, i < 32 → tb acc i = decide (fur (mby f L) k nx x sg j i) := hI
  by_cases h20 : j = 20
  · subst h20
    refine Or.inr ⟨acc, ?_, hI⟩
    show f_X5_oneSignFurther_L6 h a (zi k) (zi nx) st tx x acc (zi 20) = _
    unfold f_X5_oneSignFurther_L6
    rw [if_pos (show (20 : Int32) ≤ zi 20 by decide)]
    rfl
  · refine Or.inl ?_
    have hm : 20 - (zi (j + 1)).toNatClampNeg < 20 - (zi j).toNatClampNeg := by
      rw [zi_nat (by omega), zi_nat (by omega)]
      omega
    have hst : f_X5_oneSignFurther_L6 h a (zi k) (zi nx) st tx x acc (zi j) = some (.inl (if tb x j = true ∧ tk (mby f L) k nx (sg j) = true then acc ||| ((1 : Int32) <<< (zi (j + 1) &&& 31)) else acc, zi (j + 1))) := by
      unfold f_X5_oneSignFurther_L6
      rw [if_neg (fun q => absurd ((zi_Lle (by omega) (by decide)).mp q) (by omega)), tb_shr (by omega), zi_one]
      by_cases hx : tb x j = true
      · rw [if_pos hx, if_neg (by decide), zz_isO_of hO, hs j (by omega), Option.bind_some, X5_takes hB hp hk hn, Option.bind_some]
        by_cases ht : tk (mby f L) k nx (sg j) = true
        · rw [if_neg (fun q => b01_0.mp q ht), if_pos ⟨hx, ht⟩]
          rfl
        · rw [if_pos (b01_f ht), if_neg (fun q => ht q.2)]
      · rw [if_neg hx, if_pos rfl, if_neg (fun q => hx q.1)]
    refine ⟨_, hst, ⟨j + 1, by omega, rfl, fun i hi => ?_⟩, hm⟩
    show tb (if tb x j = true ∧ tk (mby f L) k nx (sg j) = true then acc ||| ((1 : Int32) <<< (zi (j + 1) &&& 31)) else acc) i = _
    by_cases hc : tb x j = true ∧ tk (mby f L) k nx (sg j) = true
    · rw [if_pos hc, tb_or (by omega) hi, hI i hi]
      by_cases e : i = j + 1
      · subst e
        rw [decide_eq_true rfl, Bool.or_true, eq_comm, decide_eq_true_eq]
        exact ⟨by omega, by omega, hc.1, hc.2⟩
      · rw [decide_eq_false e, Bool.or_false]
        refine decide_eq_decide.mpr ⟨fun q => ⟨q.1, by have := q.2.1; omega, q.2.2⟩, fun q => ⟨q.1, by have := q.2.1; omega, q.2.2⟩⟩
    · rw [if_neg hc, hI i hi]
      refine decide_eq_decide.mpr ⟨fun q => ⟨q.1, by have := q.2.1; omega, q.2.2⟩, fun q => ⟨q.1, ?_, q.2.2⟩⟩
      by_cases e : i = j + 1
      · subst e
        exact absurd q.2.2 hc
      · have := q.2.1
        omega
end
/-- the set behind a part -/
def nst (M : Nat → Int32) (k nx : Nat) (sg : Nat → Int32) (n : Nat) (x : Int32) (i : Nat) : Bool := if M k = 42 then decide (i ≤ n ∧ ∃ j, j ≤ i ∧ tb x j = true) else decide (fur M k nx x sg n i)
section
variable {m : Nat} {S : Nat → Int32} {V : Nat → Nat → Int32} {g h : ZH} {B L k nx n : Nat} {M sg : Nat → Int32} {a1 a2 a3 x : Int32}
theorem X12_m214 {acc c s : Int32} {j : Nat} (h31 : ∀ j, j < L → V 31 (B + j) = M j) (hBL : B + L ≤ 6000) (hk : k < nx) (hn : nx ≤ L) (h91 : M k = 91 → k + 1 < nx) :
    f_X12_matches_J214 (Rm m S V g) m a1 a2 a3 (zi n) x (zi (B + k)) (M k) (zi (B + nx)) acc (zi j) c s = f_X12_matches_J268 (Rm m S V g) m a1 a2 a3 (zi n) x (zi (B + k)) (M k) (zi (B + nx)) acc (zi j) (if M k = 91 then (if s = 0 then b01 (fsr (fun j => decide (M j = c)) (nx - 1 - (k + 1)) (k + 1) < nx - 1) else if nx - 1 ≤ k + 1 then s else 1) else s) := by
  unfold f_X12_matches_J214
  rw [zz_let, zi_one]
  by_cases c91 : M k = 91
  · have hlt := h91 c91
    rw [if_pos c91]
    have rd : ∀ (i : Nat) (s : Int32), k + 1 ≤ i → i < nx - 1 → f_X12_matches_L222 (Rm m S V g) m a1 a2 a3 (zi n) x (zi (B + k)) (M k) (zi (B + nx)) acc (zi j) c s (zi (B + i)) = some (.inl (if s = 0 then (if M i = c then 1 else 0) else 1, zi (B + (i + 1)))) := by
      intro i s q1 q2
      unfold f_X12_matches_L222 f_X12_matches_J255 f_X12_matches_J260
      rw [if_pos c91, show zi (B + nx) - (1 : Int32) = zi (B + nx - 1) from zi_sub (b := 1) (by omega), if_neg (fun q => absurd ((zi_le (by omega) (by omega)).mp q) (by omega)), zi_one]
      by_cases hs : s = 0
      · rw [if_pos hs, if_pos hs, rgR_31, Option.bind_some, rl_31 (by omega), Option.bind_some, h31 i (by omega)]
        by_cases e : M i = c
        · rw [if_pos e, if_pos e]
          rfl
        · rw [if_neg e, if_neg e]
          rfl
      · rw [if_neg hs, if_neg hs]
        rfl
    have fin : ∀ (s : Int32), f_X12_matches_L222 (Rm m S V g) m a1 a2 a3 (zi n) x (zi (B + k)) (M k) (zi (B + nx)) acc (zi j) c s (zi (B + (nx - 1))) = (f_X12_matches_J268 (Rm m S V g) m a1 a2 a3 (zi n) x (zi (B + k)) (M k) (zi (B + nx)) acc (zi j) s).map Sum.inr := by
      intro s
      unfold f_X12_matches_L222
      rw [if_pos c91, show zi (B + nx) - (1 : Int32) = zi (B + nx - 1) from zi_sub (b := 1) (by omega), if_pos ((zi_le (by omega) (by omega)).mpr (by omega))]
    have one : ∀ i, k + 1 ≤ i → i ≤ nx - 1 → zz_loop (fun st : (Int32 × Int32) => f_X12_matches_L222 (Rm m S V g) m a1 a2 a3 (zi n) x (zi (B + k)) (M k) (zi (B + nx)) acc (zi j) c (st.1) (st.2)) (1, zi (B + i)) = f_X12_matches_J268 (Rm m S V g) m a1 a2 a3 (zi n) x (zi (B + k)) (M k) (zi (B + nx)) acc (zi j) 1 := by
      intro i q1 q2
      have key := loop_to (b := fun st : (Int32 × Int32) => f_X12_matches_L222 (Rm m S V g) m a1 a2 a3 (zi n) x (zi (B + k)) (M k) (zi (B + nx)) acc (zi j) c (st.1) (st.2)) (fun i => (1, zi (B + i))) i (nx - 1) q2 (fun p r1 r2 => by
        show f_X12_matches_L222 _ _ _ _ _ _ _ _ _ _ _ _ _ 1 (zi (B + p)) = _
        rw [rd p 1 (by omega) r2, if_neg (by decide)])
      rw [show ((1 : Int32), zi (B + i)) = (fun i => (1, zi (B + i))) i from rfl, key]
      exact zz_loop_map (fin 1)
    by_cases hs : s = 0
    · subst hs
      rw [if_pos rfl]
      obtain ⟨g1, g2, g3, g4⟩ := fsr_spec (fun j => decide (M j = c)) (nx - 1 - (k + 1)) (k + 1)
      generalize fsr (fun j => decide (M j = c)) (nx - 1 - (k + 1)) (k + 1) = i at g1 g2 g3 g4
      have key := loop_to (b := fun st : (Int32 × Int32) => f_X12_matches_L222 (Rm m S V g) m a1 a2 a3 (zi n) x (zi (B + k)) (M k) (zi (B + nx)) acc (zi j) c (st.1) (st.2)) (fun i => (0, zi (B + i))) (k + 1) i g1 (fun p r1 r2 => by
        have := g3 p r1 r2
        rw [decide_eq_false_iff_not] at this
        show f_X12_matches_L222 _ _ _ _ _ _ _ _ _ _ _ _ _ 0 (zi (B + p)) = _
        rw [rd p 0 (by omega) (by omega), if_pos rfl, if_neg this])
      rw [show ((0 : Int32), zi (B + k + 1)) = (fun i => (0, zi (B + i))) (k + 1) from rfl, key]
      by_cases hi : i < nx - 1
      · have := g4 (by omega)
        rw [decide_eq_true_eq] at this
        rw [b01_t hi, zz_loop_inl (s' := (1, zi (B + (i + 1))))]
        · exact one (i + 1) (by omega) (by omega)
        · show f_X12_matches_L222 _ _ _ _ _ _ _ _ _ _ _ _ _ 0 (zi (B + i)) = _
          rw [rd i 0 (by omega) (by omega), if_pos rfl, if_pos this]
      · rw [b01_f hi, show i = nx - 1 by omega]
        exact zz_loop_map (fin 0)
    · rw [if_neg hs]
      by_cases hz : nx - 1 ≤ k + 1
      · rw [if_pos hz, show B + k + 1 = B + (nx - 1) by omega]
        exact zz_loop_map (fin s)
      · rw [if_neg hz, zz_loop_inl (s' := (1, zi (B + (k + 1 + 1))))]
        · exact one (k + 1 + 1) (by omega) (by omega)
        · show f_X12_matches_L222 _ _ _ _ _ _ _ _ _ _ _ _ _ s (zi (B + (k + 1))) = _
          rw [rd (k + 1) s (by omega) (by omega), if_neg hs]
  · rw [if_neg c91]
    refine zz_loop_map ?_
    show f_X12_matches_L222 _ _ _ _ _ _ _ _ _ _ _ _ _ s (zi (B + k + 1)) = _
    unfold f_X12_matches_L222
    rw [if_neg c91]
end
