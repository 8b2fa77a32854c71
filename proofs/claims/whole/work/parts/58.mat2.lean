/-! ===== the reference's matching ===== -/
section
variable {m : Nat} {S : Nat → Int32} {V : Nat → Nat → Int32} {g h : ZH} {B L k nx n : Nat} {M sg : Nat → Int32} {a1 a2 a3 x : Int32}
theorem X12_m268 {acc y7 y8 y6 : Int32} {j : Nat} (P : Prop) [Decidable P] : f_X12_matches_J268 (Rm m S V g) m a1 a2 a3 (zi n) x y6 y7 y8 acc (zi j) (b01 P) = some (.inl (if P then acc ||| ((1 : Int32) <<< (zi (j + 1) &&& 31)) else acc, zi (j + 1))) := by
  unfold f_X12_matches_J268 f_X12_matches_J285
  rw [zi_one]
  by_cases hP : P
  · rw [if_neg (fun q => b01_0.mp q hP), if_pos hP]
    rfl
  · rw [if_pos (b01_f hP), if_neg hP, zz_let, Int32.or_zero]
theorem X12_m104 {acc : Int32} {j : Nat} (h31 : ∀ j, j < L → V 31 (B + j) = M j) (hBL : B + L ≤ 6000) (hp : Prt M k nx) (hk : k < nx) (hn : nx ≤ L) (hj : j < n) (hn20 : n ≤ 20) (hsg : f_X12_signOf (Rm m S V g) m a3 (zi j) = some (sg j)) (h42 : M k ≠ 42) :
    f_X12_matches_J104 (Rm m S V g) m a1 a2 a3 (zi n) x (zi (B + k)) (M k) (zi (B + nx)) acc (zi j) 1 = some (.inl (if tk M k nx (sg j) = true then acc ||| ((1 : Int32) <<< (zi (j + 1) &&& 31)) else acc, zi (j + 1))) := by
  have J1 : ∀ P : Prop, [Decidable P] → P → f_X12_matches_J268 (Rm m S V g) m a1 a2 a3 (zi n) x (zi (B + k)) (M k) (zi (B + nx)) acc (zi j) 1 = some (.inl (if P then acc ||| ((1 : Int32) <<< (zi (j + 1) &&& 31)) else acc, zi (j + 1))) := by
    intro P _ hP
    rw [← X12_m268 P, b01_t hP]
  have J0 : ∀ P : Prop, [Decidable P] → ¬ P → f_X12_matches_J268 (Rm m S V g) m a1 a2 a3 (zi n) x (zi (B + k)) (M k) (zi (B + nx)) acc (zi j) 0 = some (.inl (if P then acc ||| ((1 : Int32) <<< (zi (j + 1) &&& 31)) else acc, zi (j + 1))) := by
    intro P _ hP
    rw [← X12_m268 P, b01_f hP]
  have hm := fun s => X12_m214 (m := m) (S := S) (g := g) (n := n) (a1 := a1) (a2 := a2) (a3 := a3) (x := x) (acc := acc) (c := sg j) (s := s) (j := j) h31 hBL hk hn hp.p91
  unfold f_X12_matches_J104
  rw [if_neg h42, if_neg (by decide), if_neg (fun q => absurd ((zi_le (by omega) (by omega)).mp q) (by omega)), rO, hsg, Option.bind_some]
  by_cases c46 : M k = 46
  · have n91 : M k ≠ 91 := by
      rw [c46]
      decide
    rw [if_pos c46]
    unfold f_X12_matches_J209
    rw [hm 1, if_neg n91]
    refine J1 _ ?_
    unfold tk
    rw [if_pos c46]
  rw [if_neg c46]
  by_cases c92 : M k = 92
  · have n91 : M k ≠ 91 := by
      rw [c92]
      decide
    have hnx := hp.p92 c92
    rw [if_pos c92, rgR_31, Option.bind_some, zi_one, rl_31 (by omega), Option.bind_some, show B + k + 1 = B + (k + 1) by omega, h31 (k + 1) (by omega)]
    have et : tk M k nx (sg j) = decide (M (k + 1) = sg j) := by
      unfold tk
      rw [if_neg c46, if_pos c92]
    by_cases e : M (k + 1) = sg j
    · rw [if_pos e]
      unfold f_X12_matches_J209
      rw [hm 1, if_neg n91]
      refine J1 _ ?_
      rw [et, decide_eq_true_eq]
      exact e
    · rw [if_neg e]
      unfold f_X12_matches_J188 f_X12_matches_J213
      rw [if_pos c92, hm 0, if_neg n91]
      refine J0 _ ?_
      rw [et, decide_eq_true_eq]
      exact e
  rw [if_neg c92]
  unfold f_X12_matches_J188
  rw [if_neg c92]
  by_cases c91 : M k = 91
  · rw [if_pos c91]
    unfold f_X12_matches_J213
    rw [hm 0, if_pos c91, if_pos rfl]
    have et : (tk M k nx (sg j) = true) = (fsr (fun i => decide (M i = sg j)) (nx - 1 - (k + 1)) (k + 1) < nx - 1) := by
      unfold tk
      rw [if_neg c46, if_neg c92, if_pos c91, decide_eq_true_eq]
    by_cases e : fsr (fun i => decide (M i = sg j)) (nx - 1 - (k + 1)) (k + 1) < nx - 1
    · rw [b01_t e]
      refine J1 _ ?_
      rw [et]
      exact e
    · rw [b01_f e]
      refine J0 _ ?_
      rw [et]
      exact e
  rw [if_neg c91]
  have et : tk M k nx (sg j) = decide (M k = sg j) := by
    unfold tk
    rw [if_neg c46, if_neg c92, if_neg c91]
  by_cases e : M k = sg j
  · rw [if_pos e]
    unfold f_X12_matches_J209
    rw [hm 1, if_neg c91]
    refine J1 _ ?_
    rw [et, decide_eq_true_eq]
    exact e
  · rw [if_neg e]
    unfold f_X12_matches_J213
    rw [hm 0, if_neg c91]
    refine J0 _ ?_
    rw [et, decide_eq_true_eq]
    exact e
theorem X12_mstar {acc : Int32} {j : Nat} {y6 y8 : Int32} (hj : j < 32) (hI : ∀ i, i < 32 → tb acc i = decide (i < j ∧ ∃ p, p ≤ i ∧ tb x p = true)) : ∃ r, f_X12_matches_J104 (Rm m S V g) m a1 a2 a3 (zi n) x y6 42 y8 acc (zi j) (if tb x j = true then 1 else 0) = some (.inl (r, zi (j + 1))) ∧ ∀ i, i < 32 → tb r i = decide (i < j + 1 ∧ ∃ p, p ≤ i ∧ tb x p = true) := by
  have yes : (∃ p, p ≤ j ∧ tb x p = true) → ∀ i, i < 32 → tb (acc ||| ((1 : Int32) <<< (zi j &&& 31))) i = decide (i < j + 1 ∧ ∃ p, p ≤ i ∧ tb x p = true) := by
    intro hp i hi
    rw [tb_or hj hi, hI i hi]
    by_cases e : i = j
    · subst e
      rw [decide_eq_true rfl, Bool.or_true, eq_comm, decide_eq_true_eq]
      exact ⟨by omega, hp⟩
    · rw [decide_eq_false e, Bool.or_false]
      exact decide_eq_decide.mpr ⟨fun q => ⟨by have := q.1; omega, q.2⟩, fun q => ⟨by have := q.1; omega, q.2⟩⟩
  unfold f_X12_matches_J104 f_X12_matches_J125 f_X12_matches_J133
  rw [if_pos rfl, zi_one]
  by_cases hx : tb x j = true
  · rw [if_pos hx, if_neg (show ¬ (1 : Int32) = 0 by decide)]
    exact ⟨_, rfl, yes ⟨j, Nat.le_refl _, hx⟩⟩
  · rw [if_neg hx, if_pos rfl]
    by_cases h0 : acc = 0
    · rw [if_pos h0, zz_let, Int32.or_zero]
      refine ⟨_, rfl, fun i hi => ?_⟩
      rw [hI i hi]
      refine decide_eq_decide.mpr ⟨fun q => ⟨by have := q.1; omega, q.2⟩, fun q => ⟨?_, q.2⟩⟩
      obtain ⟨q1, p, q2, q3⟩ := q
      by_cases e : i = j
      · subst e
        by_cases e2 : p = i
        · subst e2
          exact absurd q3 hx
        · have := (tb_ne.mp h0) p (by omega)
          rw [hI p (by omega), decide_eq_false_iff_not] at this
          exact absurd ⟨by omega, p, Nat.le_refl _, q3⟩ this
      · omega
    · rw [if_neg h0]
      refine ⟨_, rfl, yes ?_⟩
      by_cases q : ∃ p, p ≤ j ∧ tb x p = true
      · exact q
      · refine absurd (tb_ne.mpr fun i hi => ?_) h0
        rw [hI i hi, decide_eq_false_iff_not]
        rintro ⟨r1, p, r2, r3⟩
        exact q ⟨p, by omega, r3⟩
theorem X12_m75 (h31 : ∀ j, j < L → V 31 (B + j) = M j) (hBL : B + L ≤ 6000) (hp : Prt M k nx) (hk : k < nx) (hn : nx ≤ L) (hn20 : n ≤ 20) (hsg : ∀ j, j < n → f_X12_signOf (Rm m S V g) m a3 (zi j) = some (sg j)) :
    ∃ r, f_X12_matches_J75 (Rm m S V g) m a1 a2 a3 (zi n) x (zi (B + k)) (M k) (zi (B + nx)) = some (.inl (r, zi (B + nx))) ∧ ∀ i, i < 32 → tb r i = nst M k nx sg n x i := by
  unfold f_X12_matches_J75
  have fin : ∀ acc, f_X12_matches_L81 (Rm m S V g) m a1 a2 a3 (zi n) x (zi (B + k)) (M k) (zi (B + nx)) acc (zi (n + 1)) = some (.inr (.inl (acc, zi (B + nx)))) := by
    intro acc
    unfold f_X12_matches_L81
    rw [if_pos ((zi_lt (by omega) (by omega)).mpr (by omega))]
    rfl
  have stp : ∀ acc j, j ≤ n → f_X12_matches_L81 (Rm m S V g) m a1 a2 a3 (zi n) x (zi (B + k)) (M k) (zi (B + nx)) acc (zi j) = f_X12_matches_J104 (Rm m S V g) m a1 a2 a3 (zi n) x (zi (B + k)) (M k) (zi (B + nx)) acc (zi j) (if tb x j = true then 1 else 0) := by
    intro acc j hj
    unfold f_X12_matches_L81
    rw [if_neg (fun q => absurd ((zi_lt (by omega) (by omega)).mp q) (by omega)), tb_shr (by omega)]
    by_cases hx : tb x j = true
    · rw [if_pos hx, if_pos rfl]
    · rw [if_neg hx, if_neg (by decide)]
  have hms : ∀ j, j ≤ n → n + 1 - (zi (j + 1)).toNatClampNeg < n + 1 - (zi j).toNatClampNeg := by
    intro j hj
    rw [zi_nat (by omega), zi_nat (by omega)]
    omega
  by_cases c42 : M k = 42
  · have hq : ∀ i, nst M k nx sg n x i = decide (i ≤ n ∧ ∃ j, j ≤ i ∧ tb x j = true) := fun i => by
      unfold nst
      rw [if_pos c42]
    have key := zz_loop_tot (b := fun st : (Int32 × Int32) => f_X12_matches_L81 (Rm m S V g) m a1 a2 a3 (zi n) x (zi (B + k)) (M k) (zi (B + nx)) (st.1) (st.2)) (fun s => ∃ j, j ≤ n + 1 ∧ s.2 = zi j ∧ ∀ i, i < 32 → tb s.1 i = decide (i < j ∧ ∃ p, p ≤ i ∧ tb x p = true)) (fun s => n + 1 - s.2.toNatClampNeg) (fun r => ∃ r', r = .inl (r', zi (B + nx)) ∧ ∀ i, i < 32 → tb r' i = decide (i ≤ n ∧ ∃ j, j ≤ i ∧ tb x j = true)) ?_ (0, 0) ⟨0, by omega, rfl, fun i hi => by
      show tb 0 i = _
      rw [tb_0, eq_comm, decide_eq_false_iff_not]
      rintro ⟨q1, -⟩
      omega⟩
    · obtain ⟨r, e, r', e2, q⟩ := key
      refine ⟨r', by rw [e, e2], fun i hi => ?_⟩
      rw [q i hi, hq]
    · rintro ⟨acc, y⟩ ⟨j, hj, hy, hI⟩
      have hy : y = zi j := hy
      subst hy
      have hI : ∀ i, i < 32 → tb acc i = decide (i < j ∧ ∃ p, p ≤ i ∧ tb x p = true) := hI
      by_cases e : j = n + 1
      · subst e
        refine Or.inr ⟨_, fin acc, acc, rfl, fun i hi => ?_⟩
        rw [hI i hi]
        exact decide_eq_decide.mpr ⟨fun q => ⟨by have := q.1; omega, q.2⟩, fun q => ⟨by have := q.1; omega, q.2⟩⟩
      · obtain ⟨r, h1, h2⟩ := X12_mstar (m := m) (S := S) (V := V) (g := g) (n := n) (a1 := a1) (a2 := a2) (a3 := a3) (y6 := zi (B + k)) (y8 := zi (B + nx)) (by omega) hI
        refine Or.inl ⟨(r, zi (j + 1)), ?_, ⟨j + 1, by omega, rfl, h2⟩, hms j (by omega)⟩
        show f_X12_matches_L81 (Rm m S V g) m a1 a2 a3 (zi n) x (zi (B + k)) (M k) (zi (B + nx)) acc (zi j) = _
        rw [stp acc j (by omega), c42]
        exact h1
  · have hq : ∀ i, nst M k nx sg n x i = decide (fur M k nx x sg n i) := fun i => by
      unfold nst
      rw [if_neg c42]
    have key := zz_loop_tot (b := fun st : (Int32 × Int32) => f_X12_matches_L81 (Rm m S V g) m a1 a2 a3 (zi n) x (zi (B + k)) (M k) (zi (B + nx)) (st.1) (st.2)) (fun s => ∃ j, j ≤ n + 1 ∧ s.2 = zi j ∧ ∀ i, i < 32 → tb s.1 i = decide (fur M k nx x sg (min j n) i)) (fun s => n + 1 - s.2.toNatClampNeg) (fun r => ∃ r', r = .inl (r', zi (B + nx)) ∧ ∀ i, i < 32 → tb r' i = decide (fur M k nx x sg n i)) ?_ (0, 0) ⟨0, by omega, rfl, fun i hi => by
      show tb 0 i = _
      rw [tb_0, eq_comm, decide_eq_false_iff_not]
      rintro ⟨q1, q2, -⟩
      omega⟩
    · obtain ⟨r, e, r', e2, q⟩ := key
      refine ⟨r', by rw [e, e2], fun i hi => ?_⟩
      rw [q i hi, hq]
    · rintro ⟨acc, y⟩ ⟨j, hj, hy, hI⟩
      have hy : y = zi j := hy
      subst hy
      have hI : ∀ i, i < 32 → tb acc i = decide (fur M k nx x sg (min j n) i) := hI
      by_cases e : j = n + 1
      · subst e
        refine Or.inr ⟨_, fin acc, acc, rfl, fun i hi => ?_⟩
        rw [hI i hi, show min (n + 1) n = n by omega]
      · have st2 : f_X12_matches_L81 (Rm m S V g) m a1 a2 a3 (zi n) x (zi (B + k)) (M k) (zi (B + nx)) acc (zi j) = some (.inl (if j < n ∧ tb x j = true ∧ tk M k nx (sg j) = true then acc ||| ((1 : Int32) <<< (zi (j + 1) &&& 31)) else acc, zi (j + 1))) := by
          rw [stp acc j (by omega)]
          by_cases hx : tb x j = true
          · rw [if_pos hx]
            by_cases hjn : j < n
            · rw [X12_m104 h31 hBL hp hk hn hjn hn20 (hsg j hjn) c42]
              by_cases ht : tk M k nx (sg j) = true
              · rw [if_pos ht, if_pos ⟨hjn, hx, ht⟩]
              · rw [if_neg ht, if_neg (fun q => ht q.2.2)]
            · unfold f_X12_matches_J104
              rw [if_neg c42, if_neg (by decide), if_pos ((zi_le (by omega) (by omega)).mpr (by omega)), if_neg (fun q => hjn q.1), zi_one]
          · unfold f_X12_matches_J104
            rw [if_neg hx, if_neg c42, if_pos rfl, if_neg (fun q => hx q.2.1), zi_one]
        refine Or.inl ⟨_, st2, ⟨j + 1, by omega, rfl, fun i hi => ?_⟩, hms j (by omega)⟩
        show tb (if j < n ∧ tb x j = true ∧ tk M k nx (sg j) = true then acc ||| ((1 : Int32) <<< (zi (j + 1) &&& 31)) else acc) i = _
        by_cases hc : j < n ∧ tb x j = true ∧ tk M k nx (sg j) = true
        · rw [if_pos hc, tb_or (by omega) hi, hI i hi]
          by_cases e2 : i = j + 1
          · subst e2
            rw [decide_eq_true rfl, Bool.or_true, eq_comm, decide_eq_true_eq]
            exact ⟨by omega, by omega, hc.2.1, hc.2.2⟩
          · rw [decide_eq_false e2, Bool.or_false]
            refine decide_eq_decide.mpr ⟨fun q => ⟨q.1, by have := q.2.1; omega, q.2.2⟩, fun q => ⟨q.1, by have := q.2.1; omega, q.2.2⟩⟩
        · rw [if_neg hc, hI i hi]
          refine decide_eq_decide.mpr ⟨fun q => ⟨q.1, by have := q.2.1; omega, q.2.2⟩, fun q => ⟨q.1, ?_, q.2.2⟩⟩
          by_cases e2 : i = j + 1
          · subst e2
            have := q.2.1
            exact absurd ⟨by omega, q.2.2⟩ hc
          · have := q.2.1
            omega
theorem X12_m13 {e : Nat} (h31 : ∀ j, j < L → V 31 (B + j) = M j) (hBL : B + L ≤ 6000) (hp : Prt M k nx) (hk : k < nx) (hn : nx ≤ e) (he : e ≤ L) :
    f_X12_matches_L13 (Rm m S V g) m a1 (zi (B + e)) a3 (zi n) x (zi (B + k)) = f_X12_matches_J75 (Rm m S V g) m a1 (zi (B + e)) a3 (zi n) x (zi (B + k)) (M k) (zi (B + nx)) := by
  unfold f_X12_matches_L13
  rw [if_neg (fun q => absurd ((zi_le (by omega) (by omega)).mp q) (by omega)), rgR_31, Option.bind_some, rl_31 (by omega), Option.bind_some, h31 k (by omega), zz_let, zi_one]
  rcases hp with ⟨c, rfl⟩ | ⟨c, h1, h2, h3⟩ | ⟨c1, c2, rfl⟩
  · rw [if_neg (by rw [c]; decide), if_pos c, zi_one, show B + k + 1 + 1 = B + (k + 2) by omega]
  · rw [if_pos c]
    have key := loop_to (b := fun st : Int32 => f_X12_matches_L41 (Rm m S V g) m a1 (zi (B + e)) a3 (zi n) x (zi (B + k)) (M k) st) (fun i => zi (B + i)) (k + 1) (nx - 1) (by omega) (fun i g1 g2 => by
      show f_X12_matches_L41 (Rm m S V g) m a1 (zi (B + e)) a3 (zi n) x (zi (B + k)) (M k) (zi (B + i)) = _
      unfold f_X12_matches_L41
      rw [rgR_31, Option.bind_some, rl_31 (by omega), Option.bind_some, h31 i (by omega), if_neg (h3 i g1 g2), zi_one]
      rfl)
    rw [show zi (B + k + 1) = (fun i => zi (B + i)) (k + 1) from rfl, key]
    refine zz_loop_map ?_
    show f_X12_matches_L41 (Rm m S V g) m a1 (zi (B + e)) a3 (zi n) x (zi (B + k)) (M k) (zi (B + (nx - 1))) = _
    unfold f_X12_matches_L41
    rw [rgR_31, Option.bind_some, rl_31 (by omega), Option.bind_some, h31 (nx - 1) (by omega), if_pos h2, zi_one, show B + (nx - 1) + 1 = B + nx by omega]
  · rw [if_neg c2, if_neg c1]
    rfl
/-- a pattern fits for both, or for none -/
theorem fits_matches {H : ZH} {a st : Nat} {f : Nat → Int32} {fs : List Value} {tx : Int32} {k0 : Nat} (hB : Byt H a L f) (hO : H st = some (.inr (8, fs))) (hlen : f_X10_textLength H st tx = some (zi n)) (hn20 : n ≤ 20) (hs : ∀ j, j < 20 → f_X10_textSign H st tx (zi j) = some (sg j)) (hlm : f_X12_signsOf (Rm m S V g) m tx = some (zi n)) (hsg : ∀ j, j < n → f_X12_signOf (Rm m S V g) m tx (zi j) = some (sg j)) (h31 : ∀ j, j < L → V 31 (B + j) = mby f L j) (hBL : B + L ≤ 6000) {fu : Nat} (hk0 : k0 ≤ L) (hw : wp (mby f L) fu k0 0 = none) :
    ∃ P : Bool, f_X5_fits H a (zi k0) (zi (le' (mby f L) L k0)) st tx = some (b01 (P = true)) ∧ f_X12_matches (Rm m S V g) m (zi (B + k0)) (zi (B + le' (mby f L) L k0)) tx = some (b01 (P = true)) := by
  have h6 := hB.le
  have he := le'_le (M := mby f L) hk0
  unfold f_X5_fits f_X12_matches
  rw [zz_isO_of hO, hlen, Option.bind_some, zz_let, if_neg (fun q => absurd ((zi_Llt (by omega) (by decide)).mp q) (by omega)), zz_let, rO, hlm, Option.bind_some]
  generalize hE : le' (mby f L) L k0 = e at he
  have key := loop_rel (b1 := fun s : (Int32 × Int32) => f_X5_fits_L29 H a (zi k0) (zi e) st tx (zi n) (((1 : Int32) <<< ((zi n + (1 : Int32)) &&& 31)) - (1 : Int32)) (s.1) (s.2)) (b2 := fun s : (Int32 × Int32) => f_X12_matches_L13 (Rm m S V g) m (zi (B + k0)) (zi (B + e)) tx (zi n) (s.1) (s.2)) (fun s1 s2 => s1.1 = s2.1 ∧ ∃ k fu, s1.2 = zi k ∧ s2.2 = zi (B + k) ∧ k ≤ e ∧ le' (mby f L) L k = e ∧ wp (mby f L) fu k 0 = none) (fun r1 r2 => ∃ P : Bool, r1 = b01 (P = true) ∧ r2 = b01 (P = true)) (fun s => e - s.2.toNatClampNeg) ?_ (1, zi k0) (1, zi (B + k0)) ⟨rfl, k0, fu, rfl, rfl, by rw [← hE]; exact le'_ge _ _ _, hE, hw⟩
  · obtain ⟨r1, r2, e1, e2, P, q1, q2⟩ := key
    exact ⟨P, by rw [e1, q1], by rw [e2, q2]⟩
  · rintro ⟨x, y⟩ ⟨x', y'⟩ ⟨hx, k, fu, hy, hy', hke, hle, hwp⟩
    have hx : x = x' := hx
    have hy : y = zi k := hy
    have hy' : y' = zi (B + k) := hy'
    subst hx hy hy'
    by_cases hk : k = e
    · subst hk
      refine Or.inr ⟨b01 (tb x n = true), b01 (tb x n = true), ?_, ?_, tb x n, rfl, rfl⟩
      · show f_X5_fits_L29 H a (zi k0) (zi k) st tx (zi n) _ x (zi k) = _
        unfold f_X5_fits_L29
        rw [if_pos ((zi_le (by omega) (by omega)).mpr (Nat.le_refl _)), tb_shr (by omega)]
        by_cases hx : tb x n = true
        · rw [if_pos hx, if_neg (by decide), b01_t hx]
          rfl
        · rw [if_neg hx, if_pos rfl, b01_f hx]
          rfl
      · show f_X12_matches_L13 (Rm m S V g) m (zi (B + k0)) (zi (B + k)) tx (zi n) x (zi (B + k)) = _
        unfold f_X12_matches_L13
        rw [if_pos ((zi_le (by omega) (by omega)).mpr (Nat.le_refl _)), tb_shr (by omega)]
        by_cases hx : tb x n = true
        · rw [if_pos hx, if_pos rfl, b01_t hx]
          rfl
        · rw [if_neg hx, if_neg (by decide), b01_f hx]
          rfl
    · have n10 : mby f L k ≠ 10 := le'_no (L := L) (k := k) (Nat.le_refl _) (by omega)
      obtain ⟨nx, fu', g1, g2, g3, g4⟩ := wp_step hwp n10
      have hnL : nx - 1 < L := mby_lo (g2 (nx - 1) (by omega) (by omega))
      have hsk := le'_skip (M := mby f L) (L := L) (k := k) (j := nx) (by omega) (by omega) g2
      have hne : nx ≤ e := by
        rw [← hle, hsk]
        exact le'_ge _ _ _
      obtain ⟨r, j1, j2⟩ := X12_m75 (m := m) (S := S) (V := V) (g := g) (a1 := zi (B + k0)) (a2 := zi (B + e)) (x := x) h31 hBL g3 g1 (by omega) hn20 hsg
      refine Or.inl ⟨(r, zi nx), (r, zi (B + nx)), ?_, ?_, ⟨rfl, nx, fu', rfl, rfl, hne, by rw [← hsk]; exact hle, g4⟩, ?_⟩
      · show f_X5_fits_L29 H a (zi k0) (zi e) st tx (zi n) _ x (zi k) = _
        unfold f_X5_fits_L29 f_X5_fits_J94
        rw [if_neg (fun q => absurd ((zi_le (by omega) (by omega)).mp q) (by omega)), X5_partEnd hB g3 g1 hne he, Option.bind_some, zi_one, if_neg (fun q => absurd ((zi_lt (by omega) (by omega)).mp q) (by omega)), zz_let, hB.isO, X0_at hB (by omega), Option.bind_some, bt_lt (show k < L by omega)]
        by_cases c42 : mby f L k = 42
        · rw [if_pos c42, zz_let]
          have : (x ||| -x) &&& (((1 : Int32) <<< ((zi n + (1 : Int32)) &&& 31)) - (1 : Int32)) = r := by
            apply tb_ext
            intro i hi
            rw [tb_and, tb_star hi, all_bit n (by omega) i hi, j2 i hi]
            unfold nst
            rw [if_pos c42, ← Bool.decide_and]
            exact decide_eq_decide.mpr ⟨fun q => ⟨q.2, q.1⟩, fun q => ⟨q.2, q.1⟩⟩
          rw [this]
        · obtain ⟨r', t1, t2⟩ := X5_further (x := x) hB g3 g1 (by omega) hO hs
          rw [if_neg c42, t1, Option.bind_some, zz_let]
          have : r' &&& (((1 : Int32) <<< ((zi n + (1 : Int32)) &&& 31)) - (1 : Int32)) = r := by
            apply tb_ext
            intro i hi
            rw [tb_and, t2 i hi, all_bit n (by omega) i hi, j2 i hi]
            unfold nst
            rw [if_neg c42, ← Bool.decide_and]
            exact decide_eq_decide.mpr ⟨fun q => ⟨q.1.1, q.2, q.1.2.2⟩, fun q => ⟨⟨q.1, by have := q.2.1; omega, q.2.2⟩, q.2.1⟩⟩
          rw [this]
      · show f_X12_matches_L13 (Rm m S V g) m (zi (B + k0)) (zi (B + e)) tx (zi n) x (zi (B + k)) = _
        rw [X12_m13 h31 hBL g3 g1 hne he]
        exact j1
      · show e - (zi nx).toNatClampNeg < e - (zi k).toNatClampNeg
        rw [zi_nat (by omega), zi_nat (by omega)]
        omega
end
