/-! ===== entries and bytes, of any heap ===== -/
theorem bt_mby (f : Nat → Int32) (L i : Nat) : (i < L ∧ bt f L i = mby f L i) ∨ (L ≤ i ∧ bt f L i = -1 ∧ mby f L i = 10) := by
  unfold bt mby
  by_cases h : i < L
  · exact Or.inl ⟨h, by rw [if_pos h, if_pos h]⟩
  · exact Or.inr ⟨by omega, by rw [if_neg h], by rw [if_neg h]⟩
theorem bt_ltr (f : Nat → Int32) (L i : Nat) : ltr (bt f L i) ↔ ltr (mby f L i) := by
  rcases bt_mby f L i with ⟨-, e⟩ | ⟨-, e1, e2⟩
  · rw [e]
  · rw [e1, e2]
    decide
theorem bt_sgn (f : Nat → Int32) (L i : Nat) : sgn (bt f L i) ↔ sgn (mby f L i) := by
  rcases bt_mby f L i with ⟨-, e⟩ | ⟨-, e1, e2⟩
  · rw [e]
  · rw [e1, e2]
    decide
theorem bt_is {f : Nat → Int32} {L i : Nat} {c : Int32} (h1 : c ≠ -1) (h2 : c ≠ 10) : bt f L i = c ↔ mby f L i = c := by
  rcases bt_mby f L i with ⟨-, e⟩ | ⟨-, e1, e2⟩
  · rw [e]
  · rw [e1, e2]
    exact ⟨fun q => absurd q.symm h1, fun q => absurd q.symm h2⟩
theorem mby_nm {f : Nat → Int32} {L i : Nat} : mby f L i ≠ -1 := by
  unfold mby
  by_cases h : i < L
  · rw [if_pos h]
    intro q
    have q2 := congrArg (fun x => x.toBitVec.getLsbD 31) q
    rw [Int32.toBitVec_and, BitVec.getLsbD_and, show (255 : Int32).toBitVec = 255#32 from rfl, b255 31 (by decide)] at q2
    rw [show ((-1 : Int32).toBitVec.getLsbD 31) = true from rfl] at q2
    simp at q2
  · rw [if_neg h]
    decide
theorem bt_end (f : Nat → Int32) (L i : Nat) : (bt f L i = 10 ∨ bt f L i = -1) ↔ mby f L i = 10 := by
  rcases bt_mby f L i with ⟨-, e⟩ | ⟨-, e1, e2⟩
  · rw [e]
    exact ⟨fun q => q.elim id (fun q => absurd q mby_nm), Or.inl⟩
  · rw [e1, e2]
    decide
theorem X2_isLetter {h : ZH} {c : Int32} : f_X2_isLetter h c = some (b01 (ltr c)) := inside_eq (h := h) (l := 97) (u := 122)
theorem X2_isSign {h : ZH} {c : Int32} : f_X2_isSign h c = some (b01 (sgn c)) := inside_eq (h := h) (l := 32) (u := 126)
theorem X2_endsLine {h : ZH} {c : Int32} : f_X2_endsLine h c = some (b01 (c = 10 ∨ c = -1)) := by
  unfold f_X2_endsLine
  by_cases h1 : c = 10
  · rw [if_pos h1, b01_t (Or.inl h1)]
  · rw [if_neg h1]
    by_cases h2 : c = -1
    · rw [if_pos h2, b01_t (Or.inr h2)]
    · rw [if_neg h2, b01_f (fun q => q.elim h1 h2)]
theorem Byt.isO {h : ZH} {a L : Nat} {f : Nat → Int32} {β : Type} {x : Option β} (hB : Byt h a L f) : zz_isO h a 0 x = x := by
  obtain ⟨r, C, h1, -⟩ := hB
  exact zz_isO_of h1
theorem Byt.len {h : ZH} {a L : Nat} {f : Nat → Int32} (hB : Byt h a L f) : zg_I h a 0 1 = some (zi L) := by
  obtain ⟨r, C, h1, -⟩ := hB
  exact zg_I_of h1 rfl
theorem Byt.le {h : ZH} {a L : Nat} {f : Nat → Int32} (hB : Byt h a L f) : L ≤ 600 := by
  obtain ⟨r, C, -, -, h1, h2⟩ := hB
  omega
/-- the letters from k on, at most 6 -/
def lt6 (M : Nat → Int32) (k : Nat) : Nat := fsr (fun j => decide (¬ ltr (M (k + j)))) 6 0
theorem X2_lettersEnd {h : ZH} {a L : Nat} {f : Nat → Int32} {k : Nat} (hB : Byt h a L f) (hk : k < 1000000) : f_X2_lettersEnd h a (zi k) = some (if lt6 (mby f L) k = 0 then zi k ^^^ (-1 : Int32) else zi (k + lt6 (mby f L) k)) := by
  obtain ⟨g1, g2, g3, g4⟩ := fsr_spec (fun j => decide (¬ ltr (mby f L (k + j)))) 6 0
  unfold f_X2_lettersEnd
  rw [show fsr (fun j => decide (¬ ltr (mby f L (k + j)))) 6 0 = lt6 (mby f L) k from rfl] at g1 g2 g3 g4
  generalize lt6 (mby f L) k = n at g1 g2 g3 g4
  have key := loop_to (b := fun st : Int32 => f_X2_lettersEnd_L2 h a (zi k) st) (fun i => zi i) 0 n (Nat.zero_le _) ?_
  · rw [show (0 : Int32) = (fun i => zi i) 0 from rfl, key]
    refine zz_loop_inr ?_
    show f_X2_lettersEnd_L2 h a (zi k) (zi n) = _
    unfold f_X2_lettersEnd_L2
    have fin : Option.map Sum.inr (f_X2_lettersEnd_J27 h a (zi k) (zi n)) = some (Sum.inr (α := Int32) (if n = 0 then zi k ^^^ (-1 : Int32) else zi (k + n))) := by
      unfold f_X2_lettersEnd_J27
      by_cases hn : n = 0
      · subst hn
        rw [if_pos rfl, if_pos (show zi 0 = 0 from rfl)]
        rfl
      · rw [if_neg hn, if_neg (fun q => hn ((zi_eqL (by omega) (by decide)).mp q)), zi_add]
        rfl
    by_cases h6 : n = 6
    · subst h6
      rw [if_pos (show (6 : Int32) ≤ zi 6 by decide)]
      exact fin
    · rw [if_neg (fun q => absurd ((zi_Lle (by omega) (by decide)).mp q) (by omega)), zi_add, hB.isO, X0_at hB (by omega), Option.bind_some, X2_isLetter, Option.bind_some, if_pos]
      · exact fin
      · refine b01_f (fun q => ?_)
        have := g4 (by omega)
        rw [decide_eq_true_eq] at this
        exact this ((bt_ltr f L (k + n)).mp q)
  · intro i _ hi
    show f_X2_lettersEnd_L2 h a (zi k) (zi i) = _
    unfold f_X2_lettersEnd_L2
    rw [if_neg (fun q => absurd ((zi_Lle (by omega) (by decide)).mp q) (by omega)), zi_add, hB.isO, X0_at hB (by omega), Option.bind_some, X2_isLetter, Option.bind_some, if_neg, zi_one]
    intro q
    have := g3 i (Nat.zero_le _) hi
    rw [decide_eq_false_iff_not, Decidable.not_not] at this
    exact b01_0.mp q ((bt_ltr f L (k + i)).mpr this)
/-- words or texts -/
def Ent (h : ZH) (a W cap n : Nat) (len sig : Nat → Int32) : Prop := ∃ r1 r2, h a = some (.inr (1, [.int (zi W), .ref r1, .ref r2, .int (zi n)])) ∧ h r1 = some (.inl (0, cap * W, .inl sig)) ∧ h r2 = some (.inl (1, cap, .inl len)) ∧ n ≤ cap ∧ cap ≤ 24 ∧ W ≤ 20
section
variable {h : ZH} {a W cap n : Nat} {len sig : Nat → Int32}
theorem Ent.isO {β : Type} {x : Option β} (hE : Ent h a W cap n len sig) : zz_isO h a 1 x = x := by
  obtain ⟨r1, r2, h1, -⟩ := hE
  exact zz_isO_of h1
theorem Ent.lenOf {w : Nat} (hE : Ent h a W cap n len sig) (hw : w < n) : f_X1_lengthOf h a (zi w) = some (len w) := by
  obtain ⟨r1, r2, h1, h2, h3, h4, h5, h6⟩ := hE
  unfold f_X1_lengthOf
  rw [if_neg (zi_neg (by omega)), zg_I_of h1 rfl, Option.bind_some, if_neg (fun q => absurd ((zi_le (by omega) (by omega)).mp q) (by omega)), zg_R_of h1 rfl, Option.bind_some, zl_N_of h3, Option.bind_some, if_neg (fun q => absurd ((zi_le (by omega) (by omega)).mp q) (by omega)), Option.bind_some, zl_I_of h3 (by omega) (by omega), Option.bind_some]
theorem wlt {w W cap k l : Nat} (hw : w < cap) (hk : k < l) (hl : l ≤ W) : W * w + k < cap * W := by
  have : W * (w + 1) ≤ W * cap := Nat.mul_le_mul_left W hw
  rw [Nat.mul_comm cap W]
  rw [Nat.mul_add] at this
  omega
theorem wle {W cap : Nat} (h1 : cap ≤ 24) (h2 : W ≤ 20) : cap * W ≤ 480 := Nat.mul_le_mul h1 h2
theorem Ent.sgnOf {w k l : Nat} (hE : Ent h a W cap n len sig) (hw : w < n) (hl : len w = zi l) (hlW : l ≤ W) (hk : k < l) : f_X1_signOf h a (zi w) (zi k) = some (sig (W * w + k)) := by
  have e0 := hE.lenOf hw
  have ei := fun (β : Type) (x : Option β) => hE.isO (x := x)
  obtain ⟨r1, r2, h1, h2, h3, h4, h5, h6⟩ := hE
  have hb := wlt (show w < cap by omega) hk hlW
  have hc := wle h5 h6
  unfold f_X1_signOf
  rw [if_neg (zi_neg (by omega)), ei, e0, Option.bind_some, hl, if_pos ((zi_lt (by omega) (by omega)).mpr hk), zg_I_of h1 rfl, Option.bind_some, zz_let, zi_mul, zi_add, Nat.mul_comm w W, if_neg (zi_neg (by omega)), zg_R_of h1 rfl, Option.bind_some, zl_N_of h2, Option.bind_some, if_pos ((zi_lt (by omega) (by omega)).mpr hb), Option.bind_some, zl_I_of h2 hb (by omega), Option.bind_some]
/-- an entry stands at n bytes from s on -/
def stq (W : Nat) (len sig B : Nat → Int32) (s n w : Nat) : Bool := decide (len w = zi n) && decide (fsr (fun k => decide (sig (W * w + k) ≠ B (s + k))) n 0 = n)
theorem Ent.stands {L s e w l ab : Nat} {f : Nat → Int32} (hE : Ent h a W cap n len sig) (hB : Byt h ab L f) (hw : w < n) (hl : len w = zi l) (hlW : l ≤ W) (hse : s ≤ e) (he : e < 1000000) : f_X1_stands h a (zi w) ab (zi s) (zi e) = some (b01 (stq W len sig (bt f L) s (e - s) w = true)) := by
  obtain ⟨-, -, -, -, -, -, -, hW⟩ := id hE
  unfold f_X1_stands
  rw [hE.isO, hE.lenOf hw, Option.bind_some, zi_sub hse, hl]
  unfold stq
  rw [hl]
  by_cases hn : l = e - s
  · subst hn
    rw [if_pos rfl]
    obtain ⟨g1, g2, g3, g4⟩ := fsr_spec (fun k => decide (sig (W * w + k) ≠ bt f L (s + k))) (e - s) 0
    simp only [decide_true, Bool.true_and, decide_eq_true_eq]
    generalize fsr (fun k => decide (sig (W * w + k) ≠ bt f L (s + k))) (e - s) 0 = i at g1 g2 g3 g4
    have key := loop_to (b := fun st : Int32 => f_X1_stands_L17 h a (zi w) ab (zi s) (zi e) st) (fun i => zi i) 0 i (Nat.zero_le _) ?_
    · rw [show (0 : Int32) = (fun i => zi i) 0 from rfl, key]
      refine zz_loop_inr ?_
      show f_X1_stands_L17 h a (zi w) ab (zi s) (zi e) (zi i) = _
      unfold f_X1_stands_L17
      rw [zi_sub hse]
      by_cases hi : i = e - s
      · rw [if_pos ((zi_le (by omega) (by omega)).mpr (by omega)), b01_t hi]
        rfl
      · have := g4 (by omega)
        rw [decide_eq_true_eq] at this
        rw [if_neg (fun q => absurd ((zi_le (by omega) (by omega)).mp q) (by omega)), hE.isO, hE.sgnOf hw hl hlW (by omega), Option.bind_some, hB.isO, zi_add, X0_at hB (by omega), Option.bind_some, if_neg this, b01_f hi]
        rfl
    · intro k _ hk
      have := g3 k (Nat.zero_le _) hk
      rw [decide_eq_false_iff_not, Decidable.not_not] at this
      show f_X1_stands_L17 h a (zi w) ab (zi s) (zi e) (zi k) = _
      unfold f_X1_stands_L17
      rw [zi_sub hse, if_neg (fun q => absurd ((zi_le (by omega) (by omega)).mp q) (by omega)), hE.isO, hE.sgnOf hw hl hlW (by omega), Option.bind_some, hB.isO, zi_add, X0_at hB (by omega), Option.bind_some, if_pos this, zi_one]
  · have h1 : ¬ zi l = zi (e - s) := fun q => hn ((zi_eq (by omega) (by omega)).mp q)
    rw [if_neg h1, b01_f]
    rw [decide_eq_false h1]
    simp
theorem Ent.find {L s e ab : Nat} {f : Nat → Int32} (hE : Ent h a W cap n len sig) (hB : Byt h ab L f) (hl : ∀ w, w < n → ∃ l, l ≤ W ∧ len w = zi l) (hse : s ≤ e) (he : e < 1000000) : f_X1_find h a ab (zi s) (zi e) = some (if fsr (stq W len sig (bt f L) s (e - s)) n 0 < n then zi (fsr (stq W len sig (bt f L) s (e - s)) n 0) else -1) := by
  obtain ⟨r1, r2, h1, -, -, h4, h5, -⟩ := id hE
  unfold f_X1_find
  obtain ⟨g1, g2, g3, g4⟩ := fsr_spec (stq W len sig (bt f L) s (e - s)) n 0
  generalize fsr (stq W len sig (bt f L) s (e - s)) n 0 = i at g1 g2 g3 g4
  have st : ∀ k, k < n → ∃ l, f_X1_stands h a (zi k) ab (zi s) (zi e) = some (b01 (stq W len sig (bt f L) s (e - s) k = true)) ∧ l = 0 := by
    intro k hk
    obtain ⟨l, q1, q2⟩ := hl k hk
    exact ⟨0, hE.stands hB hk q2 q1 hse he, rfl⟩
  have key := loop_to (b := fun st : Int32 => f_X1_find_L3 h a ab (zi s) (zi e) st) (fun i => zi i) 0 i (Nat.zero_le _) ?_
  · rw [show (0 : Int32) = (fun i => zi i) 0 from rfl, key]
    refine zz_loop_inr ?_
    show f_X1_find_L3 h a ab (zi s) (zi e) (zi i) = _
    unfold f_X1_find_L3
    rw [zg_I_of h1 rfl, Option.bind_some]
    by_cases hi : i < n
    · obtain ⟨-, q, -⟩ := st i hi
      rw [if_neg (fun q => absurd ((zi_le (by omega) (by omega)).mp q) (by omega)), hE.isO, q, Option.bind_some, if_neg (fun q => b01_0.mp q (g4 (by omega))), if_pos hi]
      rfl
    · rw [if_pos ((zi_le (by omega) (by omega)).mpr (by omega)), if_neg hi]
      rfl
  · intro k _ hk
    obtain ⟨-, q, -⟩ := st k (by omega)
    have := g3 k (Nat.zero_le _) hk
    show f_X1_find_L3 h a ab (zi s) (zi e) (zi k) = _
    unfold f_X1_find_L3
    rw [zg_I_of h1 rfl, Option.bind_some, if_neg (fun q => absurd ((zi_le (by omega) (by omega)).mp q) (by omega)), hE.isO, q, Option.bind_some, if_pos (b01_f (by rw [this]; decide)), zi_one]
end
/-! the reference's search -/
section
variable {m : Nat} {S : Nat → Int32} {V : Nat → Nat → Int32} {g : ZH}
theorem X12_wordAt {ar cap at' n nw : Nat} {T : Nat → Int32} (har : ∀ i, i < cap → zl_I (Rm m S V g) ar 1 (zi i) = some (T i)) (h4 : S 4 = zi nw) (h16 : nw ≤ 16) (hl : ∀ w, w < nw → ∃ l, l ≤ 6 ∧ V 6 w = zi l) (hn : at' + n ≤ cap) (hcap : cap ≤ 1000000) :
    f_X12_wordAt (Rm m S V g) m ar (zi at') (zi n) = some (if fsr (stq 6 (V 6) (V 5) T at' n) nw 0 < nw then zi (fsr (stq 6 (V 6) (V 5) T at' n) nw 0) else -1) := by
  unfold f_X12_wordAt
  obtain ⟨g1, g2, g3, g4⟩ := fsr_spec (stq 6 (V 6) (V 5) T at' n) nw 0
  generalize fsr (stq 6 (V 6) (V 5) T at' n) nw 0 = i at g1 g2 g3 g4
  have inner : ∀ w, w < nw → (zg_R (Rm m S V g) m 10 6).bind (fun v3 => (zl_I (Rm m S V g) v3 1 (zi w)).bind fun v4 => if v4 = zi n then (f_X12_wordAt_J28 (Rm m S V g) m ar (zi at') (zi n) (zi w) (1 : Int32)) else (f_X12_wordAt_J28 (Rm m S V g) m ar (zi at') (zi n) (zi w) (0 : Int32))) = f_X12_wordAt_J79 (Rm m S V g) m ar (zi at') (zi n) (zi w) (b01 (stq 6 (V 6) (V 5) T at' n w = true)) := by
    intro w hw
    rw [rgR_6, Option.bind_some, rl_6 (by omega), Option.bind_some]
    obtain ⟨l, hl6, el⟩ := hl w hw
    unfold f_X12_wordAt_J28 stq
    rw [el]
    by_cases hn : zi l = zi n
    · rw [if_pos hn, decide_eq_true hn]
      have hln := (zi_eq (by omega) (by omega)).mp hn
      subst hln
      simp only [Bool.true_and, decide_eq_true_eq]
      obtain ⟨f1, f2, f3, f4⟩ := fsr_spec (fun k => decide (V 5 (6 * w + k) ≠ T (at' + k))) l 0
      generalize fsr (fun k => decide (V 5 (6 * w + k) ≠ T (at' + k))) l 0 = i at f1 f2 f3 f4
      have rd : ∀ k, k < l → zl_I (Rm m S V g) (m + 2) 1 (zi (6 * w + k)) = some (V 5 (6 * w + k)) := fun k hk => rl_5 (by omega)
      have key := loop_to (b := fun st : (Int32 × Int32) => f_X12_wordAt_L33 (Rm m S V g) m ar (zi at') (zi l) (zi w) st.1 st.2) (fun i => (1, zi i)) 0 i (Nat.zero_le _) ?_
      · rw [show ((1 : Int32), (0 : Int32)) = (fun i => (1, zi i)) 0 from rfl, key]
        by_cases hi : i = l
        · rw [b01_t hi]
          refine zz_loop_map ?_
          show f_X12_wordAt_L33 (Rm m S V g) m ar (zi at') (zi l) (zi w) 1 (zi i) = _
          unfold f_X12_wordAt_L33
          rw [if_pos ((zi_le (by omega) (by omega)).mpr (by omega))]
        · have := f4 (by omega)
          rw [decide_eq_true_eq] at this
          rw [b01_f hi, zz_loop_inl (s' := (0, zi (i + 1)))]
          · refine zz_loop_map ?_
            show f_X12_wordAt_L33 (Rm m S V g) m ar (zi at') (zi l) (zi w) 0 (zi (i + 1)) = _
            unfold f_X12_wordAt_L33
            rw [if_pos rfl]
            by_cases q : zi l ≤ zi (i + 1)
            · rw [if_pos q]
            · rw [if_neg q]
          · show f_X12_wordAt_L33 (Rm m S V g) m ar (zi at') (zi l) (zi w) 1 (zi i) = _
            unfold f_X12_wordAt_L33 f_X12_wordAt_J71
            rw [if_neg (fun q => absurd ((zi_le (by omega) (by omega)).mp q) (by omega)), if_neg (by decide), rgR_5, Option.bind_some, zi_Lmul, zi_add, rd i (by omega), Option.bind_some, zi_add, har _ (by omega), Option.bind_some, if_neg this, zi_one]
      · intro k _ hk
        have := f3 k (Nat.zero_le _) hk
        rw [decide_eq_false_iff_not, Decidable.not_not] at this
        show f_X12_wordAt_L33 (Rm m S V g) m ar (zi at') (zi l) (zi w) 1 (zi k) = _
        unfold f_X12_wordAt_L33 f_X12_wordAt_J71
        rw [if_neg (fun q => absurd ((zi_le (by omega) (by omega)).mp q) (by omega)), if_neg (by decide), rgR_5, Option.bind_some, zi_Lmul, zi_add, rd k (by omega), Option.bind_some, zi_add, har _ (by omega), Option.bind_some, if_pos this, zi_one]
    · rw [if_neg hn, decide_eq_false hn]
      rw [b01_f (by simp)]
      refine zz_loop_map ?_
      show f_X12_wordAt_L33 (Rm m S V g) m ar (zi at') (zi n) (zi w) 0 0 = _
      unfold f_X12_wordAt_L33
      rw [if_pos rfl]
      by_cases q : zi n ≤ 0
      · rw [if_pos q]
      · rw [if_neg q]
  have key := loop_to (b := fun st : Int32 => f_X12_wordAt_L3 (Rm m S V g) m ar (zi at') (zi n) st) (fun i => zi i) 0 i (Nat.zero_le _) ?_
  · rw [show (0 : Int32) = (fun i => zi i) 0 from rfl, key]
    refine zz_loop_inr ?_
    show f_X12_wordAt_L3 (Rm m S V g) m ar (zi at') (zi n) (zi i) = _
    unfold f_X12_wordAt_L3
    rw [rgI_4, Option.bind_some, h4]
    by_cases hi : i < nw
    · rw [if_neg (fun q => absurd ((zi_le (by omega) (by omega)).mp q) (by omega)), inner i hi, b01_t (g4 (by omega)), if_pos hi]
      rfl
    · rw [if_pos ((zi_le (by omega) (by omega)).mpr (by omega)), if_neg hi]
      rfl
  · intro k _ hk
    show f_X12_wordAt_L3 (Rm m S V g) m ar (zi at') (zi n) (zi k) = _
    unfold f_X12_wordAt_L3
    rw [rgI_4, Option.bind_some, h4, if_neg (fun q => absurd ((zi_le (by omega) (by omega)).mp q) (by omega)), inner k (by omega), b01_f (by rw [g3 k (Nat.zero_le _) hk]; decide)]
    unfold f_X12_wordAt_J79
    rw [if_pos rfl, zi_one]
end
