/-! ===== steps of making ===== -/
section
variable {m n o a : Nat} {l l' : List ZC} {g : ZH} {c : ZC} {β : Type}
theorem st_new {F : ZH → Option β} {x1 x2 x3 x4 : Nat} (hb : x1 ≤ x2 ∧ x3 ≤ x4) (hn : n = m + l.length) (hl : l ++ [c] = l') : (zz_bud x1 x2 x3 x4 <| zz_let (va_up (HG m l g) n (some c)) F) = F (HG m l' g) := by
  subst hl
  unfold zz_bud zz_let
  rw [if_pos hb, HG_new hn]
theorem st_put {F : ZH → Option β} {ci k : Nat} {v : Value} {fs : List Value} (ha : a = m + o) (h : l[o]? = some (.inr (ci, fs))) (hk : k < fs.length) (hl : l.set o (.inr (ci, fs.set k v)) = l') : (zp_V (HG m l g) a ci k v).bind F = F (HG m l' g) := by
  subst hl
  rw [HG_put ha h hk, Option.bind_some]
theorem st_bud {x1 x2 x3 x4 : Nat} {X : Option β} (hb : x1 ≤ x2 ∧ x3 ≤ x4) : zz_bud x1 x2 x3 x4 X = X := by
  unfold zz_bud
  rw [if_pos hb]
theorem st_ok {P : Prop} [Decidable P] {X : Option β} (h : P) : zz_ok P X = X := by
  unfold zz_ok
  rw [if_pos h]
theorem st_call {α : Type} {x : Option α} {r : α} {F : α → Option β} (h : x = some r) : x.bind F = F r := by
  rw [h, Option.bind_some]
theorem st_gR {F : Nat → Option β} {ci k v : Nat} {fs : List Value} (ha : a = m + o) (h : l[o]? = some (.inr (ci, fs))) (hv : fs[k]? = some (.ref v)) : (zg_R (HG m l g) a ci k).bind F = F v := by
  rw [zg_R_of (HG_at ha h) hv, Option.bind_some]
theorem st_gI {F : Int32 → Option β} {ci k : Nat} {v : Int32} {fs : List Value} (ha : a = m + o) (h : l[o]? = some (.inr (ci, fs))) (hv : fs[k]? = some (.int v)) : (zg_I (HG m l g) a ci k).bind F = F v := by
  rw [zg_I_of (HG_at ha h) hv, Option.bind_some]
theorem X4_make {L L' : List ZC} {x y z w : Int32} (hL : L = l ++ [.inr (3, [.null, .int x, .int y, .int z, .int w])]) (ha : a = m + l.length) (hn : n = m + (l.length + 1)) (hL' : l ++ [.inr (3, [.ref n, .int x, .int y, .int z, .int (-2)]), .inl (1, 8, .inl (fun _ => 0))] = L') : f_X4_init (HG m L g) n a = some (HG m L' g, n + 1) := by
  subst hL hL'
  unfold f_X4_init
  refine Eq.trans (st_new (by decide) (by rw [hn]; simp) rfl) ?_
  refine Eq.trans (st_put (o := l.length) (fs := [.null, .int x, .int y, .int z, .int w]) ha (by simp) (by exact Nat.le_of_ble_eq_true rfl) rfl) ?_
  refine Eq.trans (st_put (o := l.length) (fs := [.ref n, .int x, .int y, .int z, .int w]) ha (by simp) (by exact Nat.le_of_ble_eq_true rfl) rfl) ?_
  refine Eq.trans (st_bud (by decide)) ?_
  simp
theorem X3_make {L L' : List ZC} (hL : L = l ++ [.inr (2, [.null, .int 0, .int 0])]) (ha : a = m + l.length) (hn : n = m + (l.length + 1)) (hL' : l ++ [.inr (2, [.ref n, .int 0, .int 0]), .inl (1, 4, .inl (fun _ => 0))] = L') : f_X3_init (HG m L g) n a = some (HG m L' g, n + 1) := by
  subst hL hL'
  unfold f_X3_init
  refine Eq.trans (st_new (by decide) (by rw [hn]; simp) rfl) ?_
  refine Eq.trans (st_put (o := l.length) (fs := [.null, .int 0, .int 0]) ha (by simp) (by exact Nat.le_of_ble_eq_true rfl) rfl) ?_
  refine Eq.trans (st_put (o := l.length) (fs := [.ref n, .int 0, .int 0]) ha (by simp) (by exact Nat.le_of_ble_eq_true rfl) rfl) ?_
  refine Eq.trans (st_bud (by decide)) ?_
  simp
theorem X0_make {L L' : List ZC} (hL : L = l ++ [.inr (0, [.null, .int 0])]) (ha : a = m + l.length) (hn : n = m + (l.length + 1)) (hL' : l ++ [.inr (0, [.ref n, .int 0]), .inl (0, 600, .inl (fun _ => 0))] = L') : f_X0_init (HG m L g) n a 600 = some (HG m L' g, n + 1) := by
  subst hL hL'
  unfold f_X0_init f_X0_init_J14
  rw [if_pos (by decide)]
  refine Eq.trans (st_ok (by decide)) ?_
  refine Eq.trans (st_new (by decide) (by rw [hn]; simp) rfl) ?_
  refine Eq.trans (st_put (o := l.length) (fs := [.null, .int 0]) ha (by simp) (by exact Nat.le_of_ble_eq_true rfl) rfl) ?_
  refine Eq.trans (st_bud (by decide)) ?_
  simp
theorem X1_make {A W : Nat} {L L' : List ZC} (hA : A ≤ 24) (hW : W ≤ 20) (hL : L = l ++ [.inr (1, [.int 0, .null, .null, .int 0])]) (ha : a = m + l.length) (hn : n = m + (l.length + 1)) (hL' : l ++ [.inr (1, [.int (zi W), .ref n, .ref (n + 1), .int 0]), .inl (0, A * W, .inl (fun _ => 0)), .inl (1, A, .inl (fun _ => 0))] = L') : f_X1_init (HG m L g) n a (zi A) (zi W) = some (HG m L' g, n + 2) := by
  subst hL hL'
  have hAW : A * W ≤ 24 * 20 := Nat.mul_le_mul hA hW
  have e0 : ∀ x : Nat, x < 100000 → (0 : Int32) ≤ zi x := fun x hx => (zi_Lle (by omega) (by decide)).mpr (Nat.zero_le _)
  unfold f_X1_init f_X1_init_J13 f_X1_init_J24
  rw [if_pos (e0 A (by omega)), if_pos (e0 W (by omega))]
  refine Eq.trans (st_put (o := l.length) (fs := [.int 0, .null, .null, .int 0]) ha (by simp) (by exact Nat.le_of_ble_eq_true rfl) rfl) ?_
  refine Eq.trans (st_gI (o := l.length) (fs := [.int (zi W), .null, .null, .int 0]) (v := zi W) ha (by simp) rfl) ?_
  rw [zi_mul]
  show zz_ok _ _ = _
  rw [zi_nat (show A * W < 2147483648 by omega), zi_nat (show A < 2147483648 by omega)]
  refine Eq.trans (st_ok ⟨zi_neg (by omega), by omega⟩) ?_
  refine Eq.trans (st_new (by omega) (by rw [hn]; simp) rfl) ?_
  refine Eq.trans (st_put (o := l.length) (fs := [.int (zi W), .null, .null, .int 0]) ha (by simp) (by exact Nat.le_of_ble_eq_true rfl) rfl) ?_
  refine Eq.trans (st_ok ⟨zi_neg (by omega), by omega⟩) ?_
  refine Eq.trans (st_new (by omega) (by rw [hn]; simp; omega) rfl) ?_
  refine Eq.trans (st_put (o := l.length) (fs := [.int (zi W), .ref n, .null, .int 0]) ha (by simp) (by exact Nat.le_of_ble_eq_true rfl) rfl) ?_
  refine Eq.trans (st_bud (by omega)) ?_
  simp
/-- a rule, as it is made -/
abbrev rc : ZC := .inr (4, [.int 0, .int 0, .int 0, .int 0, .int 0, .int 0, .int 0, .int 0, .int 0])
def fns (k s n i : Nat) : Nat → Option Nat := fun j => if j < i then some (n + s * j + k * 0) else none
theorem fns_up {s n i : Nat} : va_up (fns 0 s n i) i (some (n + s * i)) = fns 0 s n (i + 1) := by
  funext j
  unfold fns
  by_cases e : j = i
  · subst e
    rw [up_self, if_pos (by omega)]
    simp
  · rw [up_ne _ _ e]
    show (if j < i then some (n + s * j + 0 * 0) else none) = _
    by_cases e2 : j < i
    · rw [if_pos e2, if_pos (by omega)]
    · rw [if_neg e2, if_neg (by omega)]
theorem fns_0 {s n : Nat} : fns 0 s n 0 = fun _ => none := rfl
theorem app_lt {x y : List ZC} {i : Nat} {v : ZC} (h : x[i]? = some v) : (x ++ y)[i]? = some v := by
  obtain ⟨ho, -⟩ := List.getElem?_eq_some_iff.mp h
  rw [List.getElem?_append_left ho, h]
/-- thirty rules -/
theorem X10_rules {h0 : ZH} {a1 : Int32} {so ro : Nat} {fs : List Value} (hso : l[so]? = some (.inr (8, fs))) (hfs : fs[2]? = some (.ref (m + ro))) (hro : l[ro]? = some (.inl (7, 30, .inr (.inr (.inr (.inr (fun _ => none))))))) (hne : ro ≠ so) (ha : a = m + so) (hn : n = m + l.length) :
    zz_loop (fun st : (Int32 × ZH × Nat × Nat × Nat) => f_X10_init_L58 h0 a a1 (st.1) (st.2.1) (st.2.2.1) (st.2.2.2.1) (st.2.2.2.2)) (0, HG m l g, n, 8, 1242) = zz_loop (fun st : (Int32 × ZH × Nat × Nat × Nat) => f_X10_init_L88 h0 a a1 (st.1) (st.2.1) (st.2.2.1) (st.2.2.2.1) (st.2.2.2.2)) (0, HG m (l.set ro (.inl (7, 30, .inr (.inr (.inr (.inr (fns 0 1 n 30)))))) ++ List.replicate 30 rc) g, n + 30, 38, 1512) := by
  obtain ⟨hol, -⟩ := List.getElem?_eq_some_iff.mp hro
  have hsl : ∀ (x : ZC) (y : List ZC), (l.set ro x ++ y)[so]? = some (.inr (8, fs)) := fun x y => app_lt (by rw [List.getElem?_set_ne hne, hso])
  have hrl : ∀ (x : ZC) (y : List ZC), (l.set ro x ++ y)[ro]? = some x := fun x y => app_lt (by rw [List.getElem?_set_self hol])
  have key := loop_to (b := fun st : (Int32 × ZH × Nat × Nat × Nat) => f_X10_init_L58 h0 a a1 (st.1) (st.2.1) (st.2.2.1) (st.2.2.2.1) (st.2.2.2.2)) (fun i => (zi i, HG m (l.set ro (.inl (7, 30, .inr (.inr (.inr (.inr (fns 0 1 n i)))))) ++ List.replicate i rc) g, n + i, 8 + i, 1242 + 9 * i)) 0 30 (by decide) (fun i _ hi => by
    show f_X10_init_L58 h0 a a1 (zi i) (HG m (l.set ro (.inl (7, 30, .inr (.inr (.inr (.inr (fns 0 1 n i)))))) ++ List.replicate i rc) g) (n + i) (8 + i) (1242 + 9 * i) = _
    unfold f_X10_init_L58 f_X6_init
    refine Eq.trans (st_gR ha (hsl _ _) hfs) ?_
    refine Eq.trans (st_call (zl_N_of (HG_at rfl (hrl _ _)))) ?_
    rw [if_neg (fun q => absurd ((zi_le (by omega) (by omega)).mp q) (by omega))]
    refine Eq.trans (st_gR ha (hsl _ _) hfs) ?_
    refine Eq.trans (st_new (by omega) (by rw [hn]; simp; omega) (List.append_assoc _ _ _)) ?_
    refine Eq.trans (st_bud (by omega)) ?_
    rw [Option.bind_some, zz_isO_of (fs := [.int 0, .int 0, .int 0, .int 0, .int 0, .int 0, .int 0, .int 0, .int 0]) (HG_at (o := l.length + i) (by rw [hn]; omega) (by simp [List.getElem?_append_right])), HG_stR rfl (hrl _ _) hi (by decide), Option.bind_some, zi_one, List.set_append_left _ _ (by rw [List.length_set]; exact hol), List.set_set, show n + i = n + 1 * i by omega, fns_up, ← List.replicate_succ']
    congr 5
    omega)
  refine Eq.trans ?_ (Eq.trans key (zz_loop_map ?_))
  · show _ = zz_loop _ (zi 0, HG m (l.set ro (.inl (7, 30, .inr (.inr (.inr (.inr (fns 0 1 n 0)))))) ++ []) g, n + 0, 8 + 0, 1242 + 9 * 0)
    rw [fns_0, List.append_nil]
    have : l.set ro (.inl (7, 30, .inr (.inr (.inr (.inr (fun _ => none)))))) = l := by
      apply List.ext_getElem?
      intro j
      rw [List.getElem?_set]
      by_cases e : ro = j
      · subst e
        rw [if_pos rfl, if_pos hol, hro]
      · rw [if_neg e]
    rw [this]
    rfl
  · show f_X10_init_L58 h0 a a1 (zi 30) (HG m (l.set ro (.inl (7, 30, .inr (.inr (.inr (.inr (fns 0 1 n 30)))))) ++ List.replicate 30 rc) g) (n + 30) (8 + 30) (1242 + 9 * 30) = _
    unfold f_X10_init_L58
    refine Eq.trans (st_gR ha (hsl _ _) hfs) ?_
    refine Eq.trans (st_call (zl_N_of (HG_at rfl (hrl _ _)))) ?_
    rw [if_pos ((zi_le (by omega) (by omega)).mpr (by omega))]
/-- X10_holders: objects and rows, two by two -/
def hls (n : Nat) : Nat → List ZC
  | 0 => []
  | i + 1 => hls n i ++ [.inr (2, [.ref (n + 2 * i + 1), .int 0, .int 0]), .inl (1, 4, .inl (fun _ => 0))]
theorem hls_len (n : Nat) : ∀ i, (hls n i).length = 2 * i
  | 0 => rfl
  | i + 1 => by
    unfold hls
    rw [List.length_append, hls_len n i]
    simp
    omega
theorem X10_holders {h0 : ZH} {a1 : Int32} {so ro : Nat} {fs : List Value} (hso : l[so]? = some (.inr (8, fs))) (hfs : fs[3]? = some (.ref (m + ro))) (hro : l[ro]? = some (.inl (5, 4, .inr (.inr (.inr (.inr (fun _ => none))))))) (hne : ro ≠ so) (ha : a = m + so) (hn : n = m + l.length) :
    zz_loop (fun st : (Int32 × ZH × Nat × Nat × Nat) => f_X10_init_L88 h0 a a1 (st.1) (st.2.1) (st.2.2.1) (st.2.2.2.1) (st.2.2.2.2)) (0, HG m l g, n, 38, 1512) = some (HG m (l.set ro (.inl (5, 4, .inr (.inr (.inr (.inr (fns 0 2 n 4)))))) ++ hls n 4) g, n + 8) := by
  obtain ⟨hol, -⟩ := List.getElem?_eq_some_iff.mp hro
  have hsl : ∀ (x : ZC) (y : List ZC), (l.set ro x ++ y)[so]? = some (.inr (8, fs)) := fun x y => app_lt (by rw [List.getElem?_set_ne hne, hso])
  have hrl : ∀ (x : ZC) (y : List ZC), (l.set ro x ++ y)[ro]? = some x := fun x y => app_lt (by rw [List.getElem?_set_self hol])
  have key := loop_to (b := fun st : (Int32 × ZH × Nat × Nat × Nat) => f_X10_init_L88 h0 a a1 (st.1) (st.2.1) (st.2.2.1) (st.2.2.2.1) (st.2.2.2.2)) (fun i => (zi i, HG m (l.set ro (.inl (5, 4, .inr (.inr (.inr (.inr (fns 0 2 n i)))))) ++ hls n i) g, n + 2 * i, 38 + 2 * i, 1512 + 7 * i)) 0 4 (by decide) (fun i _ hi => by
    show f_X10_init_L88 h0 a a1 (zi i) (HG m (l.set ro (.inl (5, 4, .inr (.inr (.inr (.inr (fns 0 2 n i)))))) ++ hls n i) g) (n + 2 * i) (38 + 2 * i) (1512 + 7 * i) = _
    have len : (l.set ro (.inl (5, 4, .inr (.inr (.inr (.inr (fns 0 2 n i)))))) ++ hls n i).length = l.length + 2 * i := by
      rw [List.length_append, List.length_set, hls_len]
    unfold f_X10_init_L88
    refine Eq.trans (st_gR ha (hsl _ _) hfs) ?_
    refine Eq.trans (st_call (zl_N_of (HG_at rfl (hrl _ _)))) ?_
    rw [if_neg (fun q => absurd ((zi_le (by omega) (by omega)).mp q) (by omega))]
    refine Eq.trans (st_gR ha (hsl _ _) hfs) ?_
    refine Eq.trans (st_new (by omega) (by rw [len]; omega) rfl) ?_
    refine Eq.trans (st_bud (by omega)) ?_
    refine Eq.trans (st_call (X3_make rfl (by rw [len]; omega) (by rw [len]; omega) (List.append_assoc _ _ _))) ?_
    dsimp only
    rw [zz_isO_of (fs := [.ref (n + 2 * i + 1), .int 0, .int 0]) (HG_at (o := l.length + 2 * i) (by rw [hn]; omega) (by rw [← List.append_assoc, ← len, List.getElem?_append_right (Nat.le_refl _)]; simp)), HG_stR rfl (hrl _ _) hi (by decide), Option.bind_some, zi_one, List.set_append_left _ _ (by rw [List.length_set]; exact hol), List.set_set, fns_up]
    congr 5)
  refine Eq.trans ?_ (Eq.trans key (zz_loop_map ?_))
  · show _ = zz_loop _ (zi 0, HG m (l.set ro (.inl (5, 4, .inr (.inr (.inr (.inr (fns 0 2 n 0)))))) ++ []) g, n + 2 * 0, 38 + 2 * 0, 1512 + 7 * 0)
    rw [fns_0, List.append_nil]
    have : l.set ro (.inl (5, 4, .inr (.inr (.inr (.inr (fun _ => none)))))) = l := by
      apply List.ext_getElem?
      intro j
      rw [List.getElem?_set]
      by_cases e : ro = j
      · subst e
        rw [if_pos rfl, if_pos hol, hro]
      · rw [if_neg e]
    rw [this]
    rfl
  · show f_X10_init_L88 h0 a a1 (zi 4) (HG m (l.set ro (.inl (5, 4, .inr (.inr (.inr (.inr (fns 0 2 n 4)))))) ++ hls n 4) g) (n + 2 * 4) (38 + 2 * 4) (1512 + 7 * 4) = _
    unfold f_X10_init_L88
    refine Eq.trans (st_gR ha (hsl _ _) hfs) ?_
    refine Eq.trans (st_call (zl_N_of (HG_at rfl (hrl _ _)))) ?_
    rw [if_pos ((zi_le (by omega) (by omega)).mpr (by omega)), st_bud (by omega)]
/-- X7_points: objects and rows, two by two -/
def pts (n : Nat) : Nat → List ZC
  | 0 => []
  | i + 1 => pts n i ++ [.inr (3, [.ref (n + 2 * i + 1), .int 0, .int 0, .int 0, .int (-2)]), .inl (1, 8, .inl (fun _ => 0))]
theorem pts_len (n : Nat) : ∀ i, (pts n i).length = 2 * i
  | 0 => rfl
  | i + 1 => by
    unfold pts
    rw [List.length_append, pts_len n i]
    simp
    omega
theorem X7_points {h0 : ZH} {a1 a2 : Nat} {so ro : Nat} {fs : List Value} (hso : l[so]? = some (.inr (5, fs))) (hfs : fs[2]? = some (.ref (m + ro))) (hro : l[ro]? = some (.inl (6, 4, .inr (.inr (.inr (.inr (fun _ => none))))))) (hne : ro ≠ so) (ha : a = m + so) (hn : n = m + l.length) :
    zz_loop (fun st : (Int32 × ZH × Nat × Nat × Nat) => f_X7_init_L47 h0 a a1 a2 (st.1) (st.2.1) (st.2.2.1) (st.2.2.2.1) (st.2.2.2.2)) (0, HG m l g, n, 4, 88) = some (HG m (l.set ro (.inl (6, 4, .inr (.inr (.inr (.inr (fns 0 2 n 4)))))) ++ pts n 4) g, n + 8) := by
  obtain ⟨hol, -⟩ := List.getElem?_eq_some_iff.mp hro
  have hsl : ∀ (x : ZC) (y : List ZC), (l.set ro x ++ y)[so]? = some (.inr (5, fs)) := fun x y => app_lt (by rw [List.getElem?_set_ne hne, hso])
  have hrl : ∀ (x : ZC) (y : List ZC), (l.set ro x ++ y)[ro]? = some x := fun x y => app_lt (by rw [List.getElem?_set_self hol])
  have key := loop_to (b := fun st : (Int32 × ZH × Nat × Nat × Nat) => f_X7_init_L47 h0 a a1 a2 (st.1) (st.2.1) (st.2.2.1) (st.2.2.2.1) (st.2.2.2.2)) (fun i => (zi i, HG m (l.set ro (.inl (6, 4, .inr (.inr (.inr (.inr (fns 0 2 n i)))))) ++ pts n i) g, n + 2 * i, 4 + 2 * i, 88 + 13 * i)) 0 4 (by decide) (fun i _ hi => by
    show f_X7_init_L47 h0 a a1 a2 (zi i) (HG m (l.set ro (.inl (6, 4, .inr (.inr (.inr (.inr (fns 0 2 n i)))))) ++ pts n i) g) (n + 2 * i) (4 + 2 * i) (88 + 13 * i) = _
    have len : (l.set ro (.inl (6, 4, .inr (.inr (.inr (.inr (fns 0 2 n i)))))) ++ pts n i).length = l.length + 2 * i := by
      rw [List.length_append, List.length_set, pts_len]
    unfold f_X7_init_L47
    refine Eq.trans (st_gR ha (hsl _ _) hfs) ?_
    refine Eq.trans (st_call (zl_N_of (HG_at rfl (hrl _ _)))) ?_
    rw [if_neg (fun q => absurd ((zi_le (by omega) (by omega)).mp q) (by omega))]
    refine Eq.trans (st_gR ha (hsl _ _) hfs) ?_
    refine Eq.trans (st_new (by omega) (by rw [len]; omega) rfl) ?_
    refine Eq.trans (st_bud (by omega)) ?_
    refine Eq.trans (st_call (X4_make rfl (by rw [len]; omega) (by rw [len]; omega) (List.append_assoc _ _ _))) ?_
    dsimp only
    rw [zz_isO_of (fs := [.ref (n + 2 * i + 1), .int 0, .int 0, .int 0, .int (-2)]) (HG_at (o := l.length + 2 * i) (by rw [hn]; omega) (by rw [← List.append_assoc, ← len, List.getElem?_append_right (Nat.le_refl _)]; simp)), HG_stR rfl (hrl _ _) hi (by decide), Option.bind_some, zi_one, List.set_append_left _ _ (by rw [List.length_set]; exact hol), List.set_set, fns_up]
    congr 5)
  refine Eq.trans ?_ (Eq.trans key (zz_loop_map ?_))
  · show _ = zz_loop _ (zi 0, HG m (l.set ro (.inl (6, 4, .inr (.inr (.inr (.inr (fns 0 2 n 0)))))) ++ []) g, n + 2 * 0, 4 + 2 * 0, 88 + 13 * 0)
    rw [fns_0, List.append_nil]
    have : l.set ro (.inl (6, 4, .inr (.inr (.inr (.inr (fun _ => none)))))) = l := by
      apply List.ext_getElem?
      intro j
      rw [List.getElem?_set]
      by_cases e : ro = j
      · subst e
        rw [if_pos rfl, if_pos hol, hro]
      · rw [if_neg e]
    rw [this]
    rfl
  · show f_X7_init_L47 h0 a a1 a2 (zi 4) (HG m (l.set ro (.inl (6, 4, .inr (.inr (.inr (.inr (fns 0 2 n 4)))))) ++ pts n 4) g) (n + 2 * 4) (4 + 2 * 4) (88 + 13 * 4) = _
    unfold f_X7_init_L47
    refine Eq.trans (st_gR ha (hsl _ _) hfs) ?_
    refine Eq.trans (st_call (zl_N_of (HG_at rfl (hrl _ _)))) ?_
    rw [if_pos ((zi_le (by omega) (by omega)).mpr (by omega)), st_bud (by omega)]
end
