/-! ===== small numbers as ints ===== -/
def zi (n : Nat) : Int32 := Int32.ofNat n
theorem zi_nat {n : Nat} (h : n < 2147483648) : (zi n).toNatClampNeg = n := Int32.toNatClampNeg_ofNat_of_lt h
theorem zi_int {n : Nat} (h : n < 2147483648) : (zi n).toInt = n := Int32.toInt_ofNat_of_lt h
theorem zi_neg {n : Nat} (h : n < 2147483648) : ¬ zi n < 0 := by
  rw [Int32.lt_iff_toInt_lt, zi_int h]
  show ¬ (n : Int) < 0
  omega
theorem zi_lt {a b : Nat} (ha : a < 2147483648) (hb : b < 2147483648) : zi a < zi b ↔ a < b := by
  rw [Int32.lt_iff_toInt_lt, zi_int ha, zi_int hb]
  omega
theorem zi_le {a b : Nat} (ha : a < 2147483648) (hb : b < 2147483648) : zi a ≤ zi b ↔ a ≤ b := by
  rw [Int32.le_iff_toInt_le, zi_int ha, zi_int hb]
  omega
theorem zi_eq {a b : Nat} (ha : a < 2147483648) (hb : b < 2147483648) : zi a = zi b ↔ a = b := by
  rw [← Int32.toInt_inj, zi_int ha, zi_int hb]
  omega
theorem zi_add (a b : Nat) : zi a + zi b = zi (a + b) := (Int32.ofNat_add a b).symm
theorem zi_one (a : Nat) : zi a + (1 : Int32) = zi (a + 1) := zi_add a 1
theorem zi_mul (a b : Nat) : zi a * zi b = zi (a * b) := (Int32.ofNat_mul a b).symm
theorem zi_sub {a b : Nat} (h : b ≤ a) : zi a - zi b = zi (a - b) := by
  have h1 : zi (a - b) + zi b = zi a := by rw [zi_add]; congr 1; omega
  rw [← h1, Int32.add_sub_cancel]
theorem zi_dec {a : Nat} (h : 0 < a) : zi a + (-1 : Int32) = zi (a - 1) := by
  have h1 : zi (a - 1) + zi 1 = zi a := by rw [zi_add]; congr 1; omega
  rw [← h1, Int32.add_assoc]
  show zi (a - 1) + (zi 1 + -1) = _
  rw [show zi 1 + (-1 : Int32) = 0 from rfl, Int32.add_zero]
/-- an int that isn't below 0 is a small number -/
theorem zi_of {x : Int32} (h : ¬ x < 0) : x = zi x.toNatClampNeg ∧ x.toNatClampNeg < 2147483648 := by
  have h0 : (0 : Int) ≤ x.toInt := by
    rw [Int32.lt_iff_toInt_lt] at h
    have : (0 : Int32).toInt = 0 := rfl
    omega
  have h1 : x.toNatClampNeg = x.toInt.toNat := rfl
  have h2 : x.toInt < 2147483648 := Int32.toInt_lt x
  have h3 : x.toNatClampNeg < 2147483648 := by omega
  refine ⟨?_, h3⟩
  rw [← Int32.toInt_inj, zi_int h3]
  omega
theorem zi_L (k : Nat) : (OfNat.ofNat k : Int32) = zi k := rfl
theorem zi_leL {a k : Nat} (ha : a < 2147483648) (hk : (OfNat.ofNat k : Nat) < 2147483648) : zi a ≤ (no_index (OfNat.ofNat k) : Int32) ↔ a ≤ (OfNat.ofNat k : Nat) := zi_le ha hk
theorem zi_Lle {a k : Nat} (ha : a < 2147483648) (hk : (OfNat.ofNat k : Nat) < 2147483648) : (no_index (OfNat.ofNat k) : Int32) ≤ zi a ↔ (OfNat.ofNat k : Nat) ≤ a := zi_le hk ha
theorem zi_ltL {a k : Nat} (ha : a < 2147483648) (hk : (OfNat.ofNat k : Nat) < 2147483648) : zi a < (no_index (OfNat.ofNat k) : Int32) ↔ a < (OfNat.ofNat k : Nat) := zi_lt ha hk
theorem zi_Llt {a k : Nat} (ha : a < 2147483648) (hk : (OfNat.ofNat k : Nat) < 2147483648) : (no_index (OfNat.ofNat k) : Int32) < zi a ↔ (OfNat.ofNat k : Nat) < a := zi_lt hk ha
theorem zi_eqL {a k : Nat} (ha : a < 2147483648) (hk : (OfNat.ofNat k : Nat) < 2147483648) : zi a = (no_index (OfNat.ofNat k) : Int32) ↔ a = (OfNat.ofNat k : Nat) := zi_eq ha hk
theorem zi_Leq {a k : Nat} (ha : a < 2147483648) (hk : (OfNat.ofNat k : Nat) < 2147483648) : (no_index (OfNat.ofNat k) : Int32) = zi a ↔ (OfNat.ofNat k : Nat) = a := zi_eq hk ha
theorem zi_addL {a k : Nat} : zi a + (no_index (OfNat.ofNat k) : Int32) = zi (a + (OfNat.ofNat k : Nat)) := zi_add a k
theorem zi_Ladd {a k : Nat} : (no_index (OfNat.ofNat k) : Int32) + zi a = zi ((OfNat.ofNat k : Nat) + a) := zi_add k a
theorem zi_Lmul {a k : Nat} : (no_index (OfNat.ofNat k) : Int32) * zi a = zi ((OfNat.ofNat k : Nat) * a) := zi_mul k a
theorem zi_subL {a k : Nat} (h : (OfNat.ofNat k : Nat) ≤ a) : zi a - (no_index (OfNat.ofNat k) : Int32) = zi (a - (OfNat.ofNat k : Nat)) := zi_sub h
/-! ===== reading by facts ===== -/
theorem zg_I_of {h : ZH} {a ci k : Nat} {fs : List Value} {v : Int32} (ha : h a = some (.inr (ci, fs))) (hk : fs[k]? = some (.int v)) : zg_I h a ci k = some v := by
  simp [zg_I, zg_V, ha, hk, zz_asI]
theorem zg_R_of {h : ZH} {a ci k : Nat} {fs : List Value} {v : Nat} (ha : h a = some (.inr (ci, fs))) (hk : fs[k]? = some (.ref v)) : zg_R h a ci k = some v := by
  simp [zg_R, zg_V, ha, hk, zz_asR]
theorem zl_I_of {h : ZH} {a t n i : Nat} {f : Nat → Int32} (ha : h a = some (.inl (t, n, .inl f))) (hi : i < n) (hn : n < 2147483648) : zl_I h a t (zi i) = some (f i) := by
  have h1 : i < 2147483648 := by omega
  simp only [zl_I, ha, zi_nat h1]
  rw [if_pos ⟨trivial, fun q => q.elim (zi_neg h1) (by omega)⟩]
theorem zl_N_of {h : ZH} {a t n : Nat} {f : (Nat → Int32) ⊕ (Nat → Int64) ⊕ (Nat → UInt32) ⊕ (Nat → UInt64) ⊕ (Nat → Option Nat)} (ha : h a = some (.inl (t, n, f))) : zl_N h a t = some (zi n) := by
  simp [zl_N, ha, zi]
theorem zs_I_of {h : ZH} {a t n i : Nat} {f : Nat → Int32} {v : Int32} (ha : h a = some (.inl (t, n, .inl f))) (hi : i < n) (hn : n < 2147483648) : zs_I h a t (zi i) v = some (va_up h a (some (.inl (t, n, .inl (va_up f i v))))) := by
  have h1 : i < 2147483648 := by omega
  simp only [zs_I, ha, zi_nat h1]
  rw [if_pos ⟨trivial, fun q => q.elim (zi_neg h1) (by omega)⟩]
theorem zz_isO_of {β : Type} {h : ZH} {a ci : Nat} {fs : List Value} {o : Option β} (ha : h a = some (.inr (ci, fs))) : zz_isO h a ci o = o := by
  simp [zz_isO, ha]
theorem zl_Q_of {h : ZH} {a t n i : Nat} {f : Nat → Option Nat} (ha : h a = some (.inl (t, n, .inr (.inr (.inr (.inr f)))))) (hi : i < n) (hn : n < 2147483648) : zl_Q h a t (zi i) = some (f i) := by
  have h1 : i < 2147483648 := by omega
  simp only [zl_Q, ha, zi_nat h1]
  rw [if_pos ⟨trivial, fun q => q.elim (zi_neg h1) (by omega)⟩]
theorem zl_R_of {h : ZH} {a t n i v : Nat} {f : Nat → Option Nat} (ha : h a = some (.inl (t, n, .inr (.inr (.inr (.inr f)))))) (hi : i < n) (hn : n < 2147483648) (hv : f i = some v) : zl_R h a t (zi i) = some v := by
  rw [zl_R, zl_Q_of ha hi hn, Option.bind_some, hv]
/-! ===== Bytes: L bytes f at the object a ===== -/
def Byt (h : ZH) (a L : Nat) (f : Nat → Int32) : Prop := ∃ r C : Nat, h a = some (.inr (0, [.ref r, .int (zi L)])) ∧ h r = some (.inl (0, C, .inl f)) ∧ L ≤ C ∧ C ≤ 600
/-- the byte at a place, or -1 -/
def bt (f : Nat → Int32) (L i : Nat) : Int32 := if i < L then f i &&& 255 else -1
theorem X0_at {h : ZH} {a L i : Nat} {f : Nat → Int32} (hB : Byt h a L f) (hi : i < 2147483648) : f_X0_at h a (zi i) = some (bt f L i) := by
  obtain ⟨r, C, h1, h2, h3, h4⟩ := hB
  unfold f_X0_at bt
  rw [if_neg (zi_neg hi), zg_I_of h1 rfl, Option.bind_some]
  by_cases hL : i < L
  · rw [if_neg (by rw [zi_le (by omega) hi]; omega), zg_R_of h1 rfl, Option.bind_some, zl_N_of h2, Option.bind_some, if_pos (by rw [zi_lt hi (by omega)]; omega), Option.bind_some, zl_I_of h2 (by omega) (by omega), Option.bind_some, if_pos hL]
  · rw [if_pos (by rw [zi_le (by omega) hi]; omega), if_neg hL]
/-! ===== functions that are changed at places ===== -/
theorem up_self {α : Type} (f : Nat → α) (k : Nat) (v : α) : va_up f k v k = v := by simp [va_up]
theorem up_ne {α : Type} (f : Nat → α) {k j : Nat} (v : α) (h : j ≠ k) : va_up f k v j = f j := by simp [va_up, h]
theorem up_up {α : Type} (f : Nat → α) (k : Nat) (v w : α) : va_up (va_up f k v) k w = va_up f k w := by
  funext j
  by_cases h : j = k <;> simp [va_up, h]
theorem up_id {α : Type} (f : Nat → α) (k : Nat) : va_up f k (f k) = f := by
  funext j
  by_cases h : j = k <;> simp [va_up, h]
theorem up_comm {α : Type} (f : Nat → α) {k j : Nat} (v w : α) (h : k ≠ j) : va_up (va_up f k v) j w = va_up (va_up f j w) k v := by
  funext i
  by_cases h1 : i = k <;> by_cases h2 : i = j <;> simp [va_up, h1, h2] <;> omega
/-- n places from lo on are written -/
def bw {α : Type} (f : Nat → α) (lo n : Nat) (src : Nat → α) : Nat → α := fun k => if lo ≤ k ∧ k < lo + n then src (k - lo) else f k
theorem bw_0 {α : Type} (f : Nat → α) (lo : Nat) (src : Nat → α) : bw f lo 0 src = f := by
  funext k
  unfold bw
  rw [if_neg (by omega)]
theorem bw_up {α : Type} (f : Nat → α) (lo n : Nat) (src : Nat → α) : va_up (bw f lo n src) (lo + n) (src n) = bw f lo (n + 1) src := by
  funext k
  unfold bw va_up
  by_cases h : k = lo + n
  · subst h
    rw [if_pos rfl, if_pos (by omega), Nat.add_sub_cancel_left]
  · rw [if_neg h]
    show (if lo ≤ k ∧ k < lo + n then src (k - lo) else f k) = _
    by_cases h2 : lo ≤ k ∧ k < lo + n
    · rw [if_pos h2, if_pos (by omega)]
    · rw [if_neg h2, if_neg (by omega)]
theorem bw_in {α : Type} {f : Nat → α} {lo n : Nat} {src : Nat → α} {k : Nat} (h : k < n) : bw f lo n src (lo + k) = src k := by
  unfold bw
  rw [if_pos (by omega), Nat.add_sub_cancel_left]
theorem bw_out {α : Type} {f : Nat → α} {lo n : Nat} {src : Nat → α} {k : Nat} (h : ¬ (lo ≤ k ∧ k < lo + n)) : bw f lo n src k = f k := by
  unfold bw
  rw [if_neg h]
/-! ===== loops ===== -/
theorem zz_loop_tot {σ ρ : Type} {b : σ → Option (σ ⊕ ρ)} (I : σ → Prop) (μ : σ → Nat) (Q : ρ → Prop) (step : ∀ s, I s → (∃ s', b s = some (.inl s') ∧ I s' ∧ μ s' < μ s) ∨ ∃ r, b s = some (.inr r) ∧ Q r) (s : σ) (hs : I s) : ∃ r, zz_loop b s = some r ∧ Q r := by
  have key : ∀ (n : Nat) (s : σ), μ s < n → I s → ∃ r, zz_loop b s = some r ∧ Q r := by
    intro n
    induction n with
    | zero => intro s h; omega
    | succ n ih =>
      intro s hn hs
      rcases step s hs with ⟨s', h1, h2, h3⟩ | ⟨r, h1, h2⟩
      · rw [zz_loop_inl h1]
        exact ih s' (by omega) h2
      · exact ⟨r, zz_loop_inr h1, h2⟩
  exact key (μ s + 1) s (by omega) hs
/-- a loop that counts up to N, its other state a function of the count -/
theorem loop_cnt {τ ρ : Type} {b : (Int32 × τ) → Option ((Int32 × τ) ⊕ ρ)} (N : Nat) (st : Nat → τ) (r : ρ) (i0 : Nat) (hi0 : i0 ≤ N) (step : ∀ i, i0 ≤ i → i < N → b (zi i, st i) = some (.inl (zi (i + 1), st (i + 1)))) (fin : b (zi N, st N) = some (.inr r)) : zz_loop b (zi i0, st i0) = some r := by
  have key : ∀ (d i : Nat), i0 ≤ i → i ≤ N → N - i = d → zz_loop b (zi i, st i) = some r := by
    intro d
    induction d with
    | zero =>
      intro i h0 h1 h2
      have e : i = N := by omega
      subst e
      exact zz_loop_inr fin
    | succ d ih =>
      intro i h0 h1 h2
      rw [zz_loop_inl (step i h0 (by omega))]
      exact ih (i + 1) (by omega) (by omega) (by omega)
  exact key _ i0 (Nat.le_refl _) hi0 rfl
/-- a loop along a row of states -/
theorem loop_seq {σ ρ : Type} {b : σ → Option (σ ⊕ ρ)} (N : Nat) (st : Nat → σ) (r : ρ) (step : ∀ i, i < N → b (st i) = some (.inl (st (i + 1)))) (fin : b (st N) = some (.inr r)) : zz_loop b (st 0) = some r := by
  have key : ∀ (d i : Nat), i ≤ N → N - i = d → zz_loop b (st i) = some r := by
    intro d
    induction d with
    | zero =>
      intro i h1 h2
      have e : i = N := by omega
      subst e
      exact zz_loop_inr fin
    | succ d ih =>
      intro i h1 h2
      rw [zz_loop_inl (step i (by omega))]
      exact ih (i + 1) (by omega) (by omega)
  exact key _ 0 (Nat.zero_le _) rfl
/-- the first place from i on, of n places, where ex answers; else fin -/
def srch {ρ : Type} (ex : Nat → Option ρ) (fin : ρ) : Nat → Nat → ρ
  | 0, _ => fin
  | n + 1, i => match ex i with
    | some r => r
    | none => srch ex fin n (i + 1)
theorem loop_srch {ρ : Type} {b : Int32 → Option (Int32 ⊕ ρ)} (N : Nat) (ex : Nat → Option ρ) (fin : ρ) (i0 : Nat) (hi0 : i0 ≤ N) (step : ∀ i, i0 ≤ i → i < N → b (zi i) = some (match ex i with | some r => .inr r | none => .inl (zi (i + 1)))) (hfin : b (zi N) = some (.inr fin)) : zz_loop b (zi i0) = some (srch ex fin (N - i0) i0) := by
  have key : ∀ (d i : Nat), i0 ≤ i → i ≤ N → N - i = d → zz_loop b (zi i) = some (srch ex fin d i) := by
    intro d
    induction d with
    | zero =>
      intro i h0 h1 h2
      have e : i = N := by omega
      subst e
      exact zz_loop_inr hfin
    | succ d ih =>
      intro i h0 h1 h2
      have hs := step i h0 (by omega)
      unfold srch
      cases he : ex i with
      | some r => rw [he] at hs; exact zz_loop_inr hs
      | none =>
        rw [he] at hs
        rw [zz_loop_inl hs]
        exact ih (i + 1) (by omega) (by omega) (by omega)
  exact key _ i0 (Nat.le_refl _) hi0 rfl
theorem srch_congr {ρ : Type} {ex ex' : Nat → Option ρ} {fin : ρ} : ∀ (n i : Nat), (∀ j, i ≤ j → j < i + n → ex j = ex' j) → srch ex fin n i = srch ex' fin n i
  | 0, _, _ => rfl
  | n + 1, i, h => by
    unfold srch
    rw [h i (by omega) (by omega)]
    cases ex' i with
    | some r => rfl
    | none => exact srch_congr n (i + 1) (fun j h1 h2 => h j (by omega) (by omega))
/-! ===== truth as an int ===== -/
def b01 (P : Prop) [Decidable P] : Int32 := if P then 1 else 0
theorem b01_t {P : Prop} [Decidable P] (h : P) : b01 P = 1 := if_pos h
theorem b01_f {P : Prop} [Decidable P] (h : ¬ P) : b01 P = 0 := if_neg h
theorem b01_0 {P : Prop} [Decidable P] : b01 P = 0 ↔ ¬ P := by
  unfold b01
  by_cases h : P
  · rw [if_pos h]; exact ⟨fun q => absurd q (by decide), fun q => absurd h q⟩
  · rw [if_neg h]; exact ⟨fun _ => h, fun _ => rfl⟩
theorem b01_ok {P : Prop} [Decidable P] {β : Type} {o : Option β} : zz_ok (b01 P = 0 ∨ b01 P = 1) o = o := by
  unfold zz_ok
  rw [if_pos]
  by_cases h : P
  · exact Or.inr (b01_t h)
  · exact Or.inl (b01_f h)
theorem b01_congr {P Q : Prop} [Decidable P] [Decidable Q] (h : P ↔ Q) : b01 P = b01 Q := by
  by_cases hp : P
  · rw [b01_t hp, b01_t (h.mp hp)]
  · rw [b01_f hp, b01_f (fun q => hp (h.mpr q))]

/-! ===== the first place where p holds ===== -/
def fsr (p : Nat → Bool) : Nat → Nat → Nat
  | 0, i => i
  | n + 1, i => if p i then i else fsr p n (i + 1)
theorem fsr_spec (p : Nat → Bool) : ∀ (n i : Nat), i ≤ fsr p n i ∧ fsr p n i ≤ i + n ∧ (∀ j, i ≤ j → j < fsr p n i → p j = false) ∧ (fsr p n i < i + n → p (fsr p n i) = true)
  | 0, i => ⟨Nat.le_refl _, Nat.le_refl _, fun j h1 h2 => by unfold fsr at h2; omega, fun h => by unfold fsr at h; omega⟩
  | n + 1, i => by
    unfold fsr
    by_cases h : p i = true
    · rw [if_pos h]
      exact ⟨Nat.le_refl _, by omega, fun j h1 h2 => by omega, fun _ => h⟩
    · rw [if_neg h]
      obtain ⟨h1, h2, h3, h4⟩ := fsr_spec p n (i + 1)
      refine ⟨by omega, by omega, fun j h5 h6 => ?_, fun h5 => h4 (by omega)⟩
      by_cases e : j = i
      · subst e
        exact Bool.eq_false_iff.mpr h
      · exact h3 j (by omega) h6
theorem fsr_eq {p : Nat → Bool} {n i k : Nat} (h1 : i ≤ k) (h2 : k ≤ i + n) (h3 : ∀ j, i ≤ j → j < k → p j = false) (h4 : k < i + n → p k = true) : fsr p n i = k := by
  obtain ⟨g1, g2, g3, g4⟩ := fsr_spec p n i
  rcases Nat.lt_trichotomy (fsr p n i) k with h | h | h
  · have := h3 _ g1 h
    rw [g4 (by omega)] at this
    cases this
  · exact h
  · have := g3 k h1 h
    rw [h4 (by omega)] at this
    cases this
theorem fsr_step {p : Nat → Bool} {i : Nat} : fsr p (i + 1) 0 < i + 1 ↔ (fsr p i 0 < i ∨ p i = true) := by
  obtain ⟨g1, g2, g3, g4⟩ := fsr_spec p (i + 1) 0
  obtain ⟨k1, k2, k3, k4⟩ := fsr_spec p i 0
  constructor
  · intro h
    by_cases hi : fsr p (i + 1) 0 = i
    · rw [hi] at g4
      exact Or.inr (g4 (by omega))
    · refine Or.inl ?_
      by_cases h2 : fsr p i 0 < i
      · exact h2
      · have := k3 (fsr p (i + 1) 0) (by omega) (by omega)
        rw [g4 (by omega)] at this
        cases this
  · intro h
    by_cases h2 : fsr p (i + 1) 0 < i + 1
    · exact h2
    · rcases h with h | h
      · have := g3 (fsr p i 0) (by omega) (by omega)
        rw [k4 (by omega)] at this
        cases this
      · have := g3 i (by omega) (by omega)
        rw [h] at this
        cases this
theorem fsr_congr {p q : Nat → Bool} {n i : Nat} (h : ∀ j, i ≤ j → j < i + n → p j = q j) : fsr p n i = fsr q n i := by
  obtain ⟨g1, g2, g3, g4⟩ := fsr_spec q n i
  refine fsr_eq g1 g2 (fun j h1 h2 => ?_) (fun h1 => ?_)
  · rw [h j h1 (by omega)]
    exact g3 j h1 h2
  · rw [h _ g1 h1]
    exact g4 h1
theorem zz_loop_map {σ ρ : Type} {b : σ → Option (σ ⊕ ρ)} {s : σ} {o : Option ρ} (h : b s = o.map Sum.inr) : zz_loop b s = o := by
  cases o with
  | some r => exact zz_loop_inr h
  | none =>
    cases hx : zz_loop b s with
    | none => rfl
    | some r =>
      obtain ⟨n, hn⟩ := zz_loop_iff.mp hx
      cases n with
      | zero => cases hn
      | succ n =>
        unfold zz_wh at hn
        rw [h] at hn
        cases hn
/-- a loop that goes on from i0 to k -/
theorem loop_to {σ ρ : Type} {b : σ → Option (σ ⊕ ρ)} (st : Nat → σ) (i0 k : Nat) (h0 : i0 ≤ k) (step : ∀ i, i0 ≤ i → i < k → b (st i) = some (.inl (st (i + 1)))) : zz_loop b (st i0) = zz_loop b (st k) := by
  have key : ∀ (d i : Nat), i0 ≤ i → i ≤ k → k - i = d → zz_loop b (st i) = zz_loop b (st k) := by
    intro d
    induction d with
    | zero =>
      intro i h0 h1 h2
      have e : i = k := by omega
      rw [e]
    | succ d ih =>
      intro i h0 h1 h2
      rw [zz_loop_inl (step i h0 (by omega))]
      exact ih (i + 1) (by omega) (by omega) (by omega)
  exact key _ i0 (Nat.le_refl _) h0 rfl
/-- two loops in step -/
theorem loop_rel {σ1 σ2 ρ1 ρ2 : Type} {b1 : σ1 → Option (σ1 ⊕ ρ1)} {b2 : σ2 → Option (σ2 ⊕ ρ2)} (Rl : σ1 → σ2 → Prop) (Qr : ρ1 → ρ2 → Prop) (μ : σ1 → Nat) (step : ∀ s1 s2, Rl s1 s2 → (∃ s1' s2', b1 s1 = some (.inl s1') ∧ b2 s2 = some (.inl s2') ∧ Rl s1' s2' ∧ μ s1' < μ s1) ∨ (∃ r1 r2, b1 s1 = some (.inr r1) ∧ b2 s2 = some (.inr r2) ∧ Qr r1 r2)) (s1 : σ1) (s2 : σ2) (h : Rl s1 s2) : ∃ r1 r2, zz_loop b1 s1 = some r1 ∧ zz_loop b2 s2 = some r2 ∧ Qr r1 r2 := by
  have key : ∀ (n : Nat) (s1 : σ1) (s2 : σ2), μ s1 < n → Rl s1 s2 → ∃ r1 r2, zz_loop b1 s1 = some r1 ∧ zz_loop b2 s2 = some r2 ∧ Qr r1 r2 := by
    intro n
    induction n with
    | zero => intro s1 s2 h; omega
    | succ n ih =>
      intro s1 s2 hn h
      rcases step s1 s2 h with ⟨s1', s2', e1, e2, h1, h2⟩ | ⟨r1, r2, e1, e2, h1⟩
      · rw [zz_loop_inl e1, zz_loop_inl e2]
        exact ih s1' s2' (by omega) h1
      · exact ⟨r1, r2, zz_loop_inr e1, zz_loop_inr e2, h1⟩
  exact key (μ s1 + 1) s1 s2 (by omega) h
