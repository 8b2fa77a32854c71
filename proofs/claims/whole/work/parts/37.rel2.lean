/-! ===== bytes, lines, what a script may hold ===== -/
abbrev ltr (c : Int32) : Prop := (97 : Int32) ≤ c ∧ c ≤ 122
abbrev sgn (c : Int32) : Prop := (32 : Int32) ≤ c ∧ c ≤ 126
/-- the byte at a place, behind the last a new line -/
def mby (f : Nat → Int32) (L k : Nat) : Int32 := if k < L then f k &&& 255 else 10
/-- the end of a line -/
def le' (M : Nat → Int32) (L k : Nat) : Nat := fsr (fun j => decide (M j = 10)) (L - k) k
/-- words: none if they are right, else the place that is wrong; n letters stand before -/
def ww (M : Nat → Int32) (one : Bool) : Nat → Nat → Nat → Option Nat
  | 0, k, _ => some k
  | f + 1, k, n => if (M k = 10 ∨ (M k = 32 ∧ one = false)) ∧ 0 < n then (if M k = 10 then none else ww M one f (k + 1) 0) else if ltr (M k) ∧ n < 6 then ww M one f (k + 1) (n + 1) else some k
/-- a pattern; s: 0 outside, 1 behind [, 2 in a choice, 3 behind \ -/
def wp (M : Nat → Int32) : Nat → Nat → Nat → Option Nat
  | 0, k, _ => some k
  | f + 1, k, s => if M k = 10 then (if s = 0 then none else some k) else if ¬ sgn (M k) ∨ (s = 1 ∧ M k = 93) then some k else wp M f (k + 1) (if s = 3 then 0 else if s = 1 then 2 else if s = 2 then (if M k = 93 then 0 else 2) else if M k = 91 then 1 else if M k = 92 then 3 else 0)
abbrev dig (c lo hi : Int32) : Prop := lo ≤ c ∧ c ≤ hi
/-- the digits from k on, at most 6 -/
def dgs (M : Nat → Int32) (k : Nat) : Nat := fsr (fun j => decide (¬ dig (M (k + j)) 48 57)) 6 0
def wf (M : Nat → Int32) (k : Nat) : Option Nat :=
  if ¬ dig (M k) 48 55 then some k else if M (k + 1) ≠ 32 then some (k + 1) else
  (let c := if M (k + 2) = 45 then k + 3 else k + 2
   if 0 < dgs M c ∧ M (c + dgs M c) = 10 then none else some (c + dgs M c))
def wd (M : Nat → Int32) (k : Nat) (lo hi : Int32) : Option Nat := if ¬ dig (M k) lo hi then some k else if M (k + 1) ≠ 10 then some (k + 1) else none
abbrev knd (c : Int32) : Prop := c = 62 ∨ c = 61 ∨ c = 63 ∨ c = 64 ∨ c = 33 ∨ c = 115 ∨ c = 98 ∨ c = 35
/-- a line -/
def wl (M : Nat → Int32) (k : Nat) : Option Nat :=
  if ¬ knd (M k) then some k else if M (k + 1) ≠ 32 then some (k + 1) else
  if M k = 62 then ww M false 601 (k + 2) 0 else if M k = 61 then wp M 601 (k + 2) 0 else if M k = 63 then wf M (k + 2) else if M k = 64 then wd M (k + 2) 48 55 else if M k = 33 then wd M (k + 2) 49 57 else if M k = 35 then none else wd M (k + 2) 48 51
/-- a script from its line ln on, which begins at k -/
def wsc (M : Nat → Int32) (L : Nat) : Nat → Nat → Nat → Option Nat
  | 0, _, _ => none
  | f + 1, k, ln => if L ≤ k then none else if M k = 10 then wsc M L f (k + 1) (ln + 1) else if 40 < ln then some k else match wl M k with
    | some p => some p
    | none => wsc M L f (le' M L k + 1) (ln + 1)
/-! ===== the relation ===== -/
def Rtp (S V : Nat → Nat → Int32) (Sm : Nat → Int32) (Vm : Nat → Nat → Int32) (t : Nat) : Prop := S 1 1 = zi t ∧ Sm 2 = zi t ∧ t ≤ 600 ∧ ∀ i, i < t → V 2 i &&& 255 = Vm 1 i
def Rwd (V Vm : Nat → Nat → Int32) (nw : Nat) : Prop := ∀ w, w < nw → ∃ n, 1 ≤ n ∧ n ≤ 6 ∧ V 7 w = zi n ∧ Vm 6 w = zi n ∧ ∀ k, k < n → V 6 (6 * w + k) = Vm 5 (6 * w + k)
def Rtx (V Vm : Nat → Nat → Int32) (nt : Nat) : Prop := ∀ t, t < nt → ∃ n, n ≤ 20 ∧ V 10 t = zi n ∧ Vm 9 t = zi n ∧ ∀ k, k < n → V 9 (20 * t + k) = Vm 8 (20 * t + k)
def Rsc (b : Nat) (S : Nat → Nat → Int32) (Q : Nat → Option Nat) (g : ZH) (Sm : Nat → Int32) (Vm : Nat → Nat → Int32) (ns : Nat) : Prop := S 0 6 = zi ns ∧ Sm 30 = zi ns ∧ ns ≤ 10 ∧ ∀ i, i < ns → ∃ (a r L : Nat) (f : Nat → Int32), Q i = some a ∧ b + 101 ≤ a ∧ b + 101 ≤ r ∧ g a = some (.inr (0, [.ref r, .int (zi L)])) ∧ g r = some (.inl (0, L, .inl f)) ∧ L ≤ 600 ∧ Vm 32 i = zi L ∧ (∀ k, k < L → f k &&& 255 = Vm 31 (600 * i + k)) ∧ wsc (mby f L) L 601 0 1 = none
def Rfl (S V : Nat → Nat → Int32) (Sm : Nat → Int32) (Vm : Nat → Nat → Int32) (nf : Nat) : Prop := S 56 6 = zi nf ∧ Sm 35 = zi nf ∧ nf ≤ 40 ∧ ag nf (V 59) (Vm 33) ∧ ag nf (V 60) (Vm 34)
def Rel (b : Nat) (S V : Nat → Nat → Int32) (Q : Nat → Option Nat) (g : ZH) (Sm : Nat → Int32) (Vm : Nat → Nat → Int32) : Prop :=
  ∃ nr nw nt t ns nf p, Rst S V Sm Vm nr nw nt ∧ Rct S V Sm Vm ∧ Rmo S V Vm nt ∧ Sm 27 = 1 ∧ Rpl S V Sm Vm p ∧ Rtp S V Sm Vm t ∧ Rwd V Vm nw ∧ Rtx V Vm nt ∧ S 4 5 = Sm 3 ∧ Rsc b S Q g Sm Vm ns ∧ Rfl S V Sm Vm nf
/-- a heap that has g's cells behind the first -/
def Ext (b : Nat) (g g' : ZH) : Prop := ∀ q, b + 101 ≤ q → g' q = g q
theorem Rel.thr {b : Nat} {S V : Nat → Nat → Int32} {Q : Nat → Option Nat} {g : ZH} {Sm : Nat → Int32} {Vm : Nat → Nat → Int32} (v : Int32) (h : Rel b S V Q g Sm Vm) : Rel b S V Q g (va_up Sm 0 v) Vm := h
theorem inside_eq {h : ZH} {x l u : Int32} : f_X11_inside h x l u = some (b01 (l ≤ x ∧ x ≤ u)) := by
  unfold f_X11_inside
  by_cases h1 : x < l
  · rw [if_pos h1, b01_f]
    intro h2
    rw [Int32.lt_iff_toInt_lt] at h1
    have := Int32.le_iff_toInt_le.mp h2.1
    omega
  · rw [if_neg h1]
    by_cases h2 : u < x
    · rw [if_pos h2, b01_f]
      intro h3
      rw [Int32.lt_iff_toInt_lt] at h2
      have := Int32.le_iff_toInt_le.mp h3.2
      omega
    · rw [if_neg h2, b01_t]
      rw [Int32.lt_iff_toInt_lt] at h1 h2
      rw [Int32.le_iff_toInt_le, Int32.le_iff_toInt_le]
      omega
/-- 0 ≤ x ≤ n - 1: x is a place below n -/
theorem zi_below {x : Int32} {n : Nat} (hn : n < 2147483648) : (0 : Int32) ≤ x ∧ x ≤ zi n - 1 ↔ ∃ k, k < n ∧ x = zi k := by
  constructor
  · intro ⟨h0, h1⟩
    by_cases hz : n = 0
    · subst hz
      exfalso
      have : (zi 0 - 1 : Int32) = -1 := by decide
      rw [this] at h1
      have e1 := Int32.le_iff_toInt_le.mp h0
      have e2 := Int32.le_iff_toInt_le.mp h1
      have e3 : (0 : Int32).toInt = 0 := rfl
      have e4 : (-1 : Int32).toInt = -1 := rfl
      omega
    · rw [show zi n - (1 : Int32) = zi (n - 1) from zi_sub (b := 1) (by omega)] at h1
      obtain ⟨k, hk, e⟩ := zi_rng h0 h1 (by omega)
      exact ⟨k, by omega, e⟩
  · rintro ⟨k, hk, rfl⟩
    rw [show zi n - (1 : Int32) = zi (n - 1) from zi_sub (b := 1) (by omega)]
    refine ⟨?_, (zi_le (by omega) (by omega)).mpr (by omega)⟩
    exact (zi_le (a := 0) (by decide) (by omega)).mpr (by omega)
