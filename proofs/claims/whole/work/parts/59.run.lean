/-! ===== what holds while a script runs ===== -/
section
variable {b m : Nat} {S V S' V' : Nat → Nat → Int32} {Q : Nat → Option Nat} {g g1 g2 : ZH} {Sm Sm' : Nat → Int32} {Vm Vm' : Nat → Nat → Int32} {nr nw nt t ns p nf : Nat}
theorem txs {tx : Int32} (hst : Rst S V Sm Vm nr nw nt) (htx : Rtx V Vm nt) (ht : tx = -1 ∨ ∃ k, k < nt ∧ tx = zi k) : ∃ (n : Nat) (sg : Nat → Int32), n ≤ 20 ∧ f_X10_textLength (Cl b S V Q g1) (b + 4) tx = some (zi n) ∧ (∀ j, j < 20 → f_X10_textSign (Cl b S V Q g1) (b + 4) tx (zi j) = some (sg j)) ∧ f_X12_signsOf (Rm m Sm Vm g2) m tx = some (zi n) ∧ ∀ j, j < n → f_X12_signOf (Rm m Sm Vm g2) m tx (zi j) = some (sg j) := by
  obtain ⟨-, -, ⟨c1, c2, c3⟩, -⟩ := hst
  have hL := X10_textLength (b := b) (V := V) (Q := Q) (g := g1) c1 c3 ht
  have hE := Ent_texts (b := b) (V := V) (Q := Q) (g := g1) c1 c3
  rcases ht with rfl | ⟨k, hk, rfl⟩
  · refine ⟨1, fun _ => 63, by decide, hL, fun j _ => ?_, ?_, fun j _ => ?_⟩
    · unfold f_X10_textSign
      rw [if_pos rfl]
    · rw [X12_signsOf c3 (Or.inl (by decide))]
      rfl
    · unfold f_X12_signOf
      rw [if_neg (by decide)]
  · obtain ⟨n, hn, e1, e2, e3⟩ := htx k hk
    refine ⟨n, fun j => if j < n then V 9 (20 * k + j) else -1, hn, ?_, fun j hj => ?_, ?_, fun j hj => ?_⟩
    · rw [hL]
      unfold tlen
      rw [if_neg (zi_neg (by omega)), zi_nat (by omega), e1]
    · show _ = some (if j < n then V 9 (20 * k + j) else -1)
      unfold f_X10_textSign
      rw [if_neg (fun q => zi_neg (n := k) (by omega) (by rw [q]; decide)), cgR_4_1, Option.bind_some, hE.isO]
      by_cases hjn : j < n
      · rw [hE.sgnOf hk e1 hn hjn, Option.bind_some, if_pos hjn]
      · unfold f_X1_signOf
        rw [if_neg (zi_neg (by omega)), hE.isO, hE.lenOf hk, Option.bind_some, e1, if_neg (fun q => hjn ((zi_lt (by omega) (by omega)).mp q)), Option.bind_some, if_neg hjn]
    · rw [X12_signsOf c3 (Or.inr ⟨k, hk, rfl⟩)]
      unfold tlen
      rw [if_neg (zi_neg (by omega)), zi_nat (by omega), e2]
    · show _ = some (if j < n then V 9 (20 * k + j) else -1)
      unfold f_X12_signOf
      rw [if_pos ((zi_Lle (by omega) (by decide)).mpr (Nat.zero_le _)), rgR_8, Option.bind_some, zi_Lmul, zi_add, rl_8 (by omega), Option.bind_some, if_pos hj, e3 j hj]
/-- what a run leaves as it is -/
def Rco (b : Nat) (S V : Nat → Nat → Int32) (Q : Nat → Option Nat) (g : ZH) (Sm : Nat → Int32) (Vm : Nat → Nat → Int32) (nr nw nt t ns p : Nat) : Prop := Rst S V Sm Vm nr nw nt ∧ Rpl S V Sm Vm p ∧ Sm 27 = 1 ∧ Rtp S V Sm Vm t ∧ Rwd V Vm nw ∧ Rtx V Vm nt ∧ S 4 5 = Sm 3 ∧ Rsc b S Q g Sm Vm ns
theorem Rco.fr (h : Rco b S V Q g Sm Vm nr nw nt t ns p) (h1 : ∀ q, q < 51 ∨ q = 69 → S' q = S q) (h2 : ∀ q, q < 51 ∨ q = 72 → V' q = V q) (h3 : ∀ k, k < 25 ∨ k = 27 ∨ k = 30 ∨ k = 37 ∨ k = 39 → Sm' k = Sm k) (h4 : ∀ k, k < 20 ∨ k = 22 ∨ k = 23 ∨ k = 24 ∨ k = 31 ∨ k = 32 ∨ k = 38 → Vm' k = Vm k) : Rco b S' V' Q g Sm' Vm' nr nw nt t ns p := by
  obtain ⟨a1, a2, a3, a4, a5, a6, a7, a8⟩ := h
  refine ⟨a1.mov (fun q hq => h1 q (Or.inl hq)) (fun q hq => h2 q (Or.inl hq)) (fun k hk => h3 k (Or.inl hk)) (fun k hk => h4 k (by omega)), ?_, ?_, ?_, ?_, ?_, ?_, ?_⟩
  · unfold Rpl at a2 ⊢
    rw [h1 69 (by omega), h2 72 (by omega), h3 37 (by omega), h3 39 (by omega), h4 38 (by omega)]
    exact a2
  · rw [h3 27 (by omega)]
    exact a3
  · unfold Rtp at a4 ⊢
    rw [h1 1 (by omega), h2 2 (by omega), h3 2 (by omega), h4 1 (by omega)]
    exact a4
  · unfold Rwd at a5 ⊢
    rw [h2 7 (by omega), h2 6 (by omega), h4 6 (by omega), h4 5 (by omega)]
    exact a5
  · unfold Rtx at a6 ⊢
    rw [h2 10 (by omega), h2 9 (by omega), h4 9 (by omega), h4 8 (by omega)]
    exact a6
  · rw [h1 4 (by omega), h3 3 (by omega)]
    exact a7
  · unfold Rsc at a8 ⊢
    rw [h1 0 (by omega), h3 30 (by omega), h4 32 (by omega), h4 31 (by omega)]
    exact a8
/-- the points that are kept -/
def Rpt (S V : Nat → Nat → Int32) (Vm : Nat → Nat → Int32) (nt : Nat) : Prop := ∀ i, i < 4 → V 58 i = Vm 29 (1 + i) ∧ (V 58 i ≠ 0 → ag 12 (amo S V (61 + 2 * i)) (fun k => Vm 28 (12 * (1 + i) + k)) ∧ (Vm 28 (12 * (1 + i) + 3) = -2 ∨ Vm 28 (12 * (1 + i) + 3) = -1 ∨ ∃ k, k < nt ∧ Vm 28 (12 * (1 + i) + 3) = zi k))
def Rrn (b : Nat) (S V : Nat → Nat → Int32) (Q : Nat → Option Nat) (g : ZH) (Sm : Nat → Int32) (Vm : Nat → Nat → Int32) (nr nw nt t ns p nf : Nat) : Prop := Rco b S V Q g Sm Vm nr nw nt t ns p ∧ Rct S V Sm Vm ∧ Rmo S V Vm nt ∧ Rfl S V Sm Vm nf ∧ S 56 7 = Sm 36 ∧ Rpt S V Vm nt
theorem amo_fr {o : Nat} (h1 : S' o = S o) (h2 : V' (o + 1) = V (o + 1)) : amo S' V' o = amo S V o := by
  funext k
  unfold amo
  rw [h1, h2]
theorem Rrn.rel (h : Rrn b S V Q g Sm Vm nr nw nt t ns p nf) : Rel b S V Q g Sm Vm := by
  obtain ⟨⟨a1, a2, a3, a4, a5, a6, a7, a8⟩, c, d, e, -, -⟩ := h
  exact ⟨nr, nw, nt, t, ns, nf, p, a1, c, d, a3, a2, a4, a5, a6, a7, a8, e⟩
theorem Rrn.hear {w : Int32} (h : Rrn b S V Q g Sm Vm nr nw nt t ns p nf) : ∃ (r : Int32) (S' V' : Nat → Nat → Int32) (Sm' : Nat → Int32) (Vm' : Nat → Nat → Int32), hearC S V (sayF nr (cru S) (chs S) (chm S) (chv V) (amo S V 52) w) = (r, S', V') ∧ saysM Sm Vm nr w = (r, Sm', Vm') ∧ (r = 0 ∨ ∃ f, 1 ≤ f ∧ f ≤ 4 ∧ r = zi f) ∧ Rrn b (va_up S' 56 (va_up (S' 56) 7 r)) V' Q g (va_up Sm' 36 r) Vm' nr nw nt t ns p nf := by
  obtain ⟨hco, hct, hmo, hfl, hfa, hpt⟩ := h
  obtain ⟨r, S', V', Sm', Vm', e1, e2, k1, k2, k3, k4, f1, f2, f3, f4, f5⟩ := hear_says (w := w) hco.1 hct hmo hco.2.2.1
  refine ⟨r, S', V', Sm', Vm', e1, e2, k4, ?_, k2, k3, ?_, rfl, ?_⟩
  · refine hco.fr (fun q hq => ?_) (fun q hq => f2 q (by omega) (by omega) (by omega)) (fun k hk => ?_) (fun k hk => f4 k (by omega) (by omega) (by omega))
    · rw [up_ne _ _ (by omega)]
      exact f1 q (by omega) (by omega)
    · rw [up_ne _ _ (by omega)]
      exact f3 k (by omega) (by omega)
  · unfold Rfl at hfl ⊢
    rw [show va_up S' 56 (va_up (S' 56) 7 r) 56 6 = S' 56 6 from rfl, show va_up Sm' 36 r 35 = Sm' 35 from rfl, f1 56 (by decide) (by decide), f2 59 (by decide) (by decide) (by decide), f2 60 (by decide) (by decide) (by decide), f3 35 (by decide) (by decide), f4 33 (by decide) (by decide) (by decide), f4 34 (by decide) (by decide) (by decide)]
    exact hfl
  · intro i hi
    have ea : amo (va_up S' 56 (va_up (S' 56) 7 r)) V' (61 + 2 * i) = amo S V (61 + 2 * i) := amo_fr (by rw [up_ne _ _ (by omega)]; exact f1 _ (by omega) (by omega)) (f2 _ (by omega) (by omega) (by omega))
    rw [f2 58 (by decide) (by decide) (by decide), f4 29 (by decide) (by decide) (by decide), ea, f5 _ (by omega), show (fun k => Vm' 28 (12 * (1 + i) + k)) = fun k => Vm 28 (12 * (1 + i) + k) from funext fun k => f5 _ (by omega)]
    exact hpt i hi
/-- a point is kept -/
theorem Rrn.keep {d : Nat} (hd : d < 4) (h : Rrn b S V Q g Sm Vm nr nw nt t ns p nf) (mo : Nat → Int32) (hmo : mo = bw (amo S V (61 + 2 * d)) 0 12 (amo S V 52)) : Rrn b (mS S (61 + 2 * d) mo) (va_up (mV V (61 + 2 * d) mo) 58 (va_up (V 58) d 1)) Q g Sm (va_up (va_up Vm 28 (bw (Vm 28) (12 * (1 + d)) 12 (fun k => Vm 28 (12 * 0 + k)))) 29 (va_up (Vm 29) (1 + d) 1)) nr nw nt t ns p nf := by
  obtain ⟨hco, hct, hm, hfl, hfa, hpt⟩ := h
  have eS : ∀ q, q ≠ 61 + 2 * d → mS S (61 + 2 * d) mo q = S q := fun q hq => up_ne _ _ hq
  have eV : ∀ q, q ≠ 58 → q ≠ 62 + 2 * d → va_up (mV V (61 + 2 * d) mo) 58 (va_up (V 58) d 1) q = V q := fun q h1 h2 => by
    rw [up_ne _ _ h1]
    exact up_ne _ _ (by omega)
  have eM : ∀ q, q ≠ 28 → q ≠ 29 → va_up (va_up Vm 28 (bw (Vm 28) (12 * (1 + d)) 12 (fun k => Vm 28 (12 * 0 + k)))) 29 (va_up (Vm 29) (1 + d) 1) q = Vm q := fun q h1 h2 => by
    rw [up_ne _ _ h2, up_ne _ _ h1]
  have e28 : va_up (va_up Vm 28 (bw (Vm 28) (12 * (1 + d)) 12 (fun k => Vm 28 (12 * 0 + k)))) 29 (va_up (Vm 29) (1 + d) 1) 28 = bw (Vm 28) (12 * (1 + d)) 12 (fun k => Vm 28 (12 * 0 + k)) := rfl
  have e29 : va_up (va_up Vm 28 (bw (Vm 28) (12 * (1 + d)) 12 (fun k => Vm 28 (12 * 0 + k)))) 29 (va_up (Vm 29) (1 + d) 1) 29 = va_up (Vm 29) (1 + d) 1 := rfl
  have e58 : va_up (mV V (61 + 2 * d) mo) 58 (va_up (V 58) d 1) 58 = va_up (V 58) d 1 := rfl
  generalize hVm : va_up (va_up Vm 28 (bw (Vm 28) (12 * (1 + d)) 12 (fun k => Vm 28 (12 * 0 + k)))) 29 (va_up (Vm 29) (1 + d) 1) = Vm' at eM e28 e29
  have eVd : va_up (mV V (61 + 2 * d) mo) 58 (va_up (V 58) d 1) (61 + 2 * d + 1) = mV V (61 + 2 * d) mo (61 + 2 * d + 1) := up_ne _ _ (by omega)
  generalize hV' : va_up (mV V (61 + 2 * d) mo) 58 (va_up (V 58) d 1) = V' at eV e58 eVd
  have ead : amo (mS S (61 + 2 * d) mo) V' (61 + 2 * d) = mo := by
    rw [amo_fr (S := mS S (61 + 2 * d) mo) (V := mV V (61 + 2 * d) mo) rfl eVd, amo_m]
  generalize hS' : mS S (61 + 2 * d) mo = S' at eS ead
  refine ⟨hco.fr (fun q hq => eS q (by omega)) (fun q hq => eV q (by omega) (by omega)) (fun k hk => rfl) (fun k hk => eM k (by omega) (by omega)), ?_, ?_, ?_, ?_, ?_⟩
  · unfold Rct at hct ⊢
    rw [eS 51 (by omega), eV 54 (by omega) (by omega), eV 55 (by omega) (by omega), eM 20 (by omega) (by omega), eM 21 (by omega) (by omega)]
    exact hct
  · have e3 : ∀ k, k < 12 → Vm' 28 k = Vm 28 k := fun k hk => by
      rw [e28]
      exact bw_out (by omega)
    refine ⟨fun k hk => ?_, ?_⟩
    · rw [amo_fr (eS 52 (by omega)) (eV 53 (by omega) (by omega)), e3 k hk]
      exact hm.1 k hk
    · rw [e3 3 (by decide)]
      exact hm.2
  · unfold Rfl at hfl ⊢
    rw [eS 56 (by omega), eV 59 (by omega) (by omega), eV 60 (by omega) (by omega), eM 33 (by omega) (by omega), eM 34 (by omega) (by omega)]
    exact hfl
  · rw [eS 56 (by omega)]
    exact hfa
  · intro i hi
    rw [e58, e29, e28]
    by_cases e : i = d
    · subst e
      rw [up_self, up_self, ead]
      refine ⟨rfl, fun _ => ⟨fun k hk => ?_, ?_⟩⟩
      · show mo k = bw (Vm 28) (12 * (1 + i)) 12 (fun k => Vm 28 (12 * 0 + k)) (12 * (1 + i) + k)
        have e0 := bw_in (f := amo S V (61 + 2 * i)) (lo := 0) (src := amo S V 52) hk
        rw [Nat.zero_add] at e0
        rw [bw_in hk, hmo, e0, show 12 * 0 + k = k by omega]
        exact hm.1 k hk
      · rw [bw_in (by decide)]
        exact hm.2
    · have o28 : ∀ k, k < 12 → bw (Vm 28) (12 * (1 + d)) 12 (fun k => Vm 28 (12 * 0 + k)) (12 * (1 + i) + k) = Vm 28 (12 * (1 + i) + k) := fun k hk => bw_out (by omega)
      rw [up_ne _ _ e, up_ne _ _ (by omega), amo_fr (eS (61 + 2 * i) (by omega)) (eV (61 + 2 * i + 1) (by omega) (by omega)), o28 3 (by decide)]
      refine ⟨(hpt i hi).1, fun q => ⟨fun k hk => ?_, ((hpt i hi).2 q).2⟩⟩
      show amo S V (61 + 2 * i) k = bw (Vm 28) (12 * (1 + d)) 12 (fun k => Vm 28 (12 * 0 + k)) (12 * (1 + i) + k)
      rw [o28 k hk]
      exact ((hpt i hi).2 q).1 k hk
/-- back to a point -/
theorem Rrn.back {d : Nat} (hd : d < 4) (h : Rrn b S V Q g Sm Vm nr nw nt t ns p nf) (hk : V 58 d ≠ 0) (mo : Nat → Int32) (hmo : mo = bw (amo S V 52) 0 12 (amo S V (61 + 2 * d))) : Rrn b (mS S 52 mo) (mV V 52 mo) Q g Sm (va_up Vm 28 (bw (Vm 28) (12 * 0) 12 (fun k => Vm 28 (12 * (1 + d) + k)))) nr nw nt t ns p nf := by
  obtain ⟨hco, hct, hm, hfl, hfa, hpt⟩ := h
  have eS : ∀ q, q ≠ 52 → mS S 52 mo q = S q := fun q hq => up_ne _ _ hq
  have eV : ∀ q, q ≠ 53 → mV V 52 mo q = V q := fun q h1 => up_ne _ _ h1
  have eM : ∀ q, q ≠ 28 → va_up Vm 28 (bw (Vm 28) (12 * 0) 12 (fun k => Vm 28 (12 * (1 + d) + k))) q = Vm q := fun q h1 => up_ne _ _ h1
  have e28 : va_up Vm 28 (bw (Vm 28) (12 * 0) 12 (fun k => Vm 28 (12 * (1 + d) + k))) 28 = bw (Vm 28) (12 * 0) 12 (fun k => Vm 28 (12 * (1 + d) + k)) := rfl
  generalize hVm : va_up Vm 28 (bw (Vm 28) (12 * 0) 12 (fun k => Vm 28 (12 * (1 + d) + k))) = Vm' at eM e28
  have ead : amo (mS S 52 mo) (mV V 52 mo) 52 = mo := amo_m
  generalize hV' : mV V 52 mo = V' at eV ead
  generalize hS' : mS S 52 mo = S' at eS ead
  have lo : ∀ k, k < 12 → Vm' 28 k = Vm 28 (12 * (1 + d) + k) := fun k hk => by
    rw [e28]
    have := bw_in (f := Vm 28) (lo := 12 * 0) (src := fun k => Vm 28 (12 * (1 + d) + k)) hk
    rw [show 12 * 0 + k = k by omega] at this
    exact this
  have hi' : ∀ k, 12 ≤ k → Vm' 28 k = Vm 28 k := fun k hk => by
    rw [e28]
    exact bw_out (by omega)
  refine ⟨hco.fr (fun q hq => eS q (by omega)) (fun q hq => eV q (by omega)) (fun k hk => rfl) (fun k hk => eM k (by omega)), ?_, ?_, ?_, ?_, ?_⟩
  · unfold Rct at hct ⊢
    rw [eS 51 (by omega), eV 54 (by omega), eV 55 (by omega), eM 20 (by omega), eM 21 (by omega)]
    exact hct
  · refine ⟨fun k hk' => ?_, ?_⟩
    · have e0 := bw_in (f := amo S V 52) (lo := 0) (src := amo S V (61 + 2 * d)) hk'
      rw [Nat.zero_add] at e0
      rw [ead, lo k hk', hmo, e0]
      exact ((hpt d hd).2 hk).1 k hk'
    · rw [lo 3 (by decide)]
      exact ((hpt d hd).2 hk).2
  · unfold Rfl at hfl ⊢
    rw [eS 56 (by omega), eV 59 (by omega), eV 60 (by omega), eM 33 (by omega), eM 34 (by omega)]
    exact hfl
  · rw [eS 56 (by omega)]
    exact hfa
  · intro i hi
    rw [eV 58 (by omega), eM 29 (by omega), amo_fr (eS (61 + 2 * i) (by omega)) (eV (61 + 2 * i + 1) (by omega)), hi' _ (by omega), show (fun k => Vm' 28 (12 * (1 + i) + k)) = fun k => Vm 28 (12 * (1 + i) + k) from funext fun k => hi' _ (by omega)]
    exact hpt i hi
/-- a line that failed is noted -/
theorem Rrn.note {ln : Int32} (hn : nf < 40) (h : Rrn b S V Q g Sm Vm nr nw nt t ns p nf) : Rrn b (va_up S 56 (va_up (S 56) 6 (zi (nf + 1)))) (va_up (va_up V 59 (va_up (V 59) nf ln)) 60 (va_up (V 60) nf (S 56 7))) Q g (va_up Sm 35 (zi (nf + 1))) (va_up (va_up Vm 33 (va_up (Vm 33) nf ln)) 34 (va_up (Vm 34) nf (Sm 36))) nr nw nt t ns p (nf + 1) := by
  obtain ⟨hco, hct, hm, hfl, hfa, hpt⟩ := h
  have eV : ∀ q, q ≠ 59 → q ≠ 60 → va_up (va_up V 59 (va_up (V 59) nf ln)) 60 (va_up (V 60) nf (S 56 7)) q = V q := fun q h1 h2 => by
    rw [up_ne _ _ h2, up_ne _ _ h1]
  have eM : ∀ q, q ≠ 33 → q ≠ 34 → va_up (va_up Vm 33 (va_up (Vm 33) nf ln)) 34 (va_up (Vm 34) nf (Sm 36)) q = Vm q := fun q h1 h2 => by
    rw [up_ne _ _ h2, up_ne _ _ h1]
  refine ⟨hco.fr (fun q hq => up_ne _ _ (by omega)) (fun q hq => eV q (by omega) (by omega)) (fun k hk => up_ne _ _ (by omega)) (fun k hk => eM k (by omega) (by omega)), hct, hm, ⟨rfl, rfl, by omega, ?_, ?_⟩, hfa, ?_⟩
  · show ag (nf + 1) (va_up (V 59) nf ln) (va_up (Vm 33) nf ln)
    intro k hk
    by_cases e : k = nf
    · subst e
      rw [up_self, up_self]
    · rw [up_ne _ _ e, up_ne _ _ e]
      exact hfl.2.2.2.1 k (by omega)
  · show ag (nf + 1) (va_up (V 60) nf (S 56 7)) (va_up (Vm 34) nf (Sm 36))
    intro k hk
    by_cases e : k = nf
    · subst e
      rw [up_self, up_self]
      exact hfa
    · rw [up_ne _ _ e, up_ne _ _ e]
      exact hfl.2.2.2.2 k (by omega)
  · intro i hi
    rw [eV 58 (by omega) (by omega), eM 29 (by omega) (by omega), eM 28 (by omega) (by omega), amo_fr (S := S) (V := V) (o := 61 + 2 * i) (up_ne _ _ (by omega)) (eV (61 + 2 * i + 1) (by omega) (by omega))]
    exact hpt i hi
end
