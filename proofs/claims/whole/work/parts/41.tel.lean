/-! ===== feed, holder, rule ===== -/
theorem Rst.mv {S V S' V' : Nat → Nat → Int32} {Sm Sm' : Nat → Int32} {Vm Vm' : Nat → Nat → Int32} {nr nw nt : Nat} (h : Rst S V Sm Vm nr nw nt) (h1 : ∀ q, 2 ≤ q → q < 51 → S' q = S q) (h2 : ∀ q, 44 ≤ q → q < 51 → V' q = V q) (h3 : Sm' 4 = Sm 4 ∧ Sm' 7 = Sm 7 ∧ Sm' 10 = Sm 10) (h4 : ∀ k, (11 ≤ k ∧ k < 20) ∨ k = 22 ∨ k = 23 ∨ k = 24 → Vm' k = Vm k) : Rst S' V' Sm' Vm' nr nw nt := by
  obtain ⟨⟨a1, a2, a3⟩, ⟨b1, b2, b3⟩, ⟨c1, c2, c3⟩, d, e, e', f⟩ := h
  have ecru : ∀ r j, r < nr → cru S' r j = cru S r j := fun r j hr => by
    unfold cru
    rw [h1 (13 + r) (by omega) (by omega)]
  have emru : ∀ r j, j < 9 → mru Vm' r j = mru Vm r j := fun r j hj => by
    unfold mru
    rw [h4 (11 + j) (by omega)]
  refine ⟨⟨by rw [h1 4 (by decide) (by decide)]; exact a1, by rw [h3.2.2]; exact a2, a3⟩, ⟨by rw [h1 5 (by decide) (by decide)]; exact b1, by rw [h3.1]; exact b2, b3⟩, ⟨by rw [h1 8 (by decide) (by decide)]; exact c1, by rw [h3.2.1]; exact c2, c3⟩, ?_, ?_, ?_, ?_⟩
  · intro r hr j hj
    rw [ecru r j hr, emru r j hj]
    exact d r hr j hj
  · intro r hr
    rw [ecru r 0 hr, ecru r 1 hr, ecru r 2 hr, ecru r 4 hr, ecru r 5 hr, ecru r 6 hr, ecru r 7 hr, ecru r 8 hr]
    exact e r hr
  · intro r hr
    rw [emru r 0 (by decide), emru r 1 (by decide), emru r 2 (by decide), emru r 4 (by decide), emru r 5 (by decide), emru r 6 (by decide), emru r 7 (by decide), emru r 8 (by decide)]
    exact e' r hr
  · intro a ha
    have k1 : chs S' a = chs S a := by unfold chs; rw [h1 _ (by omega) (by omega)]
    have k2 : chm S' a = chm S a := by unfold chm; rw [h1 _ (by omega) (by omega)]
    have k3 : ∀ j, chv V' a j = chv V a j := fun j => by unfold chv; rw [h2 _ (by omega) (by omega)]
    rw [k1, k2, k3, h4 22 (by omega), h4 23 (by omega), h4 24 (by omega)]
    refine ⟨(f a ha).1, ?_⟩
    rcases (f a ha).2 with q | q | ⟨q, c, c1, c2, c3, c4, c5⟩
    · exact Or.inl q
    · exact Or.inr (Or.inl q)
    · exact Or.inr (Or.inr ⟨q, c, c1, c2, c3, c4, fun j hj => by rw [k3]; exact c5 j hj⟩)
section
variable {b m : Nat} {S V : Nat → Nat → Int32} {Q : Nat → Option Nat} {g g1 g2 : ZH} {Sm : Nat → Int32} {Vm : Nat → Nat → Int32}
theorem X0_append_tape {t : Nat} {v : Int32} (ht : S 1 1 = zi t) (h6 : t < 600) : f_X0_append (Cl b S V Q g) (b + 1) v = some (Cl b (va_up S 1 (va_up (S 1) 1 (zi (t + 1)))) (va_up V 2 (va_up (V 2) t (vp_nar .byte (v.toInt8.toInt32)))) Q g) := by
  unfold f_X0_append
  simp only [cgI_1_1, Option.bind_some, ht, cgR_1_0, cN_2]
  rw [if_neg (zi_neg (by omega)), if_pos ((zi_lt (by omega) (by decide)).mpr h6), cs_2 _ h6, Option.bind_some]
  simp only [cgI_1_1, Option.bind_some, ht, cp_1_1, zi_one]
theorem X0_clear_tape : f_X0_clear (Cl b S V Q g) (b + 1) = some (Cl b (va_up S 1 (va_up (S 1) 1 0)) V Q g) := by
  unfold f_X0_clear
  rw [cp_1_1, Option.bind_some]
theorem X11_feed_loop {t n : Nat} {w : Int64} {a2 : Int32} {h : ZH} (ht : S 1 1 = zi t) (hn : 1 ≤ n) (hn8 : n ≤ 8) (h6 : t + n ≤ 600) :
    zz_loop (fun st : (Int32 × ZH) => f_X11_feed_L37 h b w a2 (st.1) (st.2)) (zi (n - 1), Cl b S V Q g) = some (zi (t + n), Cl b (va_up S 1 (va_up (S 1) 1 (zi (t + n)))) (va_up V 2 (bw (V 2) t n (fun i => vp_nar .byte ((fbc w (n - 1 - i)).toInt8.toInt32)))) Q g) := by
  have key := loop_seq (b := fun st : (Int32 × ZH) => f_X11_feed_L37 h b w a2 (st.1) (st.2)) n (fun i => ((if i < n then zi (n - 1 - i) else -1), Cl b (va_up S 1 (va_up (S 1) 1 (zi (t + i)))) (va_up V 2 (bw (V 2) t i (fun i => vp_nar .byte ((fbc w (n - 1 - i)).toInt8.toInt32)))) Q g))
    (zi (t + n), Cl b (va_up S 1 (va_up (S 1) 1 (zi (t + n)))) (va_up V 2 (bw (V 2) t n (fun i => vp_nar .byte ((fbc w (n - 1 - i)).toInt8.toInt32)))) Q g) ?_ ?_
  · simp only [bw_0, up_id, Nat.add_zero, Nat.sub_zero, ← ht] at key
    rw [if_pos (by omega)] at key
    exact key
  · intro i hi
    have e1 : (if i < n then zi (n - 1 - i) else (-1 : Int32)) = zi (n - 1 - i) := if_pos hi
    have e2 : zi (n - 1 - i) + (-1 : Int32) = (if i + 1 < n then zi (n - 1 - (i + 1)) else (-1 : Int32)) := by
      by_cases h1 : i + 1 < n
      · rw [if_pos h1, zi_dec (by omega)]
        exact congrArg zi (by omega)
      · rw [if_neg h1, show n - 1 - i = 0 by omega]
        rfl
    show f_X11_feed_L37 h b w a2 (if i < n then zi (n - 1 - i) else (-1 : Int32)) _ = _
    rw [e1]
    unfold f_X11_feed_L37
    rw [if_neg (zi_neg (by omega)), cgR_0_0, Option.bind_some, cO_1, X0_append_tape (t := t + i) (by rw [up_self, up_self]) (by omega), Option.bind_some, up_up, up_self, up_self, up_up, up_up]
    rw [show (vp_nar .byte ((((w.toUInt64 >>> (((8 : Int32) * zi (n - 1 - i)).toInt64.toUInt64 &&& Int64.toUInt64 63)).toInt64).toInt32 &&& 255).toInt8.toInt32)) = (fun i => vp_nar .byte ((fbc w (n - 1 - i)).toInt8.toInt32)) i from rfl, bw_up, e2]
    rfl
  · have e1 : (if n < n then zi (n - 1 - n) else (-1 : Int32)) = -1 := if_neg (by omega)
    show f_X11_feed_L37 h b w a2 (if n < n then zi (n - 1 - n) else (-1 : Int32)) _ = _
    rw [e1]
    unfold f_X11_feed_L37
    rw [if_pos (by decide), cgR_0_0, Option.bind_some, cgI_1_1, Option.bind_some, up_self, up_self]
    rfl
theorem op_feed {w : Int64} {x : Int32} (h : Rel b S V Q g Sm Vm) : ∃ r S' V' Sm' Vm', f_X11_feed (Cl b S V Q g1) b w x = some (r, Cl b S' V' Q g1) ∧ f_X12_feed (Rm m Sm Vm g2) m w x = some (r, Rm m Sm' Vm' g2) ∧ Rel b S' V' Q g Sm' Vm' := by
  obtain ⟨nr, nw, nt, t, ns, nf, p, hst, hct, hmo, h27, hpl, ⟨t1, t2, t3, t4⟩, hwd, htx, hsd, hsc, hfl⟩ := id h
  rw [X12_feed t2 t3]
  unfold f_X11_feed
  simp only [cgR_0_0, cgI_1_1, Option.bind_some, t1]
  by_cases hx : (1 : Int32) ≤ x ∧ x ≤ 8
  · have hx1 := hx.1
    have hx2 := hx.2
    rw [if_neg (by rw [Int32.lt_iff_toInt_lt]; have := Int32.le_iff_toInt_le.mp hx1; omega), if_pos hx2, if_pos hx]
    obtain ⟨n, hn, rfl⟩ := zi_rng (u := 8) (by rw [Int32.le_iff_toInt_le]; have := Int32.le_iff_toInt_le.mp hx1; have e1 : (1 : Int32).toInt = 1 := rfl; have e2 : (0 : Int32).toInt = 0 := rfl; omega) hx2 (by decide)
    have hn1 : 1 ≤ n := (zi_le (a := 1) (by decide) (by omega)).mp hx1
    rw [zi_add, zi_nat (by omega)]
    by_cases h7 : t + n ≤ 600
    · rw [if_pos ((zi_leL (by omega) (by decide)).mpr h7), if_pos h7]
      dsimp only [zz_let]
      rw [show zi n - 1 = zi (n - 1) from zi_sub (b := 1) hn1, X11_feed_loop t1 hn1 hn h7]
      refine ⟨_, _, _, _, _, rfl, rfl, nr, nw, nt, t + n, ns, nf, p, ?_, hct, hmo, h27, hpl, ⟨?_, ?_, h7, ?_⟩, hwd, htx, hsd, hsc, hfl⟩
      · exact hst.mv (fun q h1 h2 => up_ne _ _ (by omega)) (fun q h1 h2 => up_ne _ _ (by omega)) ⟨rfl, rfl, rfl⟩ (fun k hk => up_ne _ _ (by omega))
      · show va_up (S 1) 1 (zi (t + n)) 1 = _
        rw [up_self]
      · rfl
      · intro i hi
        rw [up_self, up_self]
        unfold bw
        by_cases hi2 : t ≤ i ∧ i < t + n
        · rw [if_pos hi2, if_pos hi2, nar_and, fbc_eq (by omega)]
          unfold fb
          apply Int32.toBitVec_inj.mp
          apply BitVec.eq_of_getLsbD_eq
          intro j hj
          rw [Int32.toBitVec_and, BitVec.getLsbD_and, show (255 : Int32).toBitVec = 255#32 from rfl, b255 j hj, Int64.toBitVec_toInt32, BitVec.getLsbD_signExtend, if_pos (by omega), Int64.toBitVec_and, BitVec.getLsbD_and, show (255 : Int64).toBitVec = 255#64 from rfl, b255' j (by omega)]
          by_cases h8 : j < 8
          · simp [h8]
          · simp [h8]
        · rw [if_neg hi2, if_neg hi2]
          exact t4 i (by omega)
    · rw [if_neg (fun q => h7 ((zi_leL (by omega) (by decide)).mp q)), if_neg h7]
      exact ⟨_, _, _, _, _, rfl, rfl, h.thr 0⟩
  · rw [if_neg hx]
    by_cases h1 : x < 1
    · rw [if_pos h1]
      exact ⟨_, _, _, _, _, rfl, rfl, h.thr 0⟩
    · rw [if_neg h1, if_neg]
      · exact ⟨_, _, _, _, _, rfl, rfl, h.thr 0⟩
      · intro q
        refine hx ⟨?_, q⟩
        rw [Int32.lt_iff_toInt_lt] at h1
        rw [Int32.le_iff_toInt_le]
        omega
/-! holder -/
theorem X3_take {i c : Nat} {s v : Int32} (hi : i < 4) (hc : c ≤ 4) : f_X3_take (Cl b S V Q g) (b + (43 + 2 * i)) s (zi c) v = some (Cl b (va_up S (43 + 2 * i) (va_up (va_up (S (43 + 2 * i)) 1 s) 2 (zi c))) (va_up V (44 + 2 * i) (bw (V (44 + 2 * i)) 0 c (fun j => v + zi j))) Q g) := by
  have lp : ∀ h0 h1 : ZH, ∀ x : Int32, h1 = Cl b (va_up S (43 + 2 * i) (va_up (va_up (S (43 + 2 * i)) 1 s) 2 (zi c))) V Q g → zz_loop (fun st : (Int32 × ZH) => f_X3_take_L38 h0 (b + (43 + 2 * i)) s x v (st.1) (st.2)) ((0 : Int32), h1) = some (Cl b (va_up S (43 + 2 * i) (va_up (va_up (S (43 + 2 * i)) 1 s) 2 (zi c))) (va_up V (44 + 2 * i) (bw (V (44 + 2 * i)) 0 c (fun j => v + zi j))) Q g) := by
    intro h0 h1 x e
    have key := loop_cnt (b := fun st : (Int32 × ZH) => f_X3_take_L38 h0 (b + (43 + 2 * i)) s x v (st.1) (st.2)) c (fun k => Cl b (va_up S (43 + 2 * i) (va_up (va_up (S (43 + 2 * i)) 1 s) 2 (zi c))) (va_up V (44 + 2 * i) (bw (V (44 + 2 * i)) 0 k (fun j => v + zi j))) Q g) (Cl b (va_up S (43 + 2 * i) (va_up (va_up (S (43 + 2 * i)) 1 s) 2 (zi c))) (va_up V (44 + 2 * i) (bw (V (44 + 2 * i)) 0 c (fun j => v + zi j))) Q g) 0 (Nat.zero_le _) ?_ ?_
    · rw [bw_0, up_id, ← e] at key
      exact key
    · intro k _ hk
      show f_X3_take_L38 h0 (b + (43 + 2 * i)) s x v (zi k) _ = _
      unfold f_X3_take_L38
      rw [cgI_ho_2 hi, Option.bind_some, up_self, up_self, if_neg (fun q => absurd ((zi_le (by omega) (by omega)).mp q) (by omega)), cgR_ho hi, Option.bind_some, cN_ho hi, Option.bind_some, if_neg (fun q => absurd ((zi_le (by omega) (by omega)).mp q) (by omega)), Option.bind_some, cs_hi _ hi (by omega), Option.bind_some, up_self, up_up, zi_one]
      have := bw_up (V (44 + 2 * i)) 0 k (fun j => v + zi j)
      rw [Nat.zero_add] at this
      rw [this]
    · show f_X3_take_L38 h0 (b + (43 + 2 * i)) s x v (zi c) _ = _
      unfold f_X3_take_L38
      rw [cgI_ho_2 hi, Option.bind_some, up_self, up_self, if_pos ((zi_le (by omega) (by omega)).mpr (Nat.le_refl _))]
      rfl
  unfold f_X3_take
  rw [cp_ho_1 _ hi, Option.bind_some, if_pos ((zi_Lle (by omega) (by decide)).mpr (Nat.zero_le _)), cgR_ho hi, Option.bind_some, Option.bind_some, cN_ho hi, Option.bind_some, Option.bind_some]
  unfold f_X3_take_J32
  rw [cp_ho_2 _ hi, Option.bind_some, cp_ho_2 _ hi, Option.bind_some, up_self, up_up, up_up]
  by_cases h4 : c = 4
  · subst h4
    rw [if_pos ((zi_le (by decide) (by decide)).mpr (Nat.le_refl _))]
    exact lp _ _ _ rfl
  · rw [if_neg (fun q => absurd ((zi_le (by omega) (by omega)).mp q) (by omega))]
    exact lp _ _ _ rfl
theorem Rst_ho {nr nw nt i c : Nat} {s n v : Int32} (hi : i < 4) (hc : c ≤ 4) (h : Rst S V Sm Vm nr nw nt) (hs : s = 0 ∨ (s = 1 ∧ c = 1) ∨ (s = 2 ∧ 1 ≤ c ∧ n = zi c)) :
    Rst (va_up S (43 + 2 * i) (va_up (va_up (S (43 + 2 * i)) 1 s) 2 (zi c))) (va_up V (44 + 2 * i) (bw (V (44 + 2 * i)) 0 c (fun j => v + zi j))) Sm (va_up (va_up (va_up Vm 22 (va_up (Vm 22) i s)) 23 (va_up (Vm 23) i n)) 24 (va_up (Vm 24) i v)) nr nw nt := by
  obtain ⟨⟨a1, a2, a3⟩, ⟨b1, b2, b3⟩, ⟨c1, c2, c3⟩, d, e, e', f⟩ := h
  refine ⟨⟨by rw [up_ne _ _ (by omega)]; exact a1, a2, a3⟩, ⟨by rw [up_ne _ _ (by omega)]; exact b1, b2, b3⟩, ⟨by rw [up_ne _ _ (by omega)]; exact c1, c2, c3⟩, ?_, ?_, ?_, ?_⟩
  · intro r hr j hj
    unfold cru mru
    rw [up_ne _ _ (by omega), up_ne _ _ (by omega), up_ne _ _ (by omega), up_ne _ _ (by omega)]
    exact d r hr j hj
  · intro r hr
    unfold cru
    rw [up_ne _ _ (by omega)]
    exact e r hr
  · intro r hr
    have e2 := e' r hr
    exact e2
  · intro a ha
    unfold chs chm chv
    show _ = va_up (Vm 22) i s a ∧ _
    by_cases hai : a = i
    · subst hai
      simp only [up_self]
      rw [show va_up (va_up (S (43 + 2 * a)) 1 s) 2 (zi c) 1 = s from rfl]
      refine ⟨rfl, ?_⟩
      rcases hs with q | ⟨q, q2⟩ | ⟨q, q2, q3⟩
      · exact Or.inl q
      · refine Or.inr (Or.inl ⟨q, by rw [q2]; rfl, ?_⟩)
        subst q2
        show bw _ 0 1 _ (0 + 0) = _
        rw [bw_in (by decide), show zi 0 = (0 : Int32) from rfl, Int32.add_zero]
      · refine Or.inr (Or.inr ⟨q, c, q2, hc, rfl, ?_, fun j hj => ?_⟩)
        · show va_up (Vm 23) a n a = _
          rw [up_self]
          exact q3
        · have := bw_in (f := V (44 + 2 * a)) (lo := 0) (src := fun j => v + zi j) hj
          rw [Nat.zero_add] at this
          exact this
    · have n1 : 43 + 2 * a ≠ 43 + 2 * i := by omega
      have n2 : 44 + 2 * a ≠ 44 + 2 * i := by omega
      show va_up S (43 + 2 * i) _ (43 + 2 * a) 1 = _ ∧ (va_up S (43 + 2 * i) _ (43 + 2 * a) 1 = 0 ∨ (va_up S (43 + 2 * i) _ (43 + 2 * a) 1 = 1 ∧ va_up S (43 + 2 * i) _ (43 + 2 * a) 2 = 1 ∧ va_up V (44 + 2 * i) _ (44 + 2 * a) 0 = va_up (Vm 24) i v a) ∨ (va_up S (43 + 2 * i) _ (43 + 2 * a) 1 = 2 ∧ ∃ c, 1 ≤ c ∧ c ≤ 4 ∧ va_up S (43 + 2 * i) _ (43 + 2 * a) 2 = zi c ∧ va_up (Vm 23) i n a = zi c ∧ ∀ j, j < c → va_up V (44 + 2 * i) _ (44 + 2 * a) j = va_up (Vm 24) i v a + zi j))
      rw [up_ne _ _ n1, up_ne _ _ n2, up_ne _ _ hai, up_ne _ _ hai, up_ne _ _ hai]
      exact f a ha
theorem op_holder {x s n v : Int32} (h : Rel b S V Q g Sm Vm) : ∃ r S' V' Sm' Vm', f_X11_holder (Cl b S V Q g1) b x s n v = some (r, Cl b S' V' Q g1) ∧ f_X12_holder (Rm m Sm Vm g2) m x s n v = some (r, Rm m Sm' Vm' g2) ∧ Rel b S' V' Q g Sm' Vm' := by
  obtain ⟨nr, nw, nt, t, ns, nf, p, hst, hct, hmo, h27, hpl, htp, hwd, htx, hsd, hsc, hfl⟩ := id h
  unfold f_X11_holder f_X12_holder
  simp only [inside_eq, Option.bind_some, rp_0, in_0_3, in_0_2, in_1_4]
  by_cases hx : (0 : Int32) ≤ x ∧ x ≤ 3
  · rw [if_neg (fun q => b01_0.mp q hx), if_neg (fun q => b01_0.mp q hx)]
    by_cases hs : (0 : Int32) ≤ s ∧ s ≤ 2
    · rw [if_neg (fun q => b01_0.mp q hs), if_neg (fun q => b01_0.mp q hs)]
      obtain ⟨i, hi, rfl⟩ := zi_rng (u := 3) hx.1 hx.2 (by decide)
      obtain ⟨k, hk, rfl⟩ := zi_rng (u := 2) hs.1 hs.2 (by decide)
      have fin : ∀ c : Nat, c ≤ 4 → (zi k = 0 ∨ (zi k = 1 ∧ c = 1) ∨ (zi k = 2 ∧ 1 ≤ c ∧ n = zi c)) → ∃ r S' V' Sm' Vm', f_X11_holder_J61 (Cl b S V Q g1) b (zi i) (zi k) n v (zi c) (zi k) (b + (43 + 2 * i)) (Cl b S V Q g1) = some (r, Cl b S' V' Q g1) ∧ f_X12_holder_J52 (Rm m Sm Vm g2) m (zi i) (zi k) n v (Rm m (va_up Sm 0 0) Vm g2) = some (r, Rm m Sm' Vm' g2) ∧ Rel b S' V' Q g Sm' Vm' := by
        intro c hc hcs
        have hst' := Rst_ho (v := v) (show i < 4 by omega) hc hst hcs
        have ec : f_X11_holder_J61 (Cl b S V Q g1) b (zi i) (zi k) n v (zi c) (zi k) (b + (43 + 2 * i)) (Cl b S V Q g1) = some (1, Cl b (va_up S (43 + 2 * i) (va_up (va_up (S (43 + 2 * i)) 1 (zi k)) 2 (zi c))) (va_up V (44 + 2 * i) (bw (V (44 + 2 * i)) 0 c (fun j => v + zi j))) Q g1) := by
          unfold f_X11_holder_J61
          rw [cO_ho (by omega), X3_take (by omega) hc, Option.bind_some]
        have e1 : ∀ q, q < 43 ∨ 51 ≤ q → va_up S (43 + 2 * i) (va_up (va_up (S (43 + 2 * i)) 1 (zi k)) 2 (zi c)) q = S q := fun q hq => up_ne _ _ (by omega)
        have e2 : ∀ q, q < 43 ∨ 51 ≤ q → va_up V (44 + 2 * i) (bw (V (44 + 2 * i)) 0 c (fun j => v + zi j)) q = V q := fun q hq => up_ne _ _ (by omega)
        generalize va_up S (43 + 2 * i) (va_up (va_up (S (43 + 2 * i)) 1 (zi k)) 2 (zi c)) = S1 at hst' ec e1
        generalize va_up V (44 + 2 * i) (bw (V (44 + 2 * i)) 0 c (fun j => v + zi j)) = V1 at hst' ec e2
        refine ⟨1, S1, V1, va_up Sm 0 0, va_up (va_up (va_up Vm 22 (va_up (Vm 22) i (zi k))) 23 (va_up (Vm 23) i n)) 24 (va_up (Vm 24) i v), ec, ?_, nr, nw, nt, t, ns, nf, p, hst', ?_, ?_, h27, ?_, ?_, ?_, ?_, ?_, ?_, ?_⟩
        · unfold f_X12_holder_J52
          rw [rgR_22, Option.bind_some, rs_22 _ (by omega), Option.bind_some, rgR_23, Option.bind_some, rs_23 _ (by omega), Option.bind_some, rgR_24, Option.bind_some, rs_24 _ (by omega), Option.bind_some]
          rfl
        · unfold Rct
          rw [e1 51 (by omega), e2 54 (by omega), e2 55 (by omega)]
          exact hct
        · unfold Rmo amo
          rw [e1 52 (by omega), e2 (52 + 1) (by omega)]
          exact hmo
        · unfold Rpl
          rw [e1 69 (by omega), e2 72 (by omega)]
          exact hpl
        · unfold Rtp
          rw [e1 1 (by omega), e2 2 (by omega)]
          exact htp
        · unfold Rwd
          rw [e2 7 (by omega), e2 6 (by omega)]
          exact hwd
        · unfold Rtx
          rw [e2 10 (by omega), e2 9 (by omega)]
          exact htx
        · rw [e1 4 (by omega)]
          exact hsd
        · unfold Rsc
          rw [e1 0 (by omega)]
          exact hsc
        · unfold Rfl
          rw [e1 56 (by omega), e2 59 (by omega), e2 60 (by omega)]
          exact hfl
      unfold f_X11_holder_J41
      simp only [cgR_0_1, Option.bind_some, cgR_4_3, cl_ho (show i < 4 by omega)]
      by_cases h2 : zi k = 2
      · simp only [if_pos h2]
        by_cases hn : (1 : Int32) ≤ n ∧ n ≤ 4
        · rw [if_neg (fun q => b01_0.mp q hn), if_neg (fun q => b01_0.mp q hn)]
          obtain ⟨c, hc, rfl⟩ := zi_rng (u := 4) (by rw [Int32.le_iff_toInt_le]; have := Int32.le_iff_toInt_le.mp hn.1; have e1 : (1 : Int32).toInt = 1 := rfl; have e2 : (0 : Int32).toInt = 0 := rfl; omega) hn.2 (by decide)
          exact fin c hc (Or.inr (Or.inr ⟨h2, (zi_le (a := 1) (by decide) (by omega)).mp hn.1, rfl⟩))
        · rw [if_pos (b01_f hn), if_pos (b01_f hn)]
          exact ⟨_, _, _, _, _, rfl, rfl, h.thr 0⟩
      · simp only [if_neg h2]
        have : k = 0 ∨ k = 1 := by
          have : k ≠ 2 := fun q => h2 (by rw [q]; rfl)
          omega
        refine fin 1 (by decide) ?_
        rcases this with rfl | rfl
        · exact Or.inl rfl
        · exact Or.inr (Or.inl ⟨rfl, rfl⟩)
    · rw [if_pos (b01_f hs), if_pos (b01_f hs)]
      exact ⟨_, _, _, _, _, rfl, rfl, h.thr 0⟩
  · rw [if_pos (b01_f hx), if_pos (b01_f hx)]
    exact ⟨_, _, _, _, _, rfl, rfl, h.thr 0⟩
end
