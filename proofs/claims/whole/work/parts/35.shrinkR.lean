/-! ===== shrinking: the reference's rounds ===== -/
def sfm (nr : Nat) (V : Nat → Nat → Int32) : (Nat → Int32) → Int32 → Int32 × (Nat → Int32) := sayF nr (mru V) (V 22) (V 23) (mhv V)
theorem sfm_ext {nr : Nat} {V V' : Nat → Nat → Int32} (h : ∀ k, 11 ≤ k → k < 25 → V' k = V k) : sfm nr V' = sfm nr V := by
  funext mo w
  unfold sfm
  rw [sayF_ru (mru_ext (fun k h1 h2 => h k h1 (by omega))), h 22 (by decide) (by decide), h 23 (by decide) (by decide)]
  unfold mhv
  rw [h 24 (by decide) (by decide)]
theorem RI_mext {nr nw nt : Nat} {V V' : Nat → Nat → Int32} (h : ∀ k, 11 ≤ k → k < 20 → V' k = V k) (ri : RI nr (mru V) nw nt) : RI nr (mru V') nw nt := by
  have e := mru_ext h
  intro r hr
  rw [e r 0 (by decide), e r 1 (by decide), e r 2 (by decide), e r 4 (by decide), e r 5 (by decide), e r 6 (by decide), e r 7 (by decide), e r 8 (by decide)]
  exact ri r hr
/-- what the rounds change of the arrays -/
def wv (V : Nat → Nat → Int32) (mo x ws : Nat → Int32) : Nat → Nat → Int32 := va_up (va_up (va_up V 28 mo) 29 x) 38 ws
theorem wv_ne {V : Nat → Nat → Int32} {mo x ws : Nat → Int32} {k : Nat} (h1 : k ≠ 28) (h2 : k ≠ 29) (h3 : k ≠ 38) : wv V mo x ws k = V k := by
  unfold wv
  rw [up_ne _ _ h3, up_ne _ _ h2, up_ne _ _ h1]
theorem wv_28 {V : Nat → Nat → Int32} {mo x ws : Nat → Int32} : wv V mo x ws 28 = mo := rfl
theorem wv_29 {V : Nat → Nat → Int32} {mo x ws : Nat → Int32} : wv V mo x ws 29 = x := rfl
theorem wv_38 {V : Nat → Nat → Int32} {mo x ws : Nat → Int32} : wv V mo x ws 38 = ws := rfl
theorem wv_b {V : Nat → Nat → Int32} {mo mo' x x' ws : Nat → Int32} : va_up (va_up (wv V mo x ws) 28 mo') 29 x' = wv V mo' x' ws := by
  unfold wv
  funext k
  by_cases h1 : k = 28
  · subst h1
    rfl
  · by_cases h2 : k = 29
    · subst h2
      rfl
    · by_cases h3 : k = 38
      · subst h3
        rfl
      · rw [up_ne _ _ h2, up_ne _ _ h1, up_ne _ _ h3, up_ne _ _ h2, up_ne _ _ h1, up_ne _ _ h3, up_ne _ _ h2, up_ne _ _ h1]
theorem wv_w {V : Nat → Nat → Int32} {mo x ws ws' : Nat → Int32} : va_up (wv V mo x ws) 38 ws' = wv V mo x ws' := up_up _ _ _ _
theorem wv_id {V : Nat → Nat → Int32} : wv V (V 28) (V 29) (V 38) = V := by
  unfold wv
  rw [up_id, up_id, up_id]
section
variable {m : Nat} {S : Nat → Int32} {V : Nat → Nat → Int32} {g h0 : ZH} {nr nw nt p : Nat} {y1 y2 y3 y4 : Int32}
theorem X12_shr_no {i : Nat} {V' : Nat → Nat → Int32} (hp : S 37 = zi p) : f_X12_shrink_J104 h0 m y1 y2 y3 y4 (zi i) (Rm m S V' g) = some (.inl (0, zi (i + 1), Rm m S V' g)) := by
  unfold f_X12_shrink_J104 f_X12_shrink_J105
  refine (zz_loop_map (o := f_X12_shrink_J149 h0 m y1 y2 y3 y4 0 (zi i) (Rm m S V' g)) ?_).trans ?_
  · show f_X12_shrink_L111 h0 m y1 y2 y3 y4 0 (zi i) (zi i) (Rm m S V' g) = _
    unfold f_X12_shrink_L111
    rw [if_pos rfl]
  · unfold f_X12_shrink_J149
    rw [rgI_37, Option.bind_some, if_pos rfl]
    unfold f_X12_shrink_J164
    rw [Int32.sub_zero, rp_37, Option.bind_some, up_id, zi_one]
theorem X12_shr_yes {i : Nat} {mo x ws : Nat → Int32} (hp : S 37 = zi p) (hi : i < p) (hp60 : p ≤ 60) : f_X12_shrink_J105 h0 m y1 y2 y3 y4 (zi i) 1 (Rm m S (wv V mo x ws) g) = some (.inl (1, zi (i + 1), Rm m (va_up S 37 (zi (p - 1))) (wv V mo x (bw ws i (p - 1 - i) (fun j => ws (i + 1 + j)))) g)) := by
  unfold f_X12_shrink_J105
  have J : ∀ V' : Nat → Nat → Int32, f_X12_shrink_J149 h0 m y1 y2 y3 y4 1 (zi i) (Rm m S V' g) = some (.inl (1, zi (i + 1), Rm m (va_up S 37 (zi (p - 1))) V' g)) := by
    intro V'
    unfold f_X12_shrink_J149
    rw [rgI_37, Option.bind_some, if_neg (by decide)]
    unfold f_X12_shrink_J164
    rw [hp, show zi p - (1 : Int32) = zi (p - 1) from zi_sub (b := 1) (by omega), rp_37, Option.bind_some, zi_one]
  have key := loop_seq (b := fun st : (Int32 × ZH) => f_X12_shrink_L111 h0 m y1 y2 y3 y4 1 (zi i) (st.1) (st.2)) (p - 1 - i) (fun j => (zi (i + j), Rm m S (wv V mo x (bw ws i j (fun j => ws (i + 1 + j)))) g)) (.inl (1, zi (i + 1), Rm m (va_up S 37 (zi (p - 1))) (wv V mo x (bw ws i (p - 1 - i) (fun j => ws (i + 1 + j)))) g)) (fun j hj => by
      show f_X12_shrink_L111 h0 m y1 y2 y3 y4 1 (zi i) (zi (i + j)) _ = _
      unfold f_X12_shrink_L111
      rw [if_neg (by decide), rgI_37, Option.bind_some, hp, show zi p - (1 : Int32) = zi (p - 1) from zi_sub (b := 1) (by omega), if_neg (fun q => absurd ((zi_le (by omega) (by omega)).mp q) (by omega)), rgR_38, Option.bind_some, Option.bind_some, zi_one, rl_38 (by omega), Option.bind_some, rs_38 _ (by omega), Option.bind_some, wv_w, wv_38]
      rw [bw_out (k := i + j + 1) (by omega)]
      have e := bw_up ws i j (fun j => ws (i + 1 + j))
      rw [show i + j + 1 = i + 1 + j by omega]
      rw [e]
      rw [show i + 1 + j = i + (j + 1) by omega]) (by
      show f_X12_shrink_L111 h0 m y1 y2 y3 y4 1 (zi i) (zi (i + (p - 1 - i))) _ = _
      unfold f_X12_shrink_L111
      rw [if_neg (by decide), rgI_37, Option.bind_some, hp, show zi p - (1 : Int32) = zi (p - 1) from zi_sub (b := 1) (by omega), if_pos ((zi_le (by omega) (by omega)).mpr (by omega)), J]
      rfl)
  rw [Nat.add_zero, bw_0] at key
  exact key
theorem X12_shr_round {mo x ws : Nat → Int32} (a2 : S 10 = zi nr) (a3 : nr ≤ 30) (c3 : nt ≤ 24) (ri : RI nr (mru V) nw nt) (hI : sfR (sfm nr V) (sfm nr V) nt) (h27 : S 27 = 0) (h39 : ¬ S 39 = 0) (hp : S 37 = zi p) (hp60 : p ≤ 60) :
    ∃ mo' x', zz_loop (fun st : (Int32 × Int32 × ZH) => f_X12_shrink_L69 h0 m y1 y2 y3 y4 (st.1) (st.2.1) (st.2.2)) (0, 0, Rm m S (wv V mo x ws) g) = some (.inl (b01 (fsr (cgo (sfm nr V) (V 9) ws p (S 39) (S 3)) p 0 < p), Rm m (if fsr (cgo (sfm nr V) (V 9) ws p (S 39) (S 3)) p 0 < p then va_up S 37 (zi (p - 1)) else S) (wv V mo' x' (if fsr (cgo (sfm nr V) (V 9) ws p (S 39) (S 3)) p 0 < p then bw ws (fsr (cgo (sfm nr V) (V 9) ws p (S 39) (S 3)) p 0) (p - 1 - fsr (cgo (sfm nr V) (V 9) ws p (S 39) (S 3)) p 0) (fun j => ws (fsr (cgo (sfm nr V) (V 9) ws p (S 39) (S 3)) p 0 + 1 + j)) else ws)) g)) ∧ ∀ k, 12 ≤ k → mo' k = mo k := by
  have can : ∀ (i : Nat) (mo x : Nat → Int32), 2 ≤ p → i < p → ∃ mo' x', f_X12_canGo (Rm m S (wv V mo x ws) g) m (zi i) = some (b01 (cgo (sfm nr V) (V 9) ws p (S 39) (S 3) i = true), Rm m S (wv V mo' x' ws) g) ∧ ∀ k, 12 ≤ k → mo' k = mo k := by
    intro i mo x h2 hi
    have ext : sfm nr (wv V mo x ws) = sfm nr V := sfm_ext (fun k h1 h2 => wv_ne (by omega) (by omega) (by omega))
    obtain ⟨mo', e, hk⟩ := X12_canGo (m := m) (S := S) (V := wv V mo x ws) (g := g) (nw := nw) (nt := nt) a2 a3 c3 (RI_mext (fun k h1 h2 => wv_ne (by omega) (by omega) (by omega)) ri) (by
      have h9 : sfR (sfm nr (wv V mo x ws)) (sfm nr (wv V mo x ws)) nt := by
        rw [ext]
        exact hI
      exact h9) h27 h39 hp h2 hp60 hi
    refine ⟨mo', bw (wv V mo x ws 29) 1 4 (fun _ => 0), ?_, hk⟩
    rw [wv_b, wv_ne (k := 9) (by decide) (by decide) (by decide), wv_38] at e
    rw [e]
    rw [show sayF nr (mru (wv V mo x ws)) (wv V mo x ws 22) (wv V mo x ws 23) (mhv (wv V mo x ws)) = sfm nr V from ext]
  have no1 : p ≤ 1 → ∀ i, i < p → cgo (sfm nr V) (V 9) ws p (S 39) (S 3) i = false := by
    intro h1 i hi
    unfold cgo
    rw [if_pos (by omega)]
  generalize cgo (sfm nr V) (V 9) ws p (S 39) (S 3) = cf at can no1 ⊢
  obtain ⟨g1, g2, g3, g4⟩ := fsr_spec cf p 0
  generalize fsr cf p 0 = k at g1 g2 g3 g4 ⊢
  have key : ∀ (d i : Nat) (mo x : Nat → Int32), i ≤ k → k - i = d → ∃ mo' x', zz_loop (fun st : (Int32 × Int32 × ZH) => f_X12_shrink_L69 h0 m y1 y2 y3 y4 (st.1) (st.2.1) (st.2.2)) (0, zi i, Rm m S (wv V mo x ws) g) = some (.inl (b01 (k < p), Rm m (if k < p then va_up S 37 (zi (p - 1)) else S) (wv V mo' x' (if k < p then bw ws k (p - 1 - k) (fun j => ws (k + 1 + j)) else ws)) g)) ∧ ∀ k, 12 ≤ k → mo' k = mo k := by
    intro d
    induction d with
    | zero =>
      intro i mo x h1 h2
      have e : i = k := by omega
      subst e
      by_cases hk : i < p
      · have hp2 : 2 ≤ p := by
          by_cases q : 2 ≤ p
          · exact q
          · have := no1 (by omega) i hk
            rw [g4 (by omega)] at this
            cases this
        obtain ⟨mo', x', ec, hm⟩ := can i mo x hp2 hk
        refine ⟨mo', x', ?_, hm⟩
        rw [zz_loop_inl (s' := (1, zi (i + 1), Rm m (va_up S 37 (zi (p - 1))) (wv V mo' x' (bw ws i (p - 1 - i) (fun j => ws (i + 1 + j)))) g))]
        · refine (zz_loop_inr (r := .inl (1, Rm m (va_up S 37 (zi (p - 1))) (wv V mo' x' (bw ws i (p - 1 - i) (fun j => ws (i + 1 + j)))) g)) ?_).trans ?_
          · show f_X12_shrink_L69 h0 m y1 y2 y3 y4 1 (zi (i + 1)) _ = _
            unfold f_X12_shrink_L69
            rw [rgI_37, Option.bind_some, if_neg (show ¬ (1 : Int32) = 0 by decide)]
            by_cases q : va_up S 37 (zi (p - 1)) 37 ≤ zi (i + 1)
            · rw [if_pos q]
              rfl
            · rw [if_neg q]
              rfl
          · rw [b01_t hk, if_pos hk, if_pos hk]
        · show f_X12_shrink_L69 h0 m y1 y2 y3 y4 0 (zi i) _ = _
          unfold f_X12_shrink_L69
          rw [rgI_37, Option.bind_some, hp, if_neg (fun q => absurd ((zi_le (by omega) (by omega)).mp q) (by omega)), if_pos rfl, Option.bind_some, if_neg (fun q => absurd ((zi_leL (by omega) (by decide)).mp q) (by omega)), rO, ec, Option.bind_some, b01_t (g4 (by omega))]
          show (if (1 : Int32) = 0 then _ else f_X12_shrink_J105 h0 m y1 y2 y3 y4 (zi i) 1 (Rm m S (wv V mo' x' ws) g)) = _
          rw [if_neg (by decide), X12_shr_yes hp hk hp60]
      · refine ⟨mo, x, (zz_loop_inr (r := .inl (0, Rm m S (wv V mo x ws) g)) ?_).trans ?_, fun _ _ => rfl⟩
        · show f_X12_shrink_L69 h0 m y1 y2 y3 y4 0 (zi i) _ = _
          unfold f_X12_shrink_L69
          rw [rgI_37, Option.bind_some, hp, if_pos ((zi_le (by omega) (by omega)).mpr (by omega))]
          rfl
        · rw [b01_f hk, if_neg hk, if_neg hk]
    | succ d ih =>
      intro i mo x h1 h2
      have hip : i < p := by omega
      by_cases hp2 : 2 ≤ p
      · obtain ⟨mo1, x1, ec, hm⟩ := can i mo x hp2 hip
        obtain ⟨mo', x', e, hm2⟩ := ih (i + 1) mo1 x1 (by omega) (by omega)
        refine ⟨mo', x', ?_, fun k hk => (hm2 k hk).trans (hm k hk)⟩
        rw [zz_loop_inl (s' := (0, zi (i + 1), Rm m S (wv V mo1 x1 ws) g)), e]
        show f_X12_shrink_L69 h0 m y1 y2 y3 y4 0 (zi i) _ = _
        unfold f_X12_shrink_L69
        rw [rgI_37, Option.bind_some, hp, if_neg (fun q => absurd ((zi_le (by omega) (by omega)).mp q) (by omega)), if_pos rfl, Option.bind_some, if_neg (fun q => absurd ((zi_leL (by omega) (by decide)).mp q) (by omega)), rO, ec, Option.bind_some, b01_f (by rw [g3 i (by omega) (by omega)]; decide)]
        show (if (0 : Int32) = 0 then f_X12_shrink_J104 h0 m y1 y2 y3 y4 (zi i) (Rm m S (wv V mo1 x1 ws) g) else _) = _
        rw [if_pos rfl, X12_shr_no hp]
      · obtain ⟨mo', x', e, hm2⟩ := ih (i + 1) mo x (by omega) (by omega)
        refine ⟨mo', x', ?_, hm2⟩
        rw [zz_loop_inl (s' := (0, zi (i + 1), Rm m S (wv V mo x ws) g)), e]
        show f_X12_shrink_L69 h0 m y1 y2 y3 y4 0 (zi i) _ = _
        unfold f_X12_shrink_L69
        rw [rgI_37, Option.bind_some, hp, if_neg (fun q => absurd ((zi_le (by omega) (by omega)).mp q) (by omega)), if_pos rfl, Option.bind_some, if_pos ((zi_leL (by omega) (by decide)).mpr (by omega)), X12_shr_no hp]
  exact key k 0 mo x g1 (by omega)
end
