/-! ===== the law: its loop ===== -/
theorem LG {L i : Nat} (hL : L ≤ 5121) (h : L < i + 10) : ∀ {hi : i ≤ 6000}, (Int32.ofNat L - 10 : Int32) < zi i := by
  intro hi
  rw [Int32.lt_iff_toInt_lt, zi_int (by omega), Int32.toInt_sub, show (Int32.ofNat L).toInt = (L : Int) from zi_int (n := L) (by omega), show (10 : Int32).toInt = 10 from rfl, Int.bmod_eq_of_le (by omega) (by omega)]
  omega
theorem LX0 {L i : Nat} (hi : i + 10 ≤ L) (hL : L ≤ 5121) : vp_in (zi i) L := by
  unfold vp_in
  rw [zi_nat (by omega)]
  exact fun q => q.elim (zi_neg (by omega)) (by omega)
section
variable {p : Program} {l : Launch} {e : Env} {s : State} {m : MethodId} {below : List Frame} {meth : Method} {c : Code} {D : va_G} {dA : Nat → ClassId} {b0 L : Nat} {xs : Nat → Int32}
set_option maxRecDepth 100000 in
set_option maxHeartbeats 4000000 in
theorem law_loop (C0 : LC p s m c D dA b0 L xs) (hL : L ≤ 5121) (hret : meth.sig.returnType = ret) (hlk : meth.locks = false) (hsh : ∀ (b k : Nat) (S V : Nat → Nat → Int32) (Q : Nat → Option Nat) (Sm : Nat → Int32) (Vm : Nat → Nat → Int32) (lo : Nat → Int64) (g : ZH) (n : Nat) (H : Heap) (locs : List Loc) (cells slots : Nat) (ls : Array Slot), 1 + 10 * k + 10 ≤ L → k < 512 → LI s D dA b S V Q Sm Vm lo g n H locs cells slots k → lv_has ls 7 [(0, .ref b0), (1, .ref b), (2, .ref (b + 73)), (3, .ref (b + 100)), (4, .int (zi (1 + 10 * k)))] → LK p l e s m below meth c D dA b0 b (1 + 10 * k) k (lw_Z below #[Value.ref b0] s) → W p l e room_1 s m #[Value.ref b0] below meth c H locs cells slots (lw_Z below #[Value.ref b0] s) (F0 m 730 ls [])) :
    ∀ (r k b : Nat) (S V : Nat → Nat → Int32) (Q : Nat → Option Nat) (Sm : Nat → Int32) (Vm : Nat → Nat → Int32) (lo : Nat → Int64) (g : ZH) (n : Nat) (H : Heap) (locs : List Loc) (cells slots : Nat) (ls : Array Slot), L < 1 + 10 * k + 10 + 10 * r → k ≤ 512 → LI s D dA b S V Q Sm Vm lo g n H locs cells slots k → lv_has ls 7 [(0, .ref b0), (1, .ref b), (2, .ref (b + 73)), (3, .ref (b + 100)), (4, .int (zi (1 + 10 * k)))] → W p l e room_1 s m #[Value.ref b0] below meth c H locs cells slots (lw_Z below #[Value.ref b0] s) (F0 m 33 ls []) := by
  obtain ⟨S9, K, hX, hbl⟩ := id C0
  have hbA : ¬ LA s b0 := Nat.not_le.mpr hbl
  intro r
  induction r with
  | zero =>
    intro k b S V Q Sm Vm lo g n H locs cells slots ls hr hk9 I hl
    obtain ⟨Z, hR, hn, hfr, hc1, hc2⟩ := id I
    refine lv_iload S9.1 S9.2.1 dL_law_33 (lv_at hl 4 rfl) ?_
    refine lv_aload_n S9.1 S9.2.1 dL_law_35 rfl (lv_at hl 0 rfl) ?_
    refine va_slen S9.1 S9.2.1 hX hbl hbA Z.2 dL_law_36 ?_
    refine lv_bipush (v := (10 : Int32)) S9.1 S9.2.1 dL_law_37 (by decide) ?_
    refine lv_isub S9.1 S9.2.1 dL_law_39 ?_
    refine lv_icmp_gt (tgt := 805) S9.1 S9.2.1 dL_law_40 (by decide) (fun hc => ?_) (fun hc => absurd (LG hL (show L < 1 + 10 * k + 10 by omega) (hi := by omega)) hc)
    refine lv_iconst (v := 1) S9.1 S9.2.1 dL_law_805 (by decide) ?_
    refine va_forget (fun q hq => Z.2.2.2 q hq) ?_
    refine W.widen (k := 601024) (n := 7293000) (by omega) (by omega) ?_
    exact lw_ret S9.1 S9.2.1 hret hlk dL_law_806
  | succ r ih =>
    intro k b S V Q Sm Vm lo g n H locs cells slots ls hr hk9 I hl
    obtain ⟨Z, hR, hn, hfr, hc1, hc2⟩ := id I
    refine lv_iload S9.1 S9.2.1 dL_law_33 (lv_at hl 4 rfl) ?_
    refine lv_aload_n S9.1 S9.2.1 dL_law_35 rfl (lv_at hl 0 rfl) ?_
    refine va_slen S9.1 S9.2.1 hX hbl hbA Z.2 dL_law_36 ?_
    refine lv_bipush (v := (10 : Int32)) S9.1 S9.2.1 dL_law_37 (by decide) ?_
    refine lv_isub S9.1 S9.2.1 dL_law_39 ?_
    refine lv_icmp_gt (tgt := 805) S9.1 S9.2.1 dL_law_40 (by decide) (fun hc => ?_) (fun hc => ?_)
    · refine lv_iconst (v := 1) S9.1 S9.2.1 dL_law_805 (by decide) ?_
      refine va_forget (fun q hq => Z.2.2.2 q hq) ?_
      refine W.widen (k := 601024) (n := 7293000) (by omega) (by omega) ?_
      exact lw_ret S9.1 S9.2.1 hret hlk dL_law_806
    · have hi : 1 + 10 * k + 10 ≤ L := by
        rcases Nat.lt_or_ge L (1 + 10 * k + 10) with q | q
        · exact absurd (LG hL q (hi := by omega)) hc
        · exact q
      have hk : k < 512 := by omega
      have kk : LK p l e s m below meth c D dA b0 b (1 + 10 * k) k (lw_Z below #[Value.ref b0] s) := by
        intro S V Q Sm Vm lo g n H locs cells slots ls I hl
        refine lv_iinc (v := zi (1 + 10 * (k + 1))) (lv' := [(4, .int (zi (1 + 10 * (k + 1)))), (0, .ref b0), (1, .ref b), (2, .ref (b + 73)), (3, .ref (b + 100))]) S9.1 S9.2.1 dL_law_799 hl (k := 4) rfl (show zi (1 + 10 * k) + (10 : Int32) = zi (1 + 10 * (k + 1)) from zi_add (1 + 10 * k) 10) (by decide) rfl (fun ls hl => ?_)
        refine lv_goto (tgt := 33) S9.1 S9.2.1 dL_law_802 (by decide) ?_
        exact ih (k + 1) b _ _ _ _ _ _ _ _ _ _ _ _ _ (by omega) (by omega) I (lv_sub hl [1, 2, 3, 4, 0] rfl)
      refine lv_aload_n S9.1 S9.2.1 dL_law_43 rfl (lv_at hl 0 rfl) ?_
      refine lv_iload S9.1 S9.2.1 dL_law_44 (lv_at hl 4 rfl) ?_
      refine va_sld S9.1 S9.2.1 hX hbl hbA Z.2 (i := zi (1 + 10 * k)) (LX0 hi hL) dL_law_46 ?_
      refine lv_bipush (v := (31 : Int32)) S9.1 S9.2.1 dL_law_47 (by decide) ?_
      refine lv_iand S9.1 S9.2.1 dL_law_49 ?_
      refine lv_topi (fun v _ => ?_)
      by_cases hc0 : v = (0 : Int32)
      · refine lv_tableIn (tgt := 144) S9.1 S9.2.1 dL_law_50 (by rw [hc0]; decide) (by rw [hc0]; decide) (by rw [hc0]; rfl) (by decide) ?_
        exact lc_feed C0 hi hL hk I hl kk
      by_cases hc1 : v = (1 : Int32)
      · refine lv_tableIn (tgt := 213) S9.1 S9.2.1 dL_law_50 (by rw [hc1]; decide) (by rw [hc1]; decide) (by rw [hc1]; rfl) (by decide) ?_
        exact lc_word C0 hi hL hk I hl kk
      by_cases hc2 : v = (2 : Int32)
      · refine lv_tableIn (tgt := 226) S9.1 S9.2.1 dL_law_50 (by rw [hc2]; decide) (by rw [hc2]; decide) (by rw [hc2]; rfl) (by decide) ?_
        exact lc_text C0 hi hL hk I hl kk
      by_cases hc3 : v = (3 : Int32)
      · refine lv_tableIn (tgt := 239) S9.1 S9.2.1 dL_law_50 (by rw [hc3]; decide) (by rw [hc3]; decide) (by rw [hc3]; rfl) (by decide) ?_
        exact lc_rule C0 hi hL hk I hl kk
      by_cases hc4 : v = (4 : Int32)
      · refine lv_tableIn (tgt := 368) S9.1 S9.2.1 dL_law_50 (by rw [hc4]; decide) (by rw [hc4]; decide) (by rw [hc4]; rfl) (by decide) ?_
        exact lc_holder C0 hi hL hk I hl kk
      by_cases hc5 : v = (5 : Int32)
      · refine lv_tableIn (tgt := 429) S9.1 S9.2.1 dL_law_50 (by rw [hc5]; decide) (by rw [hc5]; decide) (by rw [hc5]; rfl) (by decide) ?_
        exact lc_seed C0 hi hL hk I hl kk
      by_cases hc6 : v = (6 : Int32)
      · refine lv_tableIn (tgt := 454) S9.1 S9.2.1 dL_law_50 (by rw [hc6]; decide) (by rw [hc6]; decide) (by rw [hc6]; rfl) (by decide) ?_
        exact lc_script C0 hi hL hk I hl kk
      by_cases hc7 : v = (7 : Int32)
      · refine lv_tableIn (tgt := 467) S9.1 S9.2.1 dL_law_50 (by rw [hc7]; decide) (by rw [hc7]; decide) (by rw [hc7]; rfl) (by decide) ?_
        exact lc_run C0 hi hL hk I hl kk
      by_cases hc8 : v = (8 : Int32)
      · refine lv_tableIn (tgt := 492) S9.1 S9.2.1 dL_law_50 (by rw [hc8]; decide) (by rw [hc8]; decide) (by rw [hc8]; rfl) (by decide) ?_
        exact lc_failed C0 hi hL hk I hl kk
      by_cases hc9 : v = (9 : Int32)
      · refine lv_tableIn (tgt := 529) S9.1 S9.2.1 dL_law_50 (by rw [hc9]; decide) (by rw [hc9]; decide) (by rw [hc9]; rfl) (by decide) ?_
        exact lc_replay C0 hi hL hk I hl kk
      by_cases hc10 : v = (10 : Int32)
      · refine lv_tableIn (tgt := 542) S9.1 S9.2.1 dL_law_50 (by rw [hc10]; decide) (by rw [hc10]; decide) (by rw [hc10]; rfl) (by decide) ?_
        exact lc_storm C0 hi hL hk I hl kk
      by_cases hc11 : v = (11 : Int32)
      · refine lv_tableIn (tgt := 579) S9.1 S9.2.1 dL_law_50 (by rw [hc11]; decide) (by rw [hc11]; decide) (by rw [hc11]; rfl) (by decide) ?_
        exact lc_play C0 hi hL hk I hl kk
      by_cases hc12 : v = (12 : Int32)
      · refine lv_tableIn (tgt := 592) S9.1 S9.2.1 dL_law_50 (by rw [hc12]; decide) (by rw [hc12]; decide) (by rw [hc12]; rfl) (by decide) ?_
        exact lc_played C0 hi hL hk I hl kk
      by_cases hc13 : v = (13 : Int32)
      · refine lv_tableIn (tgt := 617) S9.1 S9.2.1 dL_law_50 (by rw [hc13]; decide) (by rw [hc13]; decide) (by rw [hc13]; rfl) (by decide) ?_
        exact lc_shrink C0 hi hL hk I hl kk
      by_cases hc14 : v = (14 : Int32)
      · refine lv_tableIn (tgt := 630) S9.1 S9.2.1 dL_law_50 (by rw [hc14]; decide) (by rw [hc14]; decide) (by rw [hc14]; rfl) (by decide) ?_
        exact lc_state C0 hi hL hk I hl kk
      by_cases hc15 : v = (15 : Int32)
      · refine lv_tableIn (tgt := 655) S9.1 S9.2.1 dL_law_50 (by rw [hc15]; decide) (by rw [hc15]; decide) (by rw [hc15]; rfl) (by decide) ?_
        exact lc_done C0 hi hL hk I hl kk
      by_cases hc16 : v = (16 : Int32)
      · refine lv_tableIn (tgt := 680) S9.1 S9.2.1 dL_law_50 (by rw [hc16]; decide) (by rw [hc16]; decide) (by rw [hc16]; rfl) (by decide) ?_
        exact lc_shown C0 hi hL hk I hl kk
      by_cases hc17 : v = (17 : Int32)
      · refine lv_tableIn (tgt := 705) S9.1 S9.2.1 dL_law_50 (by rw [hc17]; decide) (by rw [hc17]; decide) (by rw [hc17]; rfl) (by decide) ?_
        exact lc_never C0 hi hL hk I hl kk
      by_cases hc18 : v = (18 : Int32)
      · refine lv_tableIn (tgt := 730) S9.1 S9.2.1 dL_law_50 (by rw [hc18]; decide) (by rw [hc18]; decide) (by rw [hc18]; rfl) (by decide) ?_
        exact hsh _ _ _ _ _ _ _ _ _ _ _ _ _ _ _ hi hk I hl kk
      by_cases hc19 : v = (19 : Int32)
      · refine lv_tableIn (tgt := 774) S9.1 S9.2.1 dL_law_50 (by rw [hc19]; decide) (by rw [hc19]; decide) (by rw [hc19]; rfl) (by decide) ?_
        exact lc_told C0 hi hL hk I hl kk
      refine lv_tableOut (tgt := 799) S9.1 S9.2.1 dL_law_50 (zz_sw_out (fun k9 h1 h2 => by
        have h3 : k9 = 0 ∨ k9 = 1 ∨ k9 = 2 ∨ k9 = 3 ∨ k9 = 4 ∨ k9 = 5 ∨ k9 = 6 ∨ k9 = 7 ∨ k9 = 8 ∨ k9 = 9 ∨ k9 = 10 ∨ k9 = 11 ∨ k9 = 12 ∨ k9 = 13 ∨ k9 = 14 ∨ k9 = 15 ∨ k9 = 16 ∨ k9 = 17 ∨ k9 = 18 ∨ k9 = 19 := by omega
        rcases h3 with rfl | rfl | rfl | rfl | rfl | rfl | rfl | rfl | rfl | rfl | rfl | rfl | rfl | rfl | rfl | rfl | rfl | rfl | rfl | rfl
        · exact hc0
        · exact hc1
        · exact hc2
        · exact hc3
        · exact hc4
        · exact hc5
        · exact hc6
        · exact hc7
        · exact hc8
        · exact hc9
        · exact hc10
        · exact hc11
        · exact hc12
        · exact hc13
        · exact hc14
        · exact hc15
        · exact hc16
        · exact hc17
        · exact hc18
        · exact hc19)) (by decide) ?_
      exact kk _ _ _ _ _ _ _ _ _ _ _ _ _ ⟨Z, hR, hn, hfr, by omega, by omega⟩ hl
end
