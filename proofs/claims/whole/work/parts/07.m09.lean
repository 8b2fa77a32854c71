noncomputable def f_X12_state (h : ZH) (a0 : Nat) (a1 : Int32) : Option (Int32 × ZH) :=
  (zp_V h a0 10 0 (.int ((0 : Int32)))).bind fun h1 => (f_X12_in h1 (a1.toInt64) (0 : Int64) (11 : Int64)).bind fun v2 => if v2 = 0 then (some (((-3 : Int32), h1))) else ((zg_R h1 a0 10 28).bind fun v3 => (zl_I h1 v3 1 a1).bind fun v4 => some ((v4, h1)))
abbrev rm_X12_state : Room := { frames := 1, cells := 0, slots := 0, locals := 25 }
set_option maxRecDepth 100000 in
set_option maxHeartbeats 4000000 in
theorem c_X12_state {l : Launch} {D : va_G} {dA : Nat → ClassId} {A : Nat → Prop} {h : ZH} {n : Nat} (a0 : Nat) (a1 : Int32) {r : Int32} {hx : ZH} (hf : f_X12_state h a0 a1 = some (r, hx)) : Met l yX12_state (zz_ws yX12_state cX12_state 2 (some .int)) rm_X12_state (zz_P D dA A h n [.ref (a0), .int (a1)]) (zz_Q D dA A (some (.int r)) hx n) 0 0 A := by
  refine zz_met (by decide) (Nat.le_of_ble_eq_true rfl) ?_
  intro p e s m args below meth c ls S K hret hlk hnm hl Z
  replace hl : lv_has ls 2 [(0, .ref (a0)), (1, .int (a1))] := hl
  obtain ⟨K0, hR0, hk⟩ : ∃ K0 : (Int32 × ZH) → Prop, (∀ x, K0 x → x = (r, hx)) ∧ K0 (r, hx) := ⟨fun x => x = (r, hx), fun _ h => h, rfl⟩
  have hv := hf
  unfold f_X12_state at hv
  clear hf
  obtain ⟨x, hxx⟩ : ∃ x, x = (r, hx) := ⟨_, rfl⟩
  rw [← hxx] at hv hk
  have ⟨H, hH⟩ : ∃ H, H = s.heap := ⟨_, rfl⟩
  have ⟨locs, hlo⟩ : ∃ q : List Loc, q = [] := ⟨_, rfl⟩
  have Z : zz_B D dA A h n s.heap H locs := by rw [hH, hlo]; exact Z
  have key : zz_W p l e rm_X12_state s m args below meth c D dA A (some (.int r)) hx n 0 0 H locs 0 0 0 ls [] := by
    clear hH hlo hxx
    refine lv_aload_n S.1 S.2.1 dX12_state_0 rfl (lv_at hl 0 rfl) ?_
    refine lv_iconst (v := (0 : Int32)) S.1 S.2.1 dX12_state_1 (by decide) ?_
    refine zz_put S K Z hv zc_10 (by decide) gf_X12_1 rfl rfl rfl dX12_state_2 (fun h1 H locs hv Z => ?_)
    refine lv_iload_n S.1 S.2.1 dX12_state_5 rfl (lv_at hl 1 rfl) ?_
    refine lv_i2l S.1 S.2.1 dX12_state_6 rfl ?_
    refine lv_lconst (v := (0 : Int64)) S.1 S.2.1 dX12_state_7 (by decide) ?_
    refine lv_ldc2 (v := (11 : Int64)) S.1 S.2.1 S.2.2.2.1 (S.2.2.2.2 _ gk_X12_268) dX12_state_8 ?_
    obtain ⟨v2, hq, hv⟩ := zz_bd hv
    refine zz_S [.long (a1.toInt64), .long ((0 : Int64)), .long ((11 : Int64))] S K Z (c_X12_in (a1.toInt64) (0 : Int64) (11 : Int64) hq) ⟨rfl, rfl⟩ gm_X12_in gs_X12_in gl_X12_105 ⟨by decide, by decide⟩ rfl hl.1 rfl (Nat.le_of_ble_eq_true rfl) dX12_state_11 ⟨Nat.zero_le _, Nat.zero_le _⟩ (fun H locs Z => ?_)
    show W _ _ _ _ _ _ _ _ _ _ _ _ 0 0 _ (F0 m 14 ls [.int (v2)])
    refine lv_if_eq (tgt := 26) S.1 S.2.1 dX12_state_14 (by decide) (fun hc => ?_) (fun hc => ?_)
    · replace hv := (if_pos hc).symm.trans hv
      refine lv_bipush (v := (-3 : Int32)) S.1 S.2.1 dX12_state_26 (by decide) ?_
      replace hk := zz_fin hv hk
      obtain ⟨rfl, rfl⟩ := Prod.mk.inj (hR0 _ hk)
      exact zz_iret S Z hret hlk dX12_state_28 (Nat.le_refl _) (Nat.le_refl _)
    · replace hv := (if_neg hc).symm.trans hv
      refine lv_aload_n S.1 S.2.1 dX12_state_17 rfl (lv_at hl 0 rfl) ?_
      refine zz_gR S K Z hv zc_10 (by decide) gf_X12_75 dX12_state_18 (fun v3 hv => ?_)
      refine lv_iload_n S.1 S.2.1 dX12_state_21 rfl (lv_at hl 1 rfl) ?_
      refine zz_iald S K Z hv dX12_state_22 (fun v4 hv => ?_)
      refine lv_goto (tgt := 28) S.1 S.2.1 dX12_state_23 (by decide) ?_
      replace hk := zz_fin hv hk
      obtain ⟨rfl, rfl⟩ := Prod.mk.inj (hR0 _ hk)
      exact zz_iret S Z hret hlk dX12_state_28 (Nat.le_refl _) (Nat.le_refl _)
  rw [hH, hlo] at key
  exact key

noncomputable def f_X12_done (h : ZH) (a0 : Nat) (a1 : Int32) : Option (Int32 × ZH) :=
  (zp_V h a0 10 0 (.int ((0 : Int32)))).bind fun h1 => (zg_I h1 a0 10 10).bind fun v2 => (f_X12_in h1 (a1.toInt64) (0 : Int64) ((v2 - (1 : Int32)).toInt64)).bind fun v3 => if v3 = 0 then (some (((-2 : Int32), h1))) else ((zg_R h1 a0 10 20).bind fun v4 => (zl_I h1 v4 1 a1).bind fun v5 => some ((v5, h1)))
abbrev rm_X12_done : Room := { frames := 1, cells := 0, slots := 0, locals := 25 }
set_option maxRecDepth 100000 in
set_option maxHeartbeats 4000000 in
theorem c_X12_done {l : Launch} {D : va_G} {dA : Nat → ClassId} {A : Nat → Prop} {h : ZH} {n : Nat} (a0 : Nat) (a1 : Int32) {r : Int32} {hx : ZH} (hf : f_X12_done h a0 a1 = some (r, hx)) : Met l yX12_done (zz_ws yX12_done cX12_done 2 (some .int)) rm_X12_done (zz_P D dA A h n [.ref (a0), .int (a1)]) (zz_Q D dA A (some (.int r)) hx n) 0 0 A := by
  refine zz_met (by decide) (Nat.le_of_ble_eq_true rfl) ?_
  intro p e s m args below meth c ls S K hret hlk hnm hl Z
  replace hl : lv_has ls 2 [(0, .ref (a0)), (1, .int (a1))] := hl
  obtain ⟨K0, hR0, hk⟩ : ∃ K0 : (Int32 × ZH) → Prop, (∀ x, K0 x → x = (r, hx)) ∧ K0 (r, hx) := ⟨fun x => x = (r, hx), fun _ h => h, rfl⟩
  have hv := hf
  unfold f_X12_done at hv
  clear hf
  obtain ⟨x, hxx⟩ : ∃ x, x = (r, hx) := ⟨_, rfl⟩
  rw [← hxx] at hv hk
  have ⟨H, hH⟩ : ∃ H, H = s.heap := ⟨_, rfl⟩
  have ⟨locs, hlo⟩ : ∃ q : List Loc, q = [] := ⟨_, rfl⟩
  have Z : zz_B D dA A h n s.heap H locs := by rw [hH, hlo]; exact Z
  have key : zz_W p l e rm_X12_done s m args below meth c D dA A (some (.int r)) hx n 0 0 H locs 0 0 0 ls [] := by
    clear hH hlo hxx
    refine lv_aload_n S.1 S.2.1 dX12_done_0 rfl (lv_at hl 0 rfl) ?_
    refine lv_iconst (v := (0 : Int32)) S.1 S.2.1 dX12_done_1 (by decide) ?_
    refine zz_put S K Z hv zc_10 (by decide) gf_X12_1 rfl rfl rfl dX12_done_2 (fun h1 H locs hv Z => ?_)
    refine lv_iload_n S.1 S.2.1 dX12_done_5 rfl (lv_at hl 1 rfl) ?_
    refine lv_i2l S.1 S.2.1 dX12_done_6 rfl ?_
    refine lv_lconst (v := (0 : Int64)) S.1 S.2.1 dX12_done_7 (by decide) ?_
    refine lv_aload_n S.1 S.2.1 dX12_done_8 rfl (lv_at hl 0 rfl) ?_
    refine zz_gI S K Z hv zc_10 (by decide) gf_X12_159 dX12_done_9 (fun v2 hv => ?_)
    refine lv_iconst (v := (1 : Int32)) S.1 S.2.1 dX12_done_12 (by decide) ?_
    refine lv_isub S.1 S.2.1 dX12_done_13 ?_
    refine lv_i2l S.1 S.2.1 dX12_done_14 rfl ?_
    obtain ⟨v3, hq, hv⟩ := zz_bd hv
    refine zz_S [.long (a1.toInt64), .long ((0 : Int64)), .long ((v2 - (1 : Int32)).toInt64)] S K Z (c_X12_in (a1.toInt64) (0 : Int64) ((v2 - (1 : Int32)).toInt64) hq) ⟨rfl, rfl⟩ gm_X12_in gs_X12_in gl_X12_105 ⟨by decide, by decide⟩ rfl hl.1 rfl (Nat.le_of_ble_eq_true rfl) dX12_done_15 ⟨Nat.zero_le _, Nat.zero_le _⟩ (fun H locs Z => ?_)
    show W _ _ _ _ _ _ _ _ _ _ _ _ 0 0 _ (F0 m 18 ls [.int (v3)])
    refine lv_if_eq (tgt := 30) S.1 S.2.1 dX12_done_18 (by decide) (fun hc => ?_) (fun hc => ?_)
    · replace hv := (if_pos hc).symm.trans hv
      refine lv_bipush (v := (-2 : Int32)) S.1 S.2.1 dX12_done_30 (by decide) ?_
      replace hk := zz_fin hv hk
      obtain ⟨rfl, rfl⟩ := Prod.mk.inj (hR0 _ hk)
      exact zz_iret S Z hret hlk dX12_done_32 (Nat.le_refl _) (Nat.le_refl _)
    · replace hv := (if_neg hc).symm.trans hv
      refine lv_aload_n S.1 S.2.1 dX12_done_21 rfl (lv_at hl 0 rfl) ?_
      refine zz_gR S K Z hv zc_10 (by decide) gf_X12_56 dX12_done_22 (fun v4 hv => ?_)
      refine lv_iload_n S.1 S.2.1 dX12_done_25 rfl (lv_at hl 1 rfl) ?_
      refine zz_iald S K Z hv dX12_done_26 (fun v5 hv => ?_)
      refine lv_goto (tgt := 32) S.1 S.2.1 dX12_done_27 (by decide) ?_
      replace hk := zz_fin hv hk
      obtain ⟨rfl, rfl⟩ := Prod.mk.inj (hR0 _ hk)
      exact zz_iret S Z hret hlk dX12_done_32 (Nat.le_refl _) (Nat.le_refl _)
  rw [hH, hlo] at key
  exact key

noncomputable def f_X12_shown_J37 (h : ZH) (a0 : Nat) (a1 : Int32) (s5 : Int32) (s6 : Nat) (h7 : ZH) : Option (Int32 × ZH) :=
  (zl_I h7 s6 1 s5).bind fun v8 => some ((v8, h7))
noncomputable def f_X12_shown (h : ZH) (a0 : Nat) (a1 : Int32) : Option (Int32 × ZH) :=
  (zp_V h a0 10 0 (.int ((0 : Int32)))).bind fun h1 => (zg_I h1 a0 10 7).bind fun v2 => (f_X12_in h1 (a1.toInt64) (-1 : Int64) ((v2 - (1 : Int32)).toInt64)).bind fun v3 => if v3 = 0 then (some (((-2 : Int32), h1))) else ((zg_R h1 a0 10 21).bind fun v4 => if 0 ≤ a1 then (f_X12_shown_J37 h a0 a1 a1 v4 h1) else (f_X12_shown_J37 h a0 a1 (24 : Int32) v4 h1))
abbrev rm_X12_shown : Room := { frames := 1, cells := 0, slots := 0, locals := 25 }
set_option maxRecDepth 100000 in
set_option maxHeartbeats 4000000 in
theorem c_X12_shown {l : Launch} {D : va_G} {dA : Nat → ClassId} {A : Nat → Prop} {h : ZH} {n : Nat} (a0 : Nat) (a1 : Int32) {r : Int32} {hx : ZH} (hf : f_X12_shown h a0 a1 = some (r, hx)) : Met l yX12_shown (zz_ws yX12_shown cX12_shown 2 (some .int)) rm_X12_shown (zz_P D dA A h n [.ref (a0), .int (a1)]) (zz_Q D dA A (some (.int r)) hx n) 0 0 A := by
  refine zz_met (by decide) (Nat.le_of_ble_eq_true rfl) ?_
  intro p e s m args below meth c ls S K hret hlk hnm hl Z
  replace hl : lv_has ls 2 [(0, .ref (a0)), (1, .int (a1))] := hl
  obtain ⟨K0, hR0, hk⟩ : ∃ K0 : (Int32 × ZH) → Prop, (∀ x, K0 x → x = (r, hx)) ∧ K0 (r, hx) := ⟨fun x => x = (r, hx), fun _ h => h, rfl⟩
  have J37 : ∀ (s5 : Int32) (s6 : Nat) (h7 : ZH) (x : (Int32 × ZH)), f_X12_shown_J37 h a0 a1 s5 s6 h7 = some x → K0 x → ∀ (H : Heap) (locs : List Loc) (ls : Array Slot), zz_B D dA A h7 n s.heap H locs → lv_has ls 2 [] → zz_W p l e rm_X12_shown s m args below meth c D dA A (some (.int r)) hx n 0 0 H locs 0 0 37 ls [.int (s5), .ref (s6)] := by
    intro s5 s6 h7 x hv hk H locs ls Z hl
    unfold f_X12_shown_J37 at hv
    refine zz_iald S K Z hv dX12_shown_37 (fun v8 hv => ?_)
    refine lv_goto (tgt := 43) S.1 S.2.1 dX12_shown_38 (by decide) ?_
    replace hk := zz_fin hv hk
    obtain ⟨rfl, rfl⟩ := Prod.mk.inj (hR0 _ hk)
    exact zz_iret S Z hret hlk dX12_shown_43 (Nat.le_refl _) (Nat.le_refl _)
  have hv := hf
  unfold f_X12_shown at hv
  clear hf
  obtain ⟨x, hxx⟩ : ∃ x, x = (r, hx) := ⟨_, rfl⟩
  rw [← hxx] at hv hk
  have ⟨H, hH⟩ : ∃ H, H = s.heap := ⟨_, rfl⟩
  have ⟨locs, hlo⟩ : ∃ q : List Loc, q = [] := ⟨_, rfl⟩
  have Z : zz_B D dA A h n s.heap H locs := by rw [hH, hlo]; exact Z
  have key : zz_W p l e rm_X12_shown s m args below meth c D dA A (some (.int r)) hx n 0 0 H locs 0 0 0 ls [] := by
    clear hH hlo hxx
    refine lv_aload_n S.1 S.2.1 dX12_shown_0 rfl (lv_at hl 0 rfl) ?_
    refine lv_iconst (v := (0 : Int32)) S.1 S.2.1 dX12_shown_1 (by decide) ?_
    refine zz_put S K Z hv zc_10 (by decide) gf_X12_1 rfl rfl rfl dX12_shown_2 (fun h1 H locs hv Z => ?_)
    refine lv_iload_n S.1 S.2.1 dX12_shown_5 rfl (lv_at hl 1 rfl) ?_
    refine lv_i2l S.1 S.2.1 dX12_shown_6 rfl ?_
    refine lv_ldc2 (v := (-1 : Int64)) S.1 S.2.1 S.2.2.2.1 (S.2.2.2.2 _ gk_X12_153) dX12_shown_7 ?_
    refine lv_aload_n S.1 S.2.1 dX12_shown_10 rfl (lv_at hl 0 rfl) ?_
    refine zz_gI S K Z hv zc_10 (by decide) gf_X12_138 dX12_shown_11 (fun v2 hv => ?_)
    refine lv_iconst (v := (1 : Int32)) S.1 S.2.1 dX12_shown_14 (by decide) ?_
    refine lv_isub S.1 S.2.1 dX12_shown_15 ?_
    refine lv_i2l S.1 S.2.1 dX12_shown_16 rfl ?_
    obtain ⟨v3, hq, hv⟩ := zz_bd hv
    refine zz_S [.long (a1.toInt64), .long ((-1 : Int64)), .long ((v2 - (1 : Int32)).toInt64)] S K Z (c_X12_in (a1.toInt64) (-1 : Int64) ((v2 - (1 : Int32)).toInt64) hq) ⟨rfl, rfl⟩ gm_X12_in gs_X12_in gl_X12_105 ⟨by decide, by decide⟩ rfl hl.1 rfl (Nat.le_of_ble_eq_true rfl) dX12_shown_17 ⟨Nat.zero_le _, Nat.zero_le _⟩ (fun H locs Z => ?_)
    show W _ _ _ _ _ _ _ _ _ _ _ _ 0 0 _ (F0 m 20 ls [.int (v3)])
    refine lv_if_eq (tgt := 41) S.1 S.2.1 dX12_shown_20 (by decide) (fun hc => ?_) (fun hc => ?_)
    · replace hv := (if_pos hc).symm.trans hv
      refine lv_bipush (v := (-2 : Int32)) S.1 S.2.1 dX12_shown_41 (by decide) ?_
      replace hk := zz_fin hv hk
      obtain ⟨rfl, rfl⟩ := Prod.mk.inj (hR0 _ hk)
      exact zz_iret S Z hret hlk dX12_shown_43 (Nat.le_refl _) (Nat.le_refl _)
    · replace hv := (if_neg hc).symm.trans hv
      refine lv_aload_n S.1 S.2.1 dX12_shown_23 rfl (lv_at hl 0 rfl) ?_
      refine zz_gR S K Z hv zc_10 (by decide) gf_X12_59 dX12_shown_24 (fun v4 hv => ?_)
      refine lv_iload_n S.1 S.2.1 dX12_shown_27 rfl (lv_at hl 1 rfl) ?_
      refine lv_if_ge (tgt := 36) S.1 S.2.1 dX12_shown_28 (by decide) (fun hc => ?_) (fun hc => ?_)
      · replace hv := (if_pos hc).symm.trans hv
        refine lv_iload_n S.1 S.2.1 dX12_shown_36 rfl (lv_at hl 1 rfl) ?_
        exact J37 a1 v4 h1 _ hv hk H locs ls Z (lv_sub hl [] rfl)
      · replace hv := (if_neg hc).symm.trans hv
        refine lv_bipush (v := (24 : Int32)) S.1 S.2.1 dX12_shown_31 (by decide) ?_
        refine lv_goto (tgt := 37) S.1 S.2.1 dX12_shown_33 (by decide) ?_
        exact J37 (24 : Int32) v4 h1 _ hv hk H locs ls Z (lv_sub hl [] rfl)
  rw [hH, hlo] at key
  exact key

noncomputable def f_X12_never_L9 (h : ZH) (a0 : Nat) (a1 : Int32) (h4 : ZH) (x2_2 : Int32) (x3_3 : Int32)  : Option ((Int32 × Int32) ⊕ (Int32 × ZH)) :=
  (zg_I h4 a0 10 10).bind fun v5 => if v5 ≤ x3_3 then ((some (((-1 : Int32), h4))).map Sum.inr) else ((zg_R h4 a0 10 20).bind fun v6 => (zl_I h4 v6 1 x3_3).bind fun v7 => if v7 = 0 then (if x2_2 = a1 then ((some ((x3_3, h4))).map Sum.inr) else (some (.inl (x2_2 + (1 : Int32), x3_3 + (1 : Int32))))) else (some (.inl (x2_2, x3_3 + (1 : Int32)))))
noncomputable def f_X12_never (h : ZH) (a0 : Nat) (a1 : Int32) : Option (Int32 × ZH) :=
  (zp_V h a0 10 0 (.int ((0 : Int32)))).bind fun h1 => zz_loop (fun st : (Int32 × Int32) => f_X12_never_L9 h a0 a1 h1 (st.1) (st.2)) ((0 : Int32), (0 : Int32))
abbrev rm_X12_never : Room := { frames := 0, cells := 0, slots := 0, locals := 0 }
set_option maxRecDepth 100000 in
set_option maxHeartbeats 4000000 in
theorem c_X12_never {l : Launch} {D : va_G} {dA : Nat → ClassId} {A : Nat → Prop} {h : ZH} {n : Nat} (a0 : Nat) (a1 : Int32) {r : Int32} {hx : ZH} (hf : f_X12_never h a0 a1 = some (r, hx)) : Met l yX12_never (zz_ws yX12_never cX12_never 4 (some .int)) rm_X12_never (zz_P D dA A h n [.ref (a0), .int (a1)]) (zz_Q D dA A (some (.int r)) hx n) 0 0 A := by
  refine zz_met (by decide) (Nat.le_of_ble_eq_true rfl) ?_
  intro p e s m args below meth c ls S K hret hlk hnm hl Z
  replace hl : lv_has ls 4 [(0, .ref (a0)), (1, .int (a1))] := hl
  obtain ⟨K0, hR0, hk⟩ : ∃ K0 : (Int32 × ZH) → Prop, (∀ x, K0 x → x = (r, hx)) ∧ K0 (r, hx) := ⟨fun x => x = (r, hx), fun _ h => h, rfl⟩
  have L9 : ∀ (h4 : ZH) (st : (Int32 × Int32)) (x : (Int32 × ZH)), zz_loop (fun st : (Int32 × Int32) => f_X12_never_L9 h a0 a1 h4 (st.1) (st.2)) st = some x → K0 x → (fun st : (Int32 × Int32) => ∀ (H : Heap) (locs : List Loc) (ls : Array Slot), zz_B D dA A h4 n s.heap H locs → lv_has ls 4 [(0, .ref (a0)), (1, .int (a1)), (2, .int ((st.1))), (3, .int ((st.2)))] → zz_W p l e rm_X12_never s m args below meth c D dA A (some (.int r)) hx n 0 0 H locs 0 0 9 ls []) st := by
    intro h4
    refine zz_loop_go (K := K0) ?_
    intro K1 hP1 hR1
    rintro ⟨x2_2, x3_3⟩ x hv hk H locs ls Z hl
    replace hv : f_X12_never_L9 h a0 a1 h4 x2_2 x3_3 = some x := hv
    unfold f_X12_never_L9 at hv
    replace hl : lv_has ls 4 [(0, .ref (a0)), (1, .int (a1)), (2, .int (x2_2)), (3, .int (x3_3))] := hl
    replace Z : zz_B D dA A h4 n s.heap H locs := Z
    show zz_W p l e rm_X12_never s m args below meth c D dA A (some (.int r)) hx n 0 0 H locs 0 0 9 ls []
    refine lv_iload_n S.1 S.2.1 dX12_never_9 rfl (lv_at hl 3 rfl) ?_
    refine lv_aload_n S.1 S.2.1 dX12_never_10 rfl (lv_at hl 0 rfl) ?_
    refine zz_gI S K Z hv zc_10 (by decide) gf_X12_159 dX12_never_11 (fun v5 hv => ?_)
    refine lv_icmp_ge (tgt := 42) S.1 S.2.1 dX12_never_14 (by decide) (fun hc => ?_) (fun hc => ?_)
    · replace hv := (if_pos hc).symm.trans hv
      obtain ⟨_, hv, hk⟩ := zz_mapk hv hk
      replace hk := hR1 _ hk
      refine lv_iconst (v := (-1 : Int32)) S.1 S.2.1 dX12_never_42 (by decide) ?_
      replace hk := zz_fin hv hk
      obtain ⟨rfl, rfl⟩ := Prod.mk.inj (hR0 _ hk)
      exact zz_iret S Z hret hlk dX12_never_43 (Nat.le_refl _) (Nat.le_refl _)
    · replace hv := (if_neg hc).symm.trans hv
      refine lv_aload_n S.1 S.2.1 dX12_never_17 rfl (lv_at hl 0 rfl) ?_
      refine zz_gR S K Z hv zc_10 (by decide) gf_X12_56 dX12_never_18 (fun v6 hv => ?_)
      refine lv_iload_n S.1 S.2.1 dX12_never_21 rfl (lv_at hl 3 rfl) ?_
      refine zz_iald S K Z hv dX12_never_22 (fun v7 hv => ?_)
      refine lv_if_ne (tgt := 36) S.1 S.2.1 dX12_never_23 (by decide) (fun hc => ?_) (fun hc => ?_)
      · replace hv := (if_neg hc).symm.trans hv
        refine lv_iinc (v := x3_3 + (1 : Int32)) (lv' := [(3, .int (x3_3 + (1 : Int32))), (0, .ref (a0)), (1, .int (a1)), (2, .int (x2_2))]) S.1 S.2.1 dX12_never_36 hl (k := 3) rfl rfl (by decide) rfl (fun ls hl => ?_)
        refine lv_goto (tgt := 9) S.1 S.2.1 dX12_never_39 (by decide) ?_
        replace hk := zz_fin hv hk
        exact hP1 _ hk H locs ls Z (lv_sub hl [1, 2, 3, 0] rfl)
      · replace hv := (if_pos hc).symm.trans hv
        refine lv_iload_n S.1 S.2.1 dX12_never_26 rfl (lv_at hl 2 rfl) ?_
        refine lv_iload_n S.1 S.2.1 dX12_never_27 rfl (lv_at hl 1 rfl) ?_
        refine lv_icmp_ne (tgt := 33) S.1 S.2.1 dX12_never_28 (by decide) (fun hc => ?_) (fun hc => ?_)
        · replace hv := (if_neg hc).symm.trans hv
          refine lv_iinc (v := x2_2 + (1 : Int32)) (lv' := [(2, .int (x2_2 + (1 : Int32))), (0, .ref (a0)), (1, .int (a1)), (3, .int (x3_3))]) S.1 S.2.1 dX12_never_33 hl (k := 2) rfl rfl (by decide) rfl (fun ls hl => ?_)
          refine lv_iinc (v := x3_3 + (1 : Int32)) (lv' := [(3, .int (x3_3 + (1 : Int32))), (2, .int (x2_2 + (1 : Int32))), (0, .ref (a0)), (1, .int (a1))]) S.1 S.2.1 dX12_never_36 hl (k := 3) rfl rfl (by decide) rfl (fun ls hl => ?_)
          refine lv_goto (tgt := 9) S.1 S.2.1 dX12_never_39 (by decide) ?_
          replace hk := zz_fin hv hk
          exact hP1 _ hk H locs ls Z (lv_sub hl [2, 3, 1, 0] rfl)
        · replace hv := (if_pos hc).symm.trans hv
          obtain ⟨_, hv, hk⟩ := zz_mapk hv hk
          replace hk := hR1 _ hk
          refine lv_iload_n S.1 S.2.1 dX12_never_31 rfl (lv_at hl 3 rfl) ?_
          replace hk := zz_fin hv hk
          obtain ⟨rfl, rfl⟩ := Prod.mk.inj (hR0 _ hk)
          exact zz_iret S Z hret hlk dX12_never_32 (Nat.le_refl _) (Nat.le_refl _)
  have hv := hf
  unfold f_X12_never at hv
  clear hf
  obtain ⟨x, hxx⟩ : ∃ x, x = (r, hx) := ⟨_, rfl⟩
  rw [← hxx] at hv hk
  have ⟨H, hH⟩ : ∃ H, H = s.heap := ⟨_, rfl⟩
  have ⟨locs, hlo⟩ : ∃ q : List Loc, q = [] := ⟨_, rfl⟩
  have Z : zz_B D dA A h n s.heap H locs := by rw [hH, hlo]; exact Z
  have key : zz_W p l e rm_X12_never s m args below meth c D dA A (some (.int r)) hx n 0 0 H locs 0 0 0 ls [] := by
    clear hH hlo hxx
    refine lv_aload_n S.1 S.2.1 dX12_never_0 rfl (lv_at hl 0 rfl) ?_
    refine lv_iconst (v := (0 : Int32)) S.1 S.2.1 dX12_never_1 (by decide) ?_
    refine zz_put S K Z hv zc_10 (by decide) gf_X12_1 rfl rfl rfl dX12_never_2 (fun h1 H locs hv Z => ?_)
    refine lv_iconst (v := (0 : Int32)) S.1 S.2.1 dX12_never_5 (by decide) ?_
    refine lv_istore_n (lv' := [(2, .int ((0 : Int32))), (0, .ref (a0)), (1, .int (a1))]) S.1 S.2.1 dX12_never_6 rfl hl (by decide) rfl (fun ls hl => ?_)
    refine lv_iconst (v := (0 : Int32)) S.1 S.2.1 dX12_never_7 (by decide) ?_
    refine lv_istore_n (lv' := [(3, .int ((0 : Int32))), (2, .int ((0 : Int32))), (0, .ref (a0)), (1, .int (a1))]) S.1 S.2.1 dX12_never_8 rfl hl (by decide) rfl (fun ls hl => ?_)
    exact L9 h1 ((0 : Int32), (0 : Int32)) _ hv hk H locs ls Z (lv_sub hl [2, 3, 1, 0] rfl)
  rw [hH, hlo] at key
  exact key

noncomputable def f_X12_share_J56 (h : ZH) (a0 : Nat) (x1_6 : Int32) (x2_7 : Int32) (s8 : Int32) (s9 : Nat) (h10 : ZH) : Option (Int32 × ZH) :=
  (zp_V h10 s9 10 0 (.int (s8))).bind fun h11 => if x2_7 = 0 then (some (((0 : Int32), h11))) else (zz_ne x2_7 <| some ((x1_6 / x2_7, h11)))
noncomputable def f_X12_share_J38 (h : ZH) (a0 : Nat) (x1_17 : Int32) (x3_18 : Int32) (s19 : Int32) (s20 : Int32) (h4 : ZH) : Option ((Int32 × Int32 × Int32) ⊕ (Int32 × ZH)) :=
  zz_let (s20 + s19) fun v21 => some (.inl (x1_17, v21, x3_18 + (1 : Int32)))
noncomputable def f_X12_share_L6 (h : ZH) (a0 : Nat) (h4 : ZH) (x1_1 : Int32) (x2_2 : Int32) (x3_3 : Int32)  : Option ((Int32 × Int32 × Int32) ⊕ (Int32 × ZH)) :=
  (zg_I h4 a0 10 10).bind fun v5 => if v5 ≤ x3_3 then ((if x2_2 = 0 then (f_X12_share_J56 h a0 x1_1 x2_2 (1 : Int32) a0 h4) else (f_X12_share_J56 h a0 x1_1 x2_2 (0 : Int32) a0 h4)).map Sum.inr) else ((zg_R h4 a0 10 20).bind fun v12 => (zl_I h4 v12 1 x3_3).bind fun v13 => zz_let (x1_1 + v13) fun v14 => (zg_R h4 a0 10 20).bind fun v15 => (zl_I h4 v15 1 x3_3).bind fun v16 => if v16 ≤ 0 then (f_X12_share_J38 h a0 v14 x3_3 (0 : Int32) x2_2 h4) else (f_X12_share_J38 h a0 v14 x3_3 (1 : Int32) x2_2 h4))
noncomputable def f_X12_share (h : ZH) (a0 : Nat) : Option (Int32 × ZH) :=
  zz_loop (fun st : (Int32 × Int32 × Int32) => f_X12_share_L6 h a0 h (st.1) (st.2.1) (st.2.2)) ((0 : Int32), (0 : Int32), (0 : Int32))
abbrev rm_X12_share : Room := { frames := 0, cells := 0, slots := 0, locals := 0 }
set_option maxRecDepth 100000 in
set_option maxHeartbeats 4000000 in
theorem c_X12_share {l : Launch} {D : va_G} {dA : Nat → ClassId} {A : Nat → Prop} {h : ZH} {n : Nat} (a0 : Nat) {r : Int32} {hx : ZH} (hf : f_X12_share h a0 = some (r, hx)) : Met l yX12_share (zz_ws yX12_share cX12_share 4 (some .int)) rm_X12_share (zz_P D dA A h n [.ref (a0)]) (zz_Q D dA A (some (.int r)) hx n) 0 0 A := by
  refine zz_met (by decide) (Nat.le_of_ble_eq_true rfl) ?_
  intro p e s m args below meth c ls S K hret hlk hnm hl Z
  replace hl : lv_has ls 4 [(0, .ref (a0))] := hl
  obtain ⟨K0, hR0, hk⟩ : ∃ K0 : (Int32 × ZH) → Prop, (∀ x, K0 x → x = (r, hx)) ∧ K0 (r, hx) := ⟨fun x => x = (r, hx), fun _ h => h, rfl⟩
  have J56 : ∀ (x1_6 : Int32) (x2_7 : Int32) (s8 : Int32) (s9 : Nat) (h10 : ZH) (x : (Int32 × ZH)), f_X12_share_J56 h a0 x1_6 x2_7 s8 s9 h10 = some x → K0 x → ∀ (H : Heap) (locs : List Loc) (ls : Array Slot), zz_B D dA A h10 n s.heap H locs → lv_has ls 4 [(1, .int (x1_6)), (2, .int (x2_7))] → zz_W p l e rm_X12_share s m args below meth c D dA A (some (.int r)) hx n 0 0 H locs 0 0 56 ls [.int (s8), .ref (s9)] := by
    intro x1_6 x2_7 s8 s9 h10 x hv hk H locs ls Z hl
    unfold f_X12_share_J56 at hv
    refine zz_put S K Z hv zc_10 (by decide) gf_X12_1 rfl rfl rfl dX12_share_56 (fun h11 H locs hv Z => ?_)
    refine lv_iload_n S.1 S.2.1 dX12_share_59 rfl (lv_at hl 1 rfl) ?_
    refine lv_if_ne (tgt := 67) S.1 S.2.1 dX12_share_60 (by decide) (fun hc => ?_) (fun hc => ?_)
    · replace hv := (if_neg hc).symm.trans hv
      refine lv_iload_n S.1 S.2.1 dX12_share_67 rfl (lv_at hl 0 rfl) ?_
      refine lv_iload_n S.1 S.2.1 dX12_share_68 rfl (lv_at hl 1 rfl) ?_
      obtain ⟨hne, hv⟩ := zz_ne_s hv
      refine lv_idiv S.1 S.2.1 dX12_share_69 hne ?_
      replace hk := zz_fin hv hk
      obtain ⟨rfl, rfl⟩ := Prod.mk.inj (hR0 _ hk)
      exact zz_iret S Z hret hlk dX12_share_70 (Nat.le_refl _) (Nat.le_refl _)
    · replace hv := (if_pos hc).symm.trans hv
      refine lv_iconst (v := (0 : Int32)) S.1 S.2.1 dX12_share_63 (by decide) ?_
      refine lv_goto (tgt := 70) S.1 S.2.1 dX12_share_64 (by decide) ?_
      replace hk := zz_fin hv hk
      obtain ⟨rfl, rfl⟩ := Prod.mk.inj (hR0 _ hk)
      exact zz_iret S Z hret hlk dX12_share_70 (Nat.le_refl _) (Nat.le_refl _)
  have L6 : ∀ (h4 : ZH) (st : (Int32 × Int32 × Int32)) (x : (Int32 × ZH)), zz_loop (fun st : (Int32 × Int32 × Int32) => f_X12_share_L6 h a0 h4 (st.1) (st.2.1) (st.2.2)) st = some x → K0 x → (fun st : (Int32 × Int32 × Int32) => ∀ (H : Heap) (locs : List Loc) (ls : Array Slot), zz_B D dA A h4 n s.heap H locs → lv_has ls 4 [(0, .ref (a0)), (1, .int ((st.1))), (2, .int ((st.2.1))), (3, .int ((st.2.2)))] → zz_W p l e rm_X12_share s m args below meth c D dA A (some (.int r)) hx n 0 0 H locs 0 0 6 ls []) st := by
    intro h4
    refine zz_loop_go (K := K0) ?_
    intro K1 hP1 hR1
    have J38 : ∀ (x1_17 : Int32) (x3_18 : Int32) (s19 : Int32) (s20 : Int32) (x : ((Int32 × Int32 × Int32) ⊕ (Int32 × ZH))), f_X12_share_J38 h a0 x1_17 x3_18 s19 s20 h4 = some x → K1 x → ∀ (H : Heap) (locs : List Loc) (ls : Array Slot), zz_B D dA A h4 n s.heap H locs → lv_has ls 4 [(0, .ref (a0)), (1, .int (x1_17)), (3, .int (x3_18))] → zz_W p l e rm_X12_share s m args below meth c D dA A (some (.int r)) hx n 0 0 H locs 0 0 38 ls [.int (s19), .int (s20)] := by
      intro x1_17 x3_18 s19 s20 x hv hk H locs ls Z hl
      unfold f_X12_share_J38 at hv
      refine lv_iadd S.1 S.2.1 dX12_share_38 ?_
      refine zz_lt hv (G := fun w => W _ _ _ _ _ _ _ _ _ _ _ _ _ _ _ (F0 _ _ _ (.int w :: _))) (fun v21 hv => ?_)
      refine lv_istore_n (lv' := [(2, .int (v21)), (0, .ref (a0)), (1, .int (x1_17)), (3, .int (x3_18))]) S.1 S.2.1 dX12_share_39 rfl hl (by decide) rfl (fun ls hl => ?_)
      refine lv_iinc (v := x3_18 + (1 : Int32)) (lv' := [(3, .int (x3_18 + (1 : Int32))), (2, .int (v21)), (0, .ref (a0)), (1, .int (x1_17))]) S.1 S.2.1 dX12_share_40 hl (k := 3) rfl rfl (by decide) rfl (fun ls hl => ?_)
      refine lv_goto (tgt := 6) S.1 S.2.1 dX12_share_43 (by decide) ?_
      replace hk := zz_fin hv hk
      exact hP1 _ hk H locs ls Z (lv_sub hl [2, 3, 1, 0] rfl)
    rintro ⟨x1_1, x2_2, x3_3⟩ x hv hk H locs ls Z hl
    replace hv : f_X12_share_L6 h a0 h4 x1_1 x2_2 x3_3 = some x := hv
    unfold f_X12_share_L6 at hv
    replace hl : lv_has ls 4 [(0, .ref (a0)), (1, .int (x1_1)), (2, .int (x2_2)), (3, .int (x3_3))] := hl
    replace Z : zz_B D dA A h4 n s.heap H locs := Z
    show zz_W p l e rm_X12_share s m args below meth c D dA A (some (.int r)) hx n 0 0 H locs 0 0 6 ls []
    refine lv_iload_n S.1 S.2.1 dX12_share_6 rfl (lv_at hl 3 rfl) ?_
    refine lv_aload_n S.1 S.2.1 dX12_share_7 rfl (lv_at hl 0 rfl) ?_
    refine zz_gI S K Z hv zc_10 (by decide) gf_X12_159 dX12_share_8 (fun v5 hv => ?_)
    refine lv_icmp_ge (tgt := 46) S.1 S.2.1 dX12_share_11 (by decide) (fun hc => ?_) (fun hc => ?_)
    · replace hv := (if_pos hc).symm.trans hv
      obtain ⟨_, hv, hk⟩ := zz_mapk hv hk
      replace hk := hR1 _ hk
      refine lv_aload_n S.1 S.2.1 dX12_share_46 rfl (lv_at hl 0 rfl) ?_
      refine lv_iload_n S.1 S.2.1 dX12_share_47 rfl (lv_at hl 2 rfl) ?_
      refine lv_if_ne (tgt := 55) S.1 S.2.1 dX12_share_48 (by decide) (fun hc => ?_) (fun hc => ?_)
      · replace hv := (if_neg hc).symm.trans hv
        refine lv_iconst (v := (0 : Int32)) S.1 S.2.1 dX12_share_55 (by decide) ?_
        exact J56 x1_1 x2_2 (0 : Int32) a0 h4 _ hv hk H locs ls Z (lv_sub hl [1, 2] rfl)
      · replace hv := (if_pos hc).symm.trans hv
        refine lv_iconst (v := (1 : Int32)) S.1 S.2.1 dX12_share_51 (by decide) ?_
        refine lv_goto (tgt := 56) S.1 S.2.1 dX12_share_52 (by decide) ?_
        exact J56 x1_1 x2_2 (1 : Int32) a0 h4 _ hv hk H locs ls Z (lv_sub hl [1, 2] rfl)
    · replace hv := (if_neg hc).symm.trans hv
      refine lv_iload_n S.1 S.2.1 dX12_share_14 rfl (lv_at hl 1 rfl) ?_
      refine lv_aload_n S.1 S.2.1 dX12_share_15 rfl (lv_at hl 0 rfl) ?_
      refine zz_gR S K Z hv zc_10 (by decide) gf_X12_56 dX12_share_16 (fun v12 hv => ?_)
      refine lv_iload_n S.1 S.2.1 dX12_share_19 rfl (lv_at hl 3 rfl) ?_
      refine zz_iald S K Z hv dX12_share_20 (fun v13 hv => ?_)
      refine lv_iadd S.1 S.2.1 dX12_share_21 ?_
      refine zz_lt hv (G := fun w => W _ _ _ _ _ _ _ _ _ _ _ _ _ _ _ (F0 _ _ _ (.int w :: _))) (fun v14 hv => ?_)
      refine lv_istore_n (lv' := [(1, .int (v14)), (0, .ref (a0)), (2, .int (x2_2)), (3, .int (x3_3))]) S.1 S.2.1 dX12_share_22 rfl hl (by decide) rfl (fun ls hl => ?_)
      refine lv_iload_n S.1 S.2.1 dX12_share_23 rfl (lv_at hl 2 rfl) ?_
      refine lv_aload_n S.1 S.2.1 dX12_share_24 rfl (lv_at hl 1 rfl) ?_
      refine zz_gR S K Z hv zc_10 (by decide) gf_X12_56 dX12_share_25 (fun v15 hv => ?_)
      refine lv_iload_n S.1 S.2.1 dX12_share_28 rfl (lv_at hl 3 rfl) ?_
      refine zz_iald S K Z hv dX12_share_29 (fun v16 hv => ?_)
      refine lv_if_le (tgt := 37) S.1 S.2.1 dX12_share_30 (by decide) (fun hc => ?_) (fun hc => ?_)
      · replace hv := (if_pos hc).symm.trans hv
        refine lv_iconst (v := (0 : Int32)) S.1 S.2.1 dX12_share_37 (by decide) ?_
        exact J38 v14 x3_3 (0 : Int32) x2_2 _ hv hk H locs ls Z (lv_sub hl [1, 0, 3] rfl)
      · replace hv := (if_neg hc).symm.trans hv
        refine lv_iconst (v := (1 : Int32)) S.1 S.2.1 dX12_share_33 (by decide) ?_
        refine lv_goto (tgt := 38) S.1 S.2.1 dX12_share_34 (by decide) ?_
        exact J38 v14 x3_3 (1 : Int32) x2_2 _ hv hk H locs ls Z (lv_sub hl [1, 0, 3] rfl)
  have hv := hf
  unfold f_X12_share at hv
  clear hf
  obtain ⟨x, hxx⟩ : ∃ x, x = (r, hx) := ⟨_, rfl⟩
  rw [← hxx] at hv hk
  have ⟨H, hH⟩ : ∃ H, H = s.heap := ⟨_, rfl⟩
  have ⟨locs, hlo⟩ : ∃ q : List Loc, q = [] := ⟨_, rfl⟩
  have Z : zz_B D dA A h n s.heap H locs := by rw [hH, hlo]; exact Z
  have key : zz_W p l e rm_X12_share s m args below meth c D dA A (some (.int r)) hx n 0 0 H locs 0 0 0 ls [] := by
    clear hH hlo hxx
    refine lv_iconst (v := (0 : Int32)) S.1 S.2.1 dX12_share_0 (by decide) ?_
    refine lv_istore_n (lv' := [(1, .int ((0 : Int32))), (0, .ref (a0))]) S.1 S.2.1 dX12_share_1 rfl hl (by decide) rfl (fun ls hl => ?_)
    refine lv_iconst (v := (0 : Int32)) S.1 S.2.1 dX12_share_2 (by decide) ?_
    refine lv_istore_n (lv' := [(2, .int ((0 : Int32))), (1, .int ((0 : Int32))), (0, .ref (a0))]) S.1 S.2.1 dX12_share_3 rfl hl (by decide) rfl (fun ls hl => ?_)
    refine lv_iconst (v := (0 : Int32)) S.1 S.2.1 dX12_share_4 (by decide) ?_
    refine lv_istore_n (lv' := [(3, .int ((0 : Int32))), (2, .int ((0 : Int32))), (1, .int ((0 : Int32))), (0, .ref (a0))]) S.1 S.2.1 dX12_share_5 rfl hl (by decide) rfl (fun ls hl => ?_)
    exact L6 h ((0 : Int32), (0 : Int32), (0 : Int32)) _ hv hk H locs ls Z (lv_sub hl [3, 2, 1, 0] rfl)
  rw [hH, hlo] at key
  exact key

noncomputable def f_X12_told (h : ZH) (a0 : Nat) (a1 : Int32) : Option (Int32 × ZH) :=
  (zp_V h a0 10 0 (.int ((0 : Int32)))).bind fun h1 => if a1 = (0 : Int32) then ((zg_I h1 a0 10 2).bind fun v2 => some ((v2, h1))) else (if a1 = (1 : Int32) then ((zg_I h1 a0 10 4).bind fun v3 => some ((v3, h1))) else (if a1 = (2 : Int32) then ((zg_I h1 a0 10 7).bind fun v4 => some ((v4, h1))) else (if a1 = (3 : Int32) then ((zg_I h1 a0 10 10).bind fun v5 => some ((v5, h1))) else (if a1 = (4 : Int32) then ((zg_I h1 a0 10 30).bind fun v6 => some ((v6, h1))) else (if a1 = (5 : Int32) then ((zg_I h1 a0 10 35).bind fun v7 => some ((v7, h1))) else (if a1 = (6 : Int32) then ((zg_I h1 a0 10 25).bind fun v8 => some ((v8, h1))) else (if a1 = (7 : Int32) then ((zg_I h1 a0 10 26).bind fun v9 => some ((v9, h1))) else (some (((-3 : Int32), h1))))))))))
abbrev rm_X12_told : Room := { frames := 0, cells := 0, slots := 0, locals := 0 }
set_option maxRecDepth 100000 in
set_option maxHeartbeats 4000000 in
theorem c_X12_told {l : Launch} {D : va_G} {dA : Nat → ClassId} {A : Nat → Prop} {h : ZH} {n : Nat} (a0 : Nat) (a1 : Int32) {r : Int32} {hx : ZH} (hf : f_X12_told h a0 a1 = some (r, hx)) : Met l yX12_told (zz_ws yX12_told cX12_told 2 (some .int)) rm_X12_told (zz_P D dA A h n [.ref (a0), .int (a1)]) (zz_Q D dA A (some (.int r)) hx n) 0 0 A := by
  refine zz_met (by decide) (Nat.le_of_ble_eq_true rfl) ?_
  intro p e s m args below meth c ls S K hret hlk hnm hl Z
  replace hl : lv_has ls 2 [(0, .ref (a0)), (1, .int (a1))] := hl
  obtain ⟨K0, hR0, hk⟩ : ∃ K0 : (Int32 × ZH) → Prop, (∀ x, K0 x → x = (r, hx)) ∧ K0 (r, hx) := ⟨fun x => x = (r, hx), fun _ h => h, rfl⟩
  have hv := hf
  unfold f_X12_told at hv
  clear hf
  obtain ⟨x, hxx⟩ : ∃ x, x = (r, hx) := ⟨_, rfl⟩
  rw [← hxx] at hv hk
  have ⟨H, hH⟩ : ∃ H, H = s.heap := ⟨_, rfl⟩
  have ⟨locs, hlo⟩ : ∃ q : List Loc, q = [] := ⟨_, rfl⟩
  have Z : zz_B D dA A h n s.heap H locs := by rw [hH, hlo]; exact Z
  have key : zz_W p l e rm_X12_told s m args below meth c D dA A (some (.int r)) hx n 0 0 H locs 0 0 0 ls [] := by
    clear hH hlo hxx
    refine lv_aload_n S.1 S.2.1 dX12_told_0 rfl (lv_at hl 0 rfl) ?_
    refine lv_iconst (v := (0 : Int32)) S.1 S.2.1 dX12_told_1 (by decide) ?_
    refine zz_put S K Z hv zc_10 (by decide) gf_X12_1 rfl rfl rfl dX12_told_2 (fun h1 H locs hv Z => ?_)
    refine lv_iload_n S.1 S.2.1 dX12_told_5 rfl (lv_at hl 1 rfl) ?_
    by_cases hc0 : a1 = (0 : Int32)
    · replace hv := (if_pos hc0).symm.trans hv
      refine lv_tableIn (tgt := 52) S.1 S.2.1 dX12_told_6 (by rw [hc0]; decide) (by rw [hc0]; decide) (by rw [hc0]; rfl) (by decide) ?_
      refine lv_aload_n S.1 S.2.1 dX12_told_52 rfl (lv_at hl 0 rfl) ?_
      refine zz_gI S K Z hv zc_10 (by decide) gf_X12_109 dX12_told_53 (fun v2 hv => ?_)
      replace hk := zz_fin hv hk
      obtain ⟨rfl, rfl⟩ := Prod.mk.inj (hR0 _ hk)
      exact zz_iret S Z hret hlk dX12_told_56 (Nat.le_refl _) (Nat.le_refl _)
    · replace hv := (if_neg hc0).symm.trans hv
      by_cases hc1 : a1 = (1 : Int32)
      · replace hv := (if_pos hc1).symm.trans hv
        refine lv_tableIn (tgt := 57) S.1 S.2.1 dX12_told_6 (by rw [hc1]; decide) (by rw [hc1]; decide) (by rw [hc1]; rfl) (by decide) ?_
        refine lv_aload_n S.1 S.2.1 dX12_told_57 rfl (lv_at hl 0 rfl) ?_
        refine zz_gI S K Z hv zc_10 (by decide) gf_X12_122 dX12_told_58 (fun v3 hv => ?_)
        replace hk := zz_fin hv hk
        obtain ⟨rfl, rfl⟩ := Prod.mk.inj (hR0 _ hk)
        exact zz_iret S Z hret hlk dX12_told_61 (Nat.le_refl _) (Nat.le_refl _)
      · replace hv := (if_neg hc1).symm.trans hv
        by_cases hc2 : a1 = (2 : Int32)
        · replace hv := (if_pos hc2).symm.trans hv
          refine lv_tableIn (tgt := 62) S.1 S.2.1 dX12_told_6 (by rw [hc2]; decide) (by rw [hc2]; decide) (by rw [hc2]; rfl) (by decide) ?_
          refine lv_aload_n S.1 S.2.1 dX12_told_62 rfl (lv_at hl 0 rfl) ?_
          refine zz_gI S K Z hv zc_10 (by decide) gf_X12_138 dX12_told_63 (fun v4 hv => ?_)
          replace hk := zz_fin hv hk
          obtain ⟨rfl, rfl⟩ := Prod.mk.inj (hR0 _ hk)
          exact zz_iret S Z hret hlk dX12_told_66 (Nat.le_refl _) (Nat.le_refl _)
        · replace hv := (if_neg hc2).symm.trans hv
          by_cases hc3 : a1 = (3 : Int32)
          · replace hv := (if_pos hc3).symm.trans hv
            refine lv_tableIn (tgt := 67) S.1 S.2.1 dX12_told_6 (by rw [hc3]; decide) (by rw [hc3]; decide) (by rw [hc3]; rfl) (by decide) ?_
            refine lv_aload_n S.1 S.2.1 dX12_told_67 rfl (lv_at hl 0 rfl) ?_
            refine zz_gI S K Z hv zc_10 (by decide) gf_X12_159 dX12_told_68 (fun v5 hv => ?_)
            replace hk := zz_fin hv hk
            obtain ⟨rfl, rfl⟩ := Prod.mk.inj (hR0 _ hk)
            exact zz_iret S Z hret hlk dX12_told_71 (Nat.le_refl _) (Nat.le_refl _)
          · replace hv := (if_neg hc3).symm.trans hv
            by_cases hc4 : a1 = (4 : Int32)
            · replace hv := (if_pos hc4).symm.trans hv
              refine lv_tableIn (tgt := 72) S.1 S.2.1 dX12_told_6 (by rw [hc4]; decide) (by rw [hc4]; decide) (by rw [hc4]; rfl) (by decide) ?_
              refine lv_aload_n S.1 S.2.1 dX12_told_72 rfl (lv_at hl 0 rfl) ?_
              refine zz_gI S K Z hv zc_10 (by decide) gf_X12_210 dX12_told_73 (fun v6 hv => ?_)
              replace hk := zz_fin hv hk
              obtain ⟨rfl, rfl⟩ := Prod.mk.inj (hR0 _ hk)
              exact zz_iret S Z hret hlk dX12_told_76 (Nat.le_refl _) (Nat.le_refl _)
            · replace hv := (if_neg hc4).symm.trans hv
              by_cases hc5 : a1 = (5 : Int32)
              · replace hv := (if_pos hc5).symm.trans hv
                refine lv_tableIn (tgt := 77) S.1 S.2.1 dX12_told_6 (by rw [hc5]; decide) (by rw [hc5]; decide) (by rw [hc5]; rfl) (by decide) ?_
                refine lv_aload_n S.1 S.2.1 dX12_told_77 rfl (lv_at hl 0 rfl) ?_
                refine zz_gI S K Z hv zc_10 (by decide) gf_X12_237 dX12_told_78 (fun v7 hv => ?_)
                replace hk := zz_fin hv hk
                obtain ⟨rfl, rfl⟩ := Prod.mk.inj (hR0 _ hk)
                exact zz_iret S Z hret hlk dX12_told_81 (Nat.le_refl _) (Nat.le_refl _)
              · replace hv := (if_neg hc5).symm.trans hv
                by_cases hc6 : a1 = (6 : Int32)
                · replace hv := (if_pos hc6).symm.trans hv
                  refine lv_tableIn (tgt := 82) S.1 S.2.1 dX12_told_6 (by rw [hc6]; decide) (by rw [hc6]; decide) (by rw [hc6]; rfl) (by decide) ?_
                  refine lv_aload_n S.1 S.2.1 dX12_told_82 rfl (lv_at hl 0 rfl) ?_
                  refine zz_gI S K Z hv zc_10 (by decide) gf_X12_181 dX12_told_83 (fun v8 hv => ?_)
                  replace hk := zz_fin hv hk
                  obtain ⟨rfl, rfl⟩ := Prod.mk.inj (hR0 _ hk)
                  exact zz_iret S Z hret hlk dX12_told_86 (Nat.le_refl _) (Nat.le_refl _)
                · replace hv := (if_neg hc6).symm.trans hv
                  by_cases hc7 : a1 = (7 : Int32)
                  · replace hv := (if_pos hc7).symm.trans hv
                    refine lv_tableIn (tgt := 87) S.1 S.2.1 dX12_told_6 (by rw [hc7]; decide) (by rw [hc7]; decide) (by rw [hc7]; rfl) (by decide) ?_
                    refine lv_aload_n S.1 S.2.1 dX12_told_87 rfl (lv_at hl 0 rfl) ?_
                    refine zz_gI S K Z hv zc_10 (by decide) gf_X12_171 dX12_told_88 (fun v9 hv => ?_)
                    replace hk := zz_fin hv hk
                    obtain ⟨rfl, rfl⟩ := Prod.mk.inj (hR0 _ hk)
                    exact zz_iret S Z hret hlk dX12_told_91 (Nat.le_refl _) (Nat.le_refl _)
                  · replace hv := (if_neg hc7).symm.trans hv
                    refine lv_tableOut (tgt := 92) S.1 S.2.1 dX12_told_6 (zz_sw_out (fun k h1 h2 => by
                      have h3 : k = 0 ∨ k = 1 ∨ k = 2 ∨ k = 3 ∨ k = 4 ∨ k = 5 ∨ k = 6 ∨ k = 7 := by omega
                      rcases h3 with rfl | rfl | rfl | rfl | rfl | rfl | rfl | rfl
                      · exact hc0
                      · exact hc1
                      · exact hc2
                      · exact hc3
                      · exact hc4
                      · exact hc5
                      · exact hc6
                      · exact hc7)) (by decide) ?_
                    refine lv_bipush (v := (-3 : Int32)) S.1 S.2.1 dX12_told_92 (by decide) ?_
                    replace hk := zz_fin hv hk
                    obtain ⟨rfl, rfl⟩ := Prod.mk.inj (hR0 _ hk)
                    exact zz_iret S Z hret hlk dX12_told_94 (Nat.le_refl _) (Nat.le_refl _)
  rw [hH, hlo] at key
  exact key

noncomputable def f_L_cell (h : ZH) (a0 : Nat) (a1 : Int32) : Option (Int32) :=
  (zl_N h a0 1).bind fun v1 => if v1 ≤ a1 then (some ((0 : Int32))) else ((zl_I h a0 1 a1).bind fun v2 => some (v2))
abbrev rm_L_cell : Room := { frames := 0, cells := 0, slots := 0, locals := 0 }
set_option maxRecDepth 100000 in
set_option maxHeartbeats 4000000 in
theorem c_L_cell {l : Launch} {D : va_G} {dA : Nat → ClassId} {A : Nat → Prop} {h : ZH} {n : Nat} (a0 : Nat) (a1 : Int32) {r : Int32} (hf : f_L_cell h a0 a1 = some r) : Met l yL_cell (zz_ws yL_cell cL_cell 2 (some .int)) rm_L_cell (zz_P D dA A h n [.ref (a0), .int (a1)]) (zz_Q D dA A (some (.int r)) h n) 0 0 A := by
  refine zz_met (by decide) (Nat.le_of_ble_eq_true rfl) ?_
  intro p e s m args below meth c ls S K hret hlk hnm hl Z
  replace hl : lv_has ls 2 [(0, .ref (a0)), (1, .int (a1))] := hl
  obtain ⟨K0, hR0, hk⟩ : ∃ K0 : (Int32) → Prop, (∀ x, K0 x → x = r) ∧ K0 r := ⟨fun x => x = r, fun _ h => h, rfl⟩
  have hv := hf
  unfold f_L_cell at hv
  clear hf
  obtain ⟨x, hxx⟩ : ∃ x, x = r := ⟨_, rfl⟩
  rw [← hxx] at hv hk
  have ⟨H, hH⟩ : ∃ H, H = s.heap := ⟨_, rfl⟩
  have ⟨locs, hlo⟩ : ∃ q : List Loc, q = [] := ⟨_, rfl⟩
  have Z : zz_B D dA A h n s.heap H locs := by rw [hH, hlo]; exact Z
  have key : zz_W p l e rm_L_cell s m args below meth c D dA A (some (.int r)) h n 0 0 H locs 0 0 0 ls [] := by
    clear hH hlo hxx
    refine lv_iload_n S.1 S.2.1 dL_cell_0 rfl (lv_at hl 1 rfl) ?_
    refine lv_aload_n S.1 S.2.1 dL_cell_1 rfl (lv_at hl 0 rfl) ?_
    refine zz_alen S K Z hv rfl dL_cell_2 (fun v1 hv => ?_)
    refine lv_icmp_ge (tgt := 12) S.1 S.2.1 dL_cell_3 (by decide) (fun hc => ?_) (fun hc => ?_)
    · replace hv := (if_pos hc).symm.trans hv
      refine lv_iconst (v := (0 : Int32)) S.1 S.2.1 dL_cell_12 (by decide) ?_
      replace hk := zz_fin hv hk
      obtain rfl := hR0 _ hk
      exact zz_iret S Z hret hlk dL_cell_13 (Nat.le_refl _) (Nat.le_refl _)
    · replace hv := (if_neg hc).symm.trans hv
      refine lv_aload_n S.1 S.2.1 dL_cell_6 rfl (lv_at hl 0 rfl) ?_
      refine lv_iload_n S.1 S.2.1 dL_cell_7 rfl (lv_at hl 1 rfl) ?_
      refine zz_iald S K Z hv dL_cell_8 (fun v2 hv => ?_)
      refine lv_goto (tgt := 13) S.1 S.2.1 dL_cell_9 (by decide) ?_
      replace hk := zz_fin hv hk
      obtain rfl := hR0 _ hk
      exact zz_iret S Z hret hlk dL_cell_13 (Nat.le_refl _) (Nat.le_refl _)
  rw [hH, hlo] at key
  exact key
