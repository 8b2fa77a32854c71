noncomputable def f_X9_ruleBroken (h : ZH) (a0 : Nat) (a1 : Nat) (a2 : Int32) : Option (Int32) :=
  if a2 = 0 then ((zg_R h a0 7 0).bind fun v1 => (zg_I h a1 3 4).bind fun v2 => zz_isO h v1 8 <| (f_X10_textLength h v1 v2).bind fun v3 => if v3 = 0 then (some ((2 : Int32))) else (zz_isO h a1 3 <| (f_X4_hasFlagBelowZero h a1).bind fun v4 => if v4 = 0 then (some ((0 : Int32))) else (some ((3 : Int32))))) else (some ((1 : Int32)))
abbrev rm_X9_ruleBroken : Room := { frames := 2, cells := 0, slots := 0, locals := 42 }
set_option maxRecDepth 100000 in
set_option maxHeartbeats 4000000 in
theorem c_X9_ruleBroken {l : Launch} {D : va_G} {dA : Nat → ClassId} {A : Nat → Prop} {h : ZH} {n : Nat} (a0 : Nat) (a1 : Nat) (a2 : Int32) {r : Int32} (hf : f_X9_ruleBroken h a0 a1 a2 = some r) : Met l yX9_ruleBroken (zz_ws yX9_ruleBroken cX9_ruleBroken 3 (some .int)) rm_X9_ruleBroken (zz_P D dA A h n [.ref (a0), .ref (a1), .int (a2)]) (zz_Q D dA A (some (.int r)) h n) 0 0 A := by
  refine zz_met (by decide) (Nat.le_of_ble_eq_true rfl) ?_
  intro p e s m args below meth c ls S K hret hlk hnm hl Z
  replace hl : lv_has ls 3 [(0, .ref (a0)), (1, .ref (a1)), (2, .int (a2))] := hl
  obtain ⟨K0, hR0, hk⟩ : ∃ K0 : (Int32) → Prop, (∀ x, K0 x → x = r) ∧ K0 r := ⟨fun x => x = r, fun _ h => h, rfl⟩
  have hv := hf
  unfold f_X9_ruleBroken at hv
  clear hf
  obtain ⟨x, hxx⟩ : ∃ x, x = r := ⟨_, rfl⟩
  rw [← hxx] at hv hk
  have ⟨H, hH⟩ : ∃ H, H = s.heap := ⟨_, rfl⟩
  have ⟨locs, hlo⟩ : ∃ q : List Loc, q = [] := ⟨_, rfl⟩
  have Z : zz_B D dA A h n s.heap H locs := by rw [hH, hlo]; exact Z
  have key : zz_W p l e rm_X9_ruleBroken s m args below meth c D dA A (some (.int r)) h n 0 0 H locs 0 0 0 ls [] := by
    clear hH hlo hxx
    refine lv_iload_n S.1 S.2.1 dX9_ruleBroken_0 rfl (lv_at hl 2 rfl) ?_
    refine lv_if_eq (tgt := 6) S.1 S.2.1 dX9_ruleBroken_1 (by decide) (fun hc => ?_) (fun hc => ?_)
    · replace hv := (if_pos hc).symm.trans hv
      refine lv_aload_n S.1 S.2.1 dX9_ruleBroken_6 rfl (lv_at hl 0 rfl) ?_
      refine zz_gR S K Z hv zc_7 (by decide) gf_X9_22 dX9_ruleBroken_7 (fun v1 hv => ?_)
      refine lv_aload_n S.1 S.2.1 dX9_ruleBroken_10 rfl (lv_at hl 1 rfl) ?_
      refine zz_gI S K Z hv zc_3 (by decide) gf_X9_73 dX9_ruleBroken_11 (fun v2 hv => ?_)
      obtain ⟨hci, hv⟩ := zz_isO_s hv
      obtain ⟨v3, hq, hv⟩ := zz_bd hv
      refine zz_V [.int (v2)] S K Z hci zc_8 rfl (c_X10_textLength v1 v2 hq) ⟨rfl, rfl⟩ gm_X10_textLength gmv_X10_textLength gl_X9_76 ⟨by decide, by decide⟩ rfl hl.1 rfl (Nat.le_of_ble_eq_true rfl) dX9_ruleBroken_14 ⟨Nat.zero_le _, Nat.zero_le _⟩ (fun H locs Z => ?_)
      show W _ _ _ _ _ _ _ _ _ _ _ _ 0 0 _ (F0 m 17 ls [.int (v3)])
      refine lv_if_ne (tgt := 22) S.1 S.2.1 dX9_ruleBroken_17 (by decide) (fun hc => ?_) (fun hc => ?_)
      · replace hv := (if_neg hc).symm.trans hv
        refine lv_aload_n S.1 S.2.1 dX9_ruleBroken_22 rfl (lv_at hl 1 rfl) ?_
        obtain ⟨hci, hv⟩ := zz_isO_s hv
        obtain ⟨v4, hq, hv⟩ := zz_bd hv
        refine zz_V [] S K Z hci zc_3 rfl (c_X4_hasFlagBelowZero a1 hq) ⟨rfl, rfl⟩ gm_X4_hasFlagBelowZero gmv_X4_hasFlagBelowZero gl_X9_79 ⟨by decide, by decide⟩ rfl hl.1 rfl (Nat.le_of_ble_eq_true rfl) dX9_ruleBroken_23 ⟨Nat.zero_le _, Nat.zero_le _⟩ (fun H locs Z => ?_)
        show W _ _ _ _ _ _ _ _ _ _ _ _ 0 0 _ (F0 m 26 ls [.int (v4)])
        refine lv_if_eq (tgt := 33) S.1 S.2.1 dX9_ruleBroken_26 (by decide) (fun hc => ?_) (fun hc => ?_)
        · replace hv := (if_pos hc).symm.trans hv
          refine lv_iconst (v := (0 : Int32)) S.1 S.2.1 dX9_ruleBroken_33 (by decide) ?_
          replace hk := zz_fin hv hk
          obtain rfl := hR0 _ hk
          exact zz_iret S Z hret hlk dX9_ruleBroken_34 (Nat.le_refl _) (Nat.le_refl _)
        · replace hv := (if_neg hc).symm.trans hv
          refine lv_iconst (v := (3 : Int32)) S.1 S.2.1 dX9_ruleBroken_29 (by decide) ?_
          refine lv_goto (tgt := 34) S.1 S.2.1 dX9_ruleBroken_30 (by decide) ?_
          replace hk := zz_fin hv hk
          obtain rfl := hR0 _ hk
          exact zz_iret S Z hret hlk dX9_ruleBroken_34 (Nat.le_refl _) (Nat.le_refl _)
      · replace hv := (if_pos hc).symm.trans hv
        refine lv_iconst (v := (2 : Int32)) S.1 S.2.1 dX9_ruleBroken_20 (by decide) ?_
        replace hk := zz_fin hv hk
        obtain rfl := hR0 _ hk
        exact zz_iret S Z hret hlk dX9_ruleBroken_21 (Nat.le_refl _) (Nat.le_refl _)
    · replace hv := (if_neg hc).symm.trans hv
      refine lv_iconst (v := (1 : Int32)) S.1 S.2.1 dX9_ruleBroken_4 (by decide) ?_
      replace hk := zz_fin hv hk
      obtain rfl := hR0 _ hk
      exact zz_iret S Z hret hlk dX9_ruleBroken_5 (Nat.le_refl _) (Nat.le_refl _)
  rw [hH, hlo] at key
  exact key

noncomputable def f_X9_rage_J139 (h : ZH) (a0 : Nat) (a1 : Int32) (a2 : Int32) (h8 : ZH) : Option (Int32 × ZH) :=
  (zg_I h8 a0 7 5).bind fun v9 => some ((v9, h8))
noncomputable def f_X9_rage_J127 (h : ZH) (a0 : Nat) (a1 : Int32) (a2 : Int32) (x3_31 : Int32) (x4_32 : Int32) (s33 : Int32) (s34 : Nat) (s35 : Nat) (s36 : Nat) (h37 : ZH) : Option ((Int32 × Int32 × ZH) ⊕ (Int32 × ZH)) :=
  zz_isO h37 s35 7 <| (f_X9_ruleBroken h37 s35 s34 s33).bind fun v38 => (zp_V h37 s36 7 5 (.int (v38))).bind fun h39 => some (.inl (x3_31, x4_32 + (1 : Int32), h39))
noncomputable def f_X9_rage_L22 (h : ZH) (a0 : Nat) (a1 : Int32) (a2 : Int32) (x3_5 : Int32) (x4_6 : Int32) (h7 : ZH)  : Option ((Int32 × Int32 × ZH) ⊕ (Int32 × ZH)) :=
  if a2 ≤ x4_6 then ((f_X9_rage_J139 h a0 a1 a2 h7).map Sum.inr) else ((zg_R h7 a0 7 3).bind fun v10 => (zl_N h7 v10 1).bind fun v11 => if v11 ≤ x4_6 then ((f_X9_rage_J139 h a0 a1 a2 h7).map Sum.inr) else ((zg_I h7 a0 7 5).bind fun v12 => if v12 = 0 then ((zg_R h7 a0 7 1).bind fun v13 => (zg_R h7 v13 6 1).bind fun v14 => (zg_I h7 v14 3 3).bind fun v15 => if v15 = 0 then ((f_X10_nextSeed h7 x3_5).bind fun v16 => (zg_R h7 a0 7 3).bind fun v17 => (zg_R h7 a0 7 0).bind fun v18 => (zg_R h7 v18 8 0).bind fun v19 => (zg_I h7 v19 1 3).bind fun v20 => (f_X10_drawn h7 v16 v20).bind fun v21 => (zs_I h7 v17 1 x4_6 v21).bind fun h22 => (zp_V h22 a0 7 4 (.int (x4_6 + (1 : Int32)))).bind fun h23 => (zg_R h23 a0 7 1).bind fun v24 => (zg_R h23 a0 7 3).bind fun v25 => (zl_I h23 v25 1 x4_6).bind fun v26 => zz_isO h23 v24 6 <| (f_X8_hear h23 v24 v26).bind fun (v27, h28) => (zg_R h28 a0 7 1).bind fun v29 => (zg_R h28 v29 6 1).bind fun v30 => if v27 = 0 then (f_X9_rage_J127 h a0 a1 a2 v16 x4_6 (0 : Int32) v30 a0 a0 h28) else (f_X9_rage_J127 h a0 a1 a2 v16 x4_6 (1 : Int32) v30 a0 a0 h28)) else ((f_X9_rage_J139 h a0 a1 a2 h7).map Sum.inr)) else ((f_X9_rage_J139 h a0 a1 a2 h7).map Sum.inr)))
noncomputable def f_X9_rage (h : ZH) (a0 : Nat) (a1 : Int32) (a2 : Int32) : Option (Int32 × ZH) :=
  (zg_R h a0 7 1).bind fun v1 => zz_isO h v1 6 <| (f_X8_begin h v1).bind fun h2 => (zp_V h2 a0 7 4 (.int ((0 : Int32)))).bind fun h3 => (zp_V h3 a0 7 5 (.int ((0 : Int32)))).bind fun h4 => zz_loop (fun st : (Int32 × Int32 × ZH) => f_X9_rage_L22 h a0 a1 a2 (st.1) (st.2.1) (st.2.2)) (a1, (0 : Int32), h4)
abbrev rm_X9_rage : Room := { frames := 5, cells := 0, slots := 0, locals := 117 }
set_option maxRecDepth 100000 in
set_option maxHeartbeats 4000000 in
theorem c_X9_rage {l : Launch} {D : va_G} {dA : Nat → ClassId} {A : Nat → Prop} {h : ZH} {n : Nat} (a0 : Nat) (a1 : Int32) (a2 : Int32) {r : Int32} {hx : ZH} (hf : f_X9_rage h a0 a1 a2 = some (r, hx)) : Met l yX9_rage (zz_ws yX9_rage cX9_rage 6 (some .int)) rm_X9_rage (zz_P D dA A h n [.ref (a0), .int (a1), .int (a2)]) (zz_Q D dA A (some (.int r)) hx n) 0 0 A := by
  refine zz_met (by decide) (Nat.le_of_ble_eq_true rfl) ?_
  intro p e s m args below meth c ls S K hret hlk hnm hl Z
  replace hl : lv_has ls 6 [(0, .ref (a0)), (1, .int (a1)), (2, .int (a2))] := hl
  obtain ⟨K0, hR0, hk⟩ : ∃ K0 : (Int32 × ZH) → Prop, (∀ x, K0 x → x = (r, hx)) ∧ K0 (r, hx) := ⟨fun x => x = (r, hx), fun _ h => h, rfl⟩
  have J139 : ∀ (h8 : ZH) (x : (Int32 × ZH)), f_X9_rage_J139 h a0 a1 a2 h8 = some x → K0 x → ∀ (H : Heap) (locs : List Loc) (ls : Array Slot), zz_B D dA A h8 n s.heap H locs → lv_has ls 6 [(0, .ref (a0))] → zz_W p l e rm_X9_rage s m args below meth c D dA A (some (.int r)) hx n 0 0 H locs 0 0 139 ls [] := by
    intro h8 x hv hk H locs ls Z hl
    unfold f_X9_rage_J139 at hv
    refine lv_aload_n S.1 S.2.1 dX9_rage_139 rfl (lv_at hl 0 rfl) ?_
    refine zz_gI S K Z hv zc_7 (by decide) gf_X9_39 dX9_rage_140 (fun v9 hv => ?_)
    replace hk := zz_fin hv hk
    obtain ⟨rfl, rfl⟩ := Prod.mk.inj (hR0 _ hk)
    exact zz_iret S Z hret hlk dX9_rage_143 (Nat.le_refl _) (Nat.le_refl _)
  have L22 : ∀ (st : (Int32 × Int32 × ZH)) (x : (Int32 × ZH)), zz_loop (fun st : (Int32 × Int32 × ZH) => f_X9_rage_L22 h a0 a1 a2 (st.1) (st.2.1) (st.2.2)) st = some x → K0 x → (fun st : (Int32 × Int32 × ZH) => ∀ (H : Heap) (locs : List Loc) (ls : Array Slot), zz_B D dA A (st.2.2) n s.heap H locs → lv_has ls 6 [(0, .ref (a0)), (2, .int (a2)), (3, .int ((st.1))), (4, .int ((st.2.1)))] → zz_W p l e rm_X9_rage s m args below meth c D dA A (some (.int r)) hx n 0 0 H locs 0 0 22 ls []) st := by
    refine zz_loop_go (K := K0) ?_
    intro K1 hP1 hR1
    have J127 : ∀ (x3_31 : Int32) (x4_32 : Int32) (s33 : Int32) (s34 : Nat) (s35 : Nat) (s36 : Nat) (h37 : ZH) (x : ((Int32 × Int32 × ZH) ⊕ (Int32 × ZH))), f_X9_rage_J127 h a0 a1 a2 x3_31 x4_32 s33 s34 s35 s36 h37 = some x → K1 x → ∀ (H : Heap) (locs : List Loc) (ls : Array Slot), zz_B D dA A h37 n s.heap H locs → lv_has ls 6 [(0, .ref (a0)), (2, .int (a2)), (3, .int (x3_31)), (4, .int (x4_32))] → zz_W p l e rm_X9_rage s m args below meth c D dA A (some (.int r)) hx n 0 0 H locs 0 0 127 ls [.int (s33), .ref (s34), .ref (s35), .ref (s36)] := by
      intro x3_31 x4_32 s33 s34 s35 s36 h37 x hv hk H locs ls Z hl
      unfold f_X9_rage_J127 at hv
      obtain ⟨hci, hv⟩ := zz_isO_s hv
      obtain ⟨v38, hq, hv⟩ := zz_bd hv
      refine zz_V [.ref (s34), .int (s33)] S K Z hci zc_7 rfl (c_X9_ruleBroken s35 s34 s33 hq) ⟨rfl, rfl⟩ gm_X9_ruleBroken gmv_X9_ruleBroken gl_X9_69 ⟨by decide, by decide⟩ rfl hl.1 rfl (Nat.le_of_ble_eq_true rfl) dX9_rage_127 ⟨Nat.zero_le _, Nat.zero_le _⟩ (fun H locs Z => ?_)
      show W _ _ _ _ _ _ _ _ _ _ _ _ 0 0 _ (F0 m 130 ls [.int (v38), .ref (s36)])
      refine zz_put S K Z hv zc_7 (by decide) gf_X9_39 rfl rfl rfl dX9_rage_130 (fun h39 H locs hv Z => ?_)
      refine lv_iinc (v := x4_32 + (1 : Int32)) (lv' := [(4, .int (x4_32 + (1 : Int32))), (0, .ref (a0)), (2, .int (a2)), (3, .int (x3_31))]) S.1 S.2.1 dX9_rage_133 hl (k := 3) rfl rfl (by decide) rfl (fun ls hl => ?_)
      refine lv_goto (tgt := 22) S.1 S.2.1 dX9_rage_136 (by decide) ?_
      replace hk := zz_fin hv hk
      exact hP1 _ hk H locs ls Z (lv_sub hl [1, 2, 3, 0] rfl)
    rintro ⟨x3_5, x4_6, h7⟩ x hv hk H locs ls Z hl
    replace hv : f_X9_rage_L22 h a0 a1 a2 x3_5 x4_6 h7 = some x := hv
    unfold f_X9_rage_L22 at hv
    replace hl : lv_has ls 6 [(0, .ref (a0)), (2, .int (a2)), (3, .int (x3_5)), (4, .int (x4_6))] := hl
    replace Z : zz_B D dA A h7 n s.heap H locs := Z
    show zz_W p l e rm_X9_rage s m args below meth c D dA A (some (.int r)) hx n 0 0 H locs 0 0 22 ls []
    refine lv_iload S.1 S.2.1 dX9_rage_22 (lv_at hl 3 rfl) ?_
    refine lv_iload_n S.1 S.2.1 dX9_rage_24 rfl (lv_at hl 1 rfl) ?_
    refine lv_icmp_ge (tgt := 139) S.1 S.2.1 dX9_rage_25 (by decide) (fun hc => ?_) (fun hc => ?_)
    · replace hv := (if_pos hc).symm.trans hv
      obtain ⟨_, hv, hk⟩ := zz_mapk hv hk
      replace hk := hR1 _ hk
      exact J139 h7 _ hv hk H locs ls Z (lv_sub hl [0] rfl)
    · replace hv := (if_neg hc).symm.trans hv
      refine lv_iload S.1 S.2.1 dX9_rage_28 (lv_at hl 3 rfl) ?_
      refine lv_aload_n S.1 S.2.1 dX9_rage_30 rfl (lv_at hl 0 rfl) ?_
      refine zz_gR S K Z hv zc_7 (by decide) gf_X9_18 dX9_rage_31 (fun v10 hv => ?_)
      refine zz_alen S K Z hv rfl dX9_rage_34 (fun v11 hv => ?_)
      refine lv_icmp_ge (tgt := 139) S.1 S.2.1 dX9_rage_35 (by decide) (fun hc => ?_) (fun hc => ?_)
      · replace hv := (if_pos hc).symm.trans hv
        obtain ⟨_, hv, hk⟩ := zz_mapk hv hk
        replace hk := hR1 _ hk
        exact J139 h7 _ hv hk H locs ls Z (lv_sub hl [0] rfl)
      · replace hv := (if_neg hc).symm.trans hv
        refine lv_aload_n S.1 S.2.1 dX9_rage_38 rfl (lv_at hl 0 rfl) ?_
        refine zz_gI S K Z hv zc_7 (by decide) gf_X9_39 dX9_rage_39 (fun v12 hv => ?_)
        refine lv_if_ne (tgt := 139) S.1 S.2.1 dX9_rage_42 (by decide) (fun hc => ?_) (fun hc => ?_)
        · replace hv := (if_neg hc).symm.trans hv
          obtain ⟨_, hv, hk⟩ := zz_mapk hv hk
          replace hk := hR1 _ hk
          exact J139 h7 _ hv hk H locs ls Z (lv_sub hl [0] rfl)
        · replace hv := (if_pos hc).symm.trans hv
          refine lv_aload_n S.1 S.2.1 dX9_rage_45 rfl (lv_at hl 0 rfl) ?_
          refine zz_gR S K Z hv zc_7 (by decide) gf_X9_26 dX9_rage_46 (fun v13 hv => ?_)
          refine zz_gR S K Z hv zc_6 (by decide) gf_X9_42 dX9_rage_49 (fun v14 hv => ?_)
          refine zz_gI S K Z hv zc_3 (by decide) gf_X9_45 dX9_rage_52 (fun v15 hv => ?_)
          refine lv_if_ne (tgt := 139) S.1 S.2.1 dX9_rage_55 (by decide) (fun hc => ?_) (fun hc => ?_)
          · replace hv := (if_neg hc).symm.trans hv
            obtain ⟨_, hv, hk⟩ := zz_mapk hv hk
            replace hk := hR1 _ hk
            exact J139 h7 _ hv hk H locs ls Z (lv_sub hl [0] rfl)
          · replace hv := (if_pos hc).symm.trans hv
            refine lv_iload_n S.1 S.2.1 dX9_rage_58 rfl (lv_at hl 2 rfl) ?_
            obtain ⟨v16, hq, hv⟩ := zz_bd hv
            refine zz_S [.int (x3_5)] S K Z (c_X10_nextSeed x3_5 hq) ⟨rfl, rfl⟩ gm_X10_nextSeed gs_X10_nextSeed gl_X9_48 ⟨by decide, by decide⟩ rfl hl.1 rfl (Nat.le_of_ble_eq_true rfl) dX9_rage_59 ⟨Nat.zero_le _, Nat.zero_le _⟩ (fun H locs Z => ?_)
            show W _ _ _ _ _ _ _ _ _ _ _ _ 0 0 _ (F0 m 62 ls [.int (v16)])
            refine lv_istore_n (lv' := [(3, .int (v16)), (0, .ref (a0)), (2, .int (a2)), (4, .int (x4_6))]) S.1 S.2.1 dX9_rage_62 rfl hl (by decide) rfl (fun ls hl => ?_)
            refine lv_aload_n S.1 S.2.1 dX9_rage_63 rfl (lv_at hl 1 rfl) ?_
            refine zz_gR S K Z hv zc_7 (by decide) gf_X9_18 dX9_rage_64 (fun v17 hv => ?_)
            refine lv_iload S.1 S.2.1 dX9_rage_67 (lv_at hl 3 rfl) ?_
            refine lv_iload_n S.1 S.2.1 dX9_rage_69 rfl (lv_at hl 0 rfl) ?_
            refine lv_aload_n S.1 S.2.1 dX9_rage_70 rfl (lv_at hl 1 rfl) ?_
            refine zz_gR S K Z hv zc_7 (by decide) gf_X9_22 dX9_rage_71 (fun v18 hv => ?_)
            refine zz_gR S K Z hv zc_8 (by decide) gf_X9_54 dX9_rage_74 (fun v19 hv => ?_)
            refine zz_gI S K Z hv zc_1 (by decide) gf_X9_57 dX9_rage_77 (fun v20 hv => ?_)
            obtain ⟨v21, hq, hv⟩ := zz_bd hv
            refine zz_S [.int (v16), .int (v20)] S K Z (c_X10_drawn v16 v20 hq) ⟨rfl, rfl⟩ gm_X10_drawn gs_X10_drawn gl_X9_62 ⟨by decide, by decide⟩ rfl hl.1 rfl (Nat.le_of_ble_eq_true rfl) dX9_rage_80 ⟨Nat.zero_le _, Nat.zero_le _⟩ (fun H locs Z => ?_)
            show W _ _ _ _ _ _ _ _ _ _ _ _ 0 0 _ (F0 m 83 ls [.int (v21), .int (x4_6), .ref (v17)])
            refine zz_iast S K Z hv dX9_rage_83 (fun h22 H locs hv Z => ?_)
            refine lv_aload_n S.1 S.2.1 dX9_rage_84 rfl (lv_at hl 1 rfl) ?_
            refine lv_iload S.1 S.2.1 dX9_rage_85 (lv_at hl 3 rfl) ?_
            refine lv_iconst (v := (1 : Int32)) S.1 S.2.1 dX9_rage_87 (by decide) ?_
            refine lv_iadd S.1 S.2.1 dX9_rage_88 ?_
            refine zz_put S K Z hv zc_7 (by decide) gf_X9_35 rfl rfl rfl dX9_rage_89 (fun h23 H locs hv Z => ?_)
            refine lv_aload_n S.1 S.2.1 dX9_rage_92 rfl (lv_at hl 1 rfl) ?_
            refine zz_gR S K Z hv zc_7 (by decide) gf_X9_26 dX9_rage_93 (fun v24 hv => ?_)
            refine lv_aload_n S.1 S.2.1 dX9_rage_96 rfl (lv_at hl 1 rfl) ?_
            refine zz_gR S K Z hv zc_7 (by decide) gf_X9_18 dX9_rage_97 (fun v25 hv => ?_)
            refine lv_iload S.1 S.2.1 dX9_rage_100 (lv_at hl 3 rfl) ?_
            refine zz_iald S K Z hv dX9_rage_102 (fun v26 hv => ?_)
            obtain ⟨hci, hv⟩ := zz_isO_s hv
            obtain ⟨⟨v27, h28⟩, hq, hv⟩ := zz_bd hv
            refine zz_V [.int (v26)] S K Z hci zc_6 rfl (c_X8_hear v24 v26 hq) ⟨rfl, rfl⟩ gm_X8_hear gmv_X8_hear gl_X9_66 ⟨by decide, by decide⟩ rfl hl.1 rfl (Nat.le_of_ble_eq_true rfl) dX9_rage_103 ⟨Nat.zero_le _, Nat.zero_le _⟩ (fun H locs Z => ?_)
            show W _ _ _ _ _ _ _ _ _ _ _ _ 0 0 _ (F0 m 106 ls [.int (v27)])
            refine lv_istore (lv' := [(5, .int (v27)), (3, .int (v16)), (0, .ref (a0)), (2, .int (a2)), (4, .int (x4_6))]) S.1 S.2.1 dX9_rage_106 hl (by decide) rfl (fun ls hl => ?_)
            refine lv_aload_n S.1 S.2.1 dX9_rage_108 rfl (lv_at hl 2 rfl) ?_
            refine lv_aload_n S.1 S.2.1 dX9_rage_109 rfl (lv_at hl 2 rfl) ?_
            refine lv_aload_n S.1 S.2.1 dX9_rage_110 rfl (lv_at hl 2 rfl) ?_
            refine zz_gR S K Z hv zc_7 (by decide) gf_X9_26 dX9_rage_111 (fun v29 hv => ?_)
            refine zz_gR S K Z hv zc_6 (by decide) gf_X9_42 dX9_rage_114 (fun v30 hv => ?_)
            refine lv_iload S.1 S.2.1 dX9_rage_117 (lv_at hl 0 rfl) ?_
            refine lv_if_eq (tgt := 126) S.1 S.2.1 dX9_rage_119 (by decide) (fun hc => ?_) (fun hc => ?_)
            · replace hv := (if_pos hc).symm.trans hv
              refine lv_iconst (v := (0 : Int32)) S.1 S.2.1 dX9_rage_126 (by decide) ?_
              exact J127 v16 x4_6 (0 : Int32) v30 a0 a0 h28 _ hv hk H locs ls Z (lv_sub hl [2, 3, 1, 4] rfl)
            · replace hv := (if_neg hc).symm.trans hv
              refine lv_iconst (v := (1 : Int32)) S.1 S.2.1 dX9_rage_122 (by decide) ?_
              refine lv_goto (tgt := 127) S.1 S.2.1 dX9_rage_123 (by decide) ?_
              exact J127 v16 x4_6 (1 : Int32) v30 a0 a0 h28 _ hv hk H locs ls Z (lv_sub hl [2, 3, 1, 4] rfl)
  have hv := hf
  unfold f_X9_rage at hv
  clear hf
  obtain ⟨x, hxx⟩ : ∃ x, x = (r, hx) := ⟨_, rfl⟩
  rw [← hxx] at hv hk
  have ⟨H, hH⟩ : ∃ H, H = s.heap := ⟨_, rfl⟩
  have ⟨locs, hlo⟩ : ∃ q : List Loc, q = [] := ⟨_, rfl⟩
  have Z : zz_B D dA A h n s.heap H locs := by rw [hH, hlo]; exact Z
  have key : zz_W p l e rm_X9_rage s m args below meth c D dA A (some (.int r)) hx n 0 0 H locs 0 0 0 ls [] := by
    clear hH hlo hxx
    refine lv_aload_n S.1 S.2.1 dX9_rage_0 rfl (lv_at hl 0 rfl) ?_
    refine zz_gR S K Z hv zc_7 (by decide) gf_X9_26 dX9_rage_1 (fun v1 hv => ?_)
    obtain ⟨hci, hv⟩ := zz_isO_s hv
    obtain ⟨h2, hq, hv⟩ := zz_bd hv
    refine zz_V [] S K Z hci zc_6 rfl (c_X8_begin v1 hq) ⟨rfl, rfl⟩ gm_X8_begin gmv_X8_begin gl_X9_30 ⟨by decide, by decide⟩ rfl hl.1 rfl (Nat.le_of_ble_eq_true rfl) dX9_rage_4 ⟨Nat.zero_le _, Nat.zero_le _⟩ (fun H locs Z => ?_)
    show W _ _ _ _ _ _ _ _ _ _ _ _ 0 0 _ (F0 m 7 ls [])
    refine lv_aload_n S.1 S.2.1 dX9_rage_7 rfl (lv_at hl 0 rfl) ?_
    refine lv_iconst (v := (0 : Int32)) S.1 S.2.1 dX9_rage_8 (by decide) ?_
    refine zz_put S K Z hv zc_7 (by decide) gf_X9_35 rfl rfl rfl dX9_rage_9 (fun h3 H locs hv Z => ?_)
    refine lv_aload_n S.1 S.2.1 dX9_rage_12 rfl (lv_at hl 0 rfl) ?_
    refine lv_iconst (v := (0 : Int32)) S.1 S.2.1 dX9_rage_13 (by decide) ?_
    refine zz_put S K Z hv zc_7 (by decide) gf_X9_39 rfl rfl rfl dX9_rage_14 (fun h4 H locs hv Z => ?_)
    refine lv_iload_n S.1 S.2.1 dX9_rage_17 rfl (lv_at hl 1 rfl) ?_
    refine lv_istore_n (lv' := [(3, .int (a1)), (0, .ref (a0)), (1, .int (a1)), (2, .int (a2))]) S.1 S.2.1 dX9_rage_18 rfl hl (by decide) rfl (fun ls hl => ?_)
    refine lv_iconst (v := (0 : Int32)) S.1 S.2.1 dX9_rage_19 (by decide) ?_
    refine lv_istore (lv' := [(4, .int ((0 : Int32))), (3, .int (a1)), (0, .ref (a0)), (1, .int (a1)), (2, .int (a2))]) S.1 S.2.1 dX9_rage_20 hl (by decide) rfl (fun ls hl => ?_)
    exact L22  (a1, (0 : Int32), h4) _ hv hk H locs ls Z (lv_sub hl [2, 4, 1, 0] rfl)
  rw [hH, hlo] at key
  exact key

noncomputable def f_X11_storm (h : ZH) (a0 : Nat) (a1 : Int32) (a2 : Int32) : Option (Int32 × ZH) :=
  (f_X11_inside h a2 (0 : Int32) (60 : Int32)).bind fun v1 => if v1 = 0 then (some (((-3 : Int32), h))) else ((zg_R h a0 9 1).bind fun v2 => (zg_R h v2 8 0).bind fun v3 => (zg_I h v3 1 3).bind fun v4 => if v4 = 0 then (some (((-4 : Int32), h))) else ((zg_R h a0 9 4).bind fun v5 => zz_isO h v5 7 <| (f_X9_rage h v5 a1 a2).bind fun (v6, h7) => some ((v6, h7))))
abbrev rm_X11_storm : Room := { frames := 6, cells := 0, slots := 0, locals := 142 }
set_option maxRecDepth 100000 in
set_option maxHeartbeats 4000000 in
theorem c_X11_storm {l : Launch} {D : va_G} {dA : Nat → ClassId} {A : Nat → Prop} {h : ZH} {n : Nat} (a0 : Nat) (a1 : Int32) (a2 : Int32) {r : Int32} {hx : ZH} (hf : f_X11_storm h a0 a1 a2 = some (r, hx)) : Met l yX11_storm (zz_ws yX11_storm cX11_storm 3 (some .int)) rm_X11_storm (zz_P D dA A h n [.ref (a0), .int (a1), .int (a2)]) (zz_Q D dA A (some (.int r)) hx n) 0 0 A := by
  refine zz_met (by decide) (Nat.le_of_ble_eq_true rfl) ?_
  intro p e s m args below meth c ls S K hret hlk hnm hl Z
  replace hl : lv_has ls 3 [(0, .ref (a0)), (1, .int (a1)), (2, .int (a2))] := hl
  obtain ⟨K0, hR0, hk⟩ : ∃ K0 : (Int32 × ZH) → Prop, (∀ x, K0 x → x = (r, hx)) ∧ K0 (r, hx) := ⟨fun x => x = (r, hx), fun _ h => h, rfl⟩
  have hv := hf
  unfold f_X11_storm at hv
  clear hf
  obtain ⟨x, hxx⟩ : ∃ x, x = (r, hx) := ⟨_, rfl⟩
  rw [← hxx] at hv hk
  have ⟨H, hH⟩ : ∃ H, H = s.heap := ⟨_, rfl⟩
  have ⟨locs, hlo⟩ : ∃ q : List Loc, q = [] := ⟨_, rfl⟩
  have Z : zz_B D dA A h n s.heap H locs := by rw [hH, hlo]; exact Z
  have key : zz_W p l e rm_X11_storm s m args below meth c D dA A (some (.int r)) hx n 0 0 H locs 0 0 0 ls [] := by
    clear hH hlo hxx
    refine lv_iload_n S.1 S.2.1 dX11_storm_0 rfl (lv_at hl 2 rfl) ?_
    refine lv_iconst (v := (0 : Int32)) S.1 S.2.1 dX11_storm_1 (by decide) ?_
    refine lv_bipush (v := (60 : Int32)) S.1 S.2.1 dX11_storm_2 (by decide) ?_
    obtain ⟨v1, hq, hv⟩ := zz_bd hv
    refine zz_S [.int (a2), .int ((0 : Int32)), .int ((60 : Int32))] S K Z (c_X11_inside a2 (0 : Int32) (60 : Int32) hq) ⟨rfl, rfl⟩ gm_X11_inside gs_X11_inside gl_X11_100 ⟨by decide, by decide⟩ rfl hl.1 rfl (Nat.le_of_ble_eq_true rfl) dX11_storm_4 ⟨Nat.zero_le _, Nat.zero_le _⟩ (fun H locs Z => ?_)
    show W _ _ _ _ _ _ _ _ _ _ _ _ 0 0 _ (F0 m 7 ls [.int (v1)])
    refine lv_if_ne (tgt := 13) S.1 S.2.1 dX11_storm_7 (by decide) (fun hc => ?_) (fun hc => ?_)
    · replace hv := (if_neg hc).symm.trans hv
      refine lv_aload_n S.1 S.2.1 dX11_storm_13 rfl (lv_at hl 0 rfl) ?_
      refine zz_gR S K Z hv zc_9 (by decide) gf_X11_25 dX11_storm_14 (fun v2 hv => ?_)
      refine zz_gR S K Z hv zc_8 (by decide) gf_X11_74 dX11_storm_17 (fun v3 hv => ?_)
      refine zz_gI S K Z hv zc_1 (by decide) gf_X11_220 dX11_storm_20 (fun v4 hv => ?_)
      refine lv_if_ne (tgt := 29) S.1 S.2.1 dX11_storm_23 (by decide) (fun hc => ?_) (fun hc => ?_)
      · replace hv := (if_neg hc).symm.trans hv
        refine lv_aload_n S.1 S.2.1 dX11_storm_29 rfl (lv_at hl 0 rfl) ?_
        refine zz_gR S K Z hv zc_9 (by decide) gf_X11_50 dX11_storm_30 (fun v5 hv => ?_)
        refine lv_iload_n S.1 S.2.1 dX11_storm_33 rfl (lv_at hl 1 rfl) ?_
        refine lv_iload_n S.1 S.2.1 dX11_storm_34 rfl (lv_at hl 2 rfl) ?_
        obtain ⟨hci, hv⟩ := zz_isO_s hv
        obtain ⟨⟨v6, h7⟩, hq, hv⟩ := zz_bd hv
        refine zz_V [.int (a1), .int (a2)] S K Z hci zc_7 rfl (c_X9_rage v5 a1 a2 hq) ⟨rfl, rfl⟩ gm_X9_rage gmv_X9_rage gl_X11_223 ⟨by decide, by decide⟩ rfl hl.1 rfl (Nat.le_of_ble_eq_true rfl) dX11_storm_35 ⟨Nat.zero_le _, Nat.zero_le _⟩ (fun H locs Z => ?_)
        show W _ _ _ _ _ _ _ _ _ _ _ _ 0 0 _ (F0 m 38 ls [.int (v6)])
        replace hk := zz_fin hv hk
        obtain ⟨rfl, rfl⟩ := Prod.mk.inj (hR0 _ hk)
        exact zz_iret S Z hret hlk dX11_storm_38 (Nat.le_refl _) (Nat.le_refl _)
      · replace hv := (if_pos hc).symm.trans hv
        refine lv_bipush (v := (-4 : Int32)) S.1 S.2.1 dX11_storm_26 (by decide) ?_
        replace hk := zz_fin hv hk
        obtain ⟨rfl, rfl⟩ := Prod.mk.inj (hR0 _ hk)
        exact zz_iret S Z hret hlk dX11_storm_28 (Nat.le_refl _) (Nat.le_refl _)
    · replace hv := (if_pos hc).symm.trans hv
      refine lv_bipush (v := (-3 : Int32)) S.1 S.2.1 dX11_storm_10 (by decide) ?_
      replace hk := zz_fin hv hk
      obtain ⟨rfl, rfl⟩ := Prod.mk.inj (hR0 _ hk)
      exact zz_iret S Z hret hlk dX11_storm_12 (Nat.le_refl _) (Nat.le_refl _)
  rw [hH, hlo] at key
  exact key

noncomputable def f_X11_play (h : ZH) (a0 : Nat) : Option (Int32) :=
  (zg_R h a0 9 4).bind fun v1 => (zg_I h v1 7 4).bind fun v2 => some (v2)
abbrev rm_X11_play : Room := { frames := 0, cells := 0, slots := 0, locals := 0 }
set_option maxRecDepth 100000 in
set_option maxHeartbeats 4000000 in
theorem c_X11_play {l : Launch} {D : va_G} {dA : Nat → ClassId} {A : Nat → Prop} {h : ZH} {n : Nat} (a0 : Nat) {r : Int32} (hf : f_X11_play h a0 = some r) : Met l yX11_play (zz_ws yX11_play cX11_play 1 (some .int)) rm_X11_play (zz_P D dA A h n [.ref (a0)]) (zz_Q D dA A (some (.int r)) h n) 0 0 A := by
  refine zz_met (by decide) (Nat.le_of_ble_eq_true rfl) ?_
  intro p e s m args below meth c ls S K hret hlk hnm hl Z
  replace hl : lv_has ls 1 [(0, .ref (a0))] := hl
  obtain ⟨K0, hR0, hk⟩ : ∃ K0 : (Int32) → Prop, (∀ x, K0 x → x = r) ∧ K0 r := ⟨fun x => x = r, fun _ h => h, rfl⟩
  have hv := hf
  unfold f_X11_play at hv
  clear hf
  obtain ⟨x, hxx⟩ : ∃ x, x = r := ⟨_, rfl⟩
  rw [← hxx] at hv hk
  have ⟨H, hH⟩ : ∃ H, H = s.heap := ⟨_, rfl⟩
  have ⟨locs, hlo⟩ : ∃ q : List Loc, q = [] := ⟨_, rfl⟩
  have Z : zz_B D dA A h n s.heap H locs := by rw [hH, hlo]; exact Z
  have key : zz_W p l e rm_X11_play s m args below meth c D dA A (some (.int r)) h n 0 0 H locs 0 0 0 ls [] := by
    clear hH hlo hxx
    refine lv_aload_n S.1 S.2.1 dX11_play_0 rfl (lv_at hl 0 rfl) ?_
    refine zz_gR S K Z hv zc_9 (by decide) gf_X11_50 dX11_play_1 (fun v1 hv => ?_)
    refine zz_gI S K Z hv zc_7 (by decide) gf_X11_227 dX11_play_4 (fun v2 hv => ?_)
    replace hk := zz_fin hv hk
    obtain rfl := hR0 _ hk
    exact zz_iret S Z hret hlk dX11_play_7 (Nat.le_refl _) (Nat.le_refl _)
  rw [hH, hlo] at key
  exact key

noncomputable def f_X11_played (h : ZH) (a0 : Nat) (a1 : Int32) : Option (Int32) :=
  (zg_R h a0 9 4).bind fun v1 => (zg_I h v1 7 4).bind fun v2 => (f_X11_inside h a1 (0 : Int32) (v2 - (1 : Int32))).bind fun v3 => if v3 = 0 then (some ((-2 : Int32))) else ((zg_R h a0 9 4).bind fun v4 => (zg_R h v4 7 3).bind fun v5 => (zl_I h v5 1 a1).bind fun v6 => some (v6))
abbrev rm_X11_played : Room := { frames := 1, cells := 0, slots := 0, locals := 22 }
set_option maxRecDepth 100000 in
set_option maxHeartbeats 4000000 in
theorem c_X11_played {l : Launch} {D : va_G} {dA : Nat → ClassId} {A : Nat → Prop} {h : ZH} {n : Nat} (a0 : Nat) (a1 : Int32) {r : Int32} (hf : f_X11_played h a0 a1 = some r) : Met l yX11_played (zz_ws yX11_played cX11_played 2 (some .int)) rm_X11_played (zz_P D dA A h n [.ref (a0), .int (a1)]) (zz_Q D dA A (some (.int r)) h n) 0 0 A := by
  refine zz_met (by decide) (Nat.le_of_ble_eq_true rfl) ?_
  intro p e s m args below meth c ls S K hret hlk hnm hl Z
  replace hl : lv_has ls 2 [(0, .ref (a0)), (1, .int (a1))] := hl
  obtain ⟨K0, hR0, hk⟩ : ∃ K0 : (Int32) → Prop, (∀ x, K0 x → x = r) ∧ K0 r := ⟨fun x => x = r, fun _ h => h, rfl⟩
  have hv := hf
  unfold f_X11_played at hv
  clear hf
  obtain ⟨x, hxx⟩ : ∃ x, x = r := ⟨_, rfl⟩
  rw [← hxx] at hv hk
  have ⟨H, hH⟩ : ∃ H, H = s.heap := ⟨_, rfl⟩
  have ⟨locs, hlo⟩ : ∃ q : List Loc, q = [] := ⟨_, rfl⟩
  have Z : zz_B D dA A h n s.heap H locs := by rw [hH, hlo]; exact Z
  have key : zz_W p l e rm_X11_played s m args below meth c D dA A (some (.int r)) h n 0 0 H locs 0 0 0 ls [] := by
    clear hH hlo hxx
    refine lv_iload_n S.1 S.2.1 dX11_played_0 rfl (lv_at hl 1 rfl) ?_
    refine lv_iconst (v := (0 : Int32)) S.1 S.2.1 dX11_played_1 (by decide) ?_
    refine lv_aload_n S.1 S.2.1 dX11_played_2 rfl (lv_at hl 0 rfl) ?_
    refine zz_gR S K Z hv zc_9 (by decide) gf_X11_50 dX11_played_3 (fun v1 hv => ?_)
    refine zz_gI S K Z hv zc_7 (by decide) gf_X11_227 dX11_played_6 (fun v2 hv => ?_)
    refine lv_iconst (v := (1 : Int32)) S.1 S.2.1 dX11_played_9 (by decide) ?_
    refine lv_isub S.1 S.2.1 dX11_played_10 ?_
    obtain ⟨v3, hq, hv⟩ := zz_bd hv
    refine zz_S [.int (a1), .int ((0 : Int32)), .int (v2 - (1 : Int32))] S K Z (c_X11_inside a1 (0 : Int32) (v2 - (1 : Int32)) hq) ⟨rfl, rfl⟩ gm_X11_inside gs_X11_inside gl_X11_100 ⟨by decide, by decide⟩ rfl hl.1 rfl (Nat.le_of_ble_eq_true rfl) dX11_played_11 ⟨Nat.zero_le _, Nat.zero_le _⟩ (fun H locs Z => ?_)
    show W _ _ _ _ _ _ _ _ _ _ _ _ 0 0 _ (F0 m 14 ls [.int (v3)])
    refine lv_if_eq (tgt := 29) S.1 S.2.1 dX11_played_14 (by decide) (fun hc => ?_) (fun hc => ?_)
    · replace hv := (if_pos hc).symm.trans hv
      refine lv_bipush (v := (-2 : Int32)) S.1 S.2.1 dX11_played_29 (by decide) ?_
      replace hk := zz_fin hv hk
      obtain rfl := hR0 _ hk
      exact zz_iret S Z hret hlk dX11_played_31 (Nat.le_refl _) (Nat.le_refl _)
    · replace hv := (if_neg hc).symm.trans hv
      refine lv_aload_n S.1 S.2.1 dX11_played_17 rfl (lv_at hl 0 rfl) ?_
      refine zz_gR S K Z hv zc_9 (by decide) gf_X11_50 dX11_played_18 (fun v4 hv => ?_)
      refine zz_gR S K Z hv zc_7 (by decide) gf_X11_228 dX11_played_21 (fun v5 hv => ?_)
      refine lv_iload_n S.1 S.2.1 dX11_played_24 rfl (lv_at hl 1 rfl) ?_
      refine zz_iald S K Z hv dX11_played_25 (fun v6 hv => ?_)
      refine lv_goto (tgt := 31) S.1 S.2.1 dX11_played_26 (by decide) ?_
      replace hk := zz_fin hv hk
      obtain rfl := hR0 _ hk
      exact zz_iret S Z hret hlk dX11_played_31 (Nat.le_refl _) (Nat.le_refl _)
  rw [hH, hlo] at key
  exact key

noncomputable def f_X9_breaksAlikeWithout_J111 (h : ZH) (a0 : Nat) (a1 : Int32) (y2_10 : Int32) (x3_23 : Int32) (s24 : Int32) (s25 : Nat) (s26 : Nat) (h27 : ZH) : Option ((Int32 × ZH) ⊕ (Int32 × ZH)) :=
  zz_isO h27 s26 7 <| (f_X9_ruleBroken h27 s26 s25 s24).bind fun v28 => if x3_23 = y2_10 then (((zg_I h27 a0 7 5).bind fun v29 => if v28 = v29 then (some (((1 : Int32), h27))) else (some (((0 : Int32), h27)))).map Sum.inr) else (if v28 = 0 then (some (.inl (x3_23 + (1 : Int32), h27))) else ((some (((0 : Int32), h27))).map Sum.inr))
noncomputable def f_X9_breaksAlikeWithout_L42 (h : ZH) (a0 : Nat) (a1 : Int32) (y2_10 : Int32) (x3_9 : Int32) (h11 : ZH)  : Option ((Int32 × ZH) ⊕ (Int32 × ZH)) :=
  if y2_10 < x3_9 then ((some (((0 : Int32), h11))).map Sum.inr) else ((zg_R h11 a0 7 3).bind fun v12 => (zl_N h11 v12 1).bind fun v13 => if v13 ≤ x3_9 then ((some (((0 : Int32), h11))).map Sum.inr) else (if x3_9 = a1 then (some (.inl (x3_9 + (1 : Int32), h11))) else ((zg_R h11 a0 7 2).bind fun v14 => (zg_I h11 v14 3 3).bind fun v15 => if v15 = 0 then ((zg_R h11 a0 7 0).bind fun v16 => (zg_R h11 a0 7 2).bind fun v17 => (zg_R h11 a0 7 3).bind fun v18 => (zl_I h11 v18 1 x3_9).bind fun v19 => zz_isO h11 v16 8 <| (f_X10_say h11 v16 v17 v19).bind fun (v20, h21) => (zg_R h21 a0 7 2).bind fun v22 => if (-1 : Int32) ≤ v20 then (f_X9_breaksAlikeWithout_J111 h a0 a1 y2_10 x3_9 (0 : Int32) v22 a0 h21) else (f_X9_breaksAlikeWithout_J111 h a0 a1 y2_10 x3_9 (1 : Int32) v22 a0 h21)) else ((some (((0 : Int32), h11))).map Sum.inr))))
noncomputable def f_X9_breaksAlikeWithout_J39 (h : ZH) (a0 : Nat) (a1 : Int32) (s7 : Int32) (h8 : ZH) : Option (Int32 × ZH) :=
  zz_loop (fun st : (Int32 × ZH) => f_X9_breaksAlikeWithout_L42 h a0 a1 s7 (st.1) (st.2)) ((0 : Int32), h8)
noncomputable def f_X9_breaksAlikeWithout (h : ZH) (a0 : Nat) (a1 : Int32) : Option (Int32 × ZH) :=
  (zg_R h a0 7 2).bind fun v1 => (zg_R h a0 7 0).bind fun v2 => (zg_I h v2 8 5).bind fun v3 => zz_isO h v1 3 <| (f_X4_begin h v1 v3).bind fun h4 => (zg_I h4 a0 7 4).bind fun v5 => if a1 = (v5 - (1 : Int32)) then ((zg_I h4 a0 7 4).bind fun v30 => f_X9_breaksAlikeWithout_J39 h a0 a1 (v30 - (2 : Int32)) h4) else ((zg_I h4 a0 7 4).bind fun v6 => f_X9_breaksAlikeWithout_J39 h a0 a1 (v6 - (1 : Int32)) h4)
abbrev rm_X9_breaksAlikeWithout : Room := { frames := 4, cells := 0, slots := 0, locals := 94 }
set_option maxRecDepth 100000 in
set_option maxHeartbeats 4000000 in
theorem c_X9_breaksAlikeWithout {l : Launch} {D : va_G} {dA : Nat → ClassId} {A : Nat → Prop} {h : ZH} {n : Nat} (a0 : Nat) (a1 : Int32) {r : Int32} {hx : ZH} (hf : f_X9_breaksAlikeWithout h a0 a1 = some (r, hx)) : Met l yX9_breaksAlikeWithout (zz_ws yX9_breaksAlikeWithout cX9_breaksAlikeWithout 6 (some .boolean)) rm_X9_breaksAlikeWithout (zz_P D dA A h n [.ref (a0), .int (a1)]) (zz_Q D dA A (some (.int r)) hx n) 0 0 A := by
  refine zz_met (by decide) (Nat.le_of_ble_eq_true rfl) ?_
  intro p e s m args below meth c ls S K hret hlk hnm hl Z
  replace hl : lv_has ls 6 [(0, .ref (a0)), (1, .int (a1))] := hl
  obtain ⟨K0, hR0, hk⟩ : ∃ K0 : (Int32 × ZH) → Prop, (∀ x, K0 x → x = (r, hx)) ∧ K0 (r, hx) := ⟨fun x => x = (r, hx), fun _ h => h, rfl⟩
  have L42 : ∀ (y2_10 : Int32) (st : (Int32 × ZH)) (x : (Int32 × ZH)), zz_loop (fun st : (Int32 × ZH) => f_X9_breaksAlikeWithout_L42 h a0 a1 y2_10 (st.1) (st.2)) st = some x → K0 x → (fun st : (Int32 × ZH) => ∀ (H : Heap) (locs : List Loc) (ls : Array Slot), zz_B D dA A (st.2) n s.heap H locs → lv_has ls 6 [(0, .ref (a0)), (1, .int (a1)), (2, .int (y2_10)), (3, .int ((st.1)))] → zz_W p l e rm_X9_breaksAlikeWithout s m args below meth c D dA A (some (.int r)) hx n 0 0 H locs 0 0 42 ls []) st := by
    intro y2_10
    refine zz_loop_go (K := K0) ?_
    intro K1 hP1 hR1
    have J111 : ∀ (x3_23 : Int32) (s24 : Int32) (s25 : Nat) (s26 : Nat) (h27 : ZH) (x : ((Int32 × ZH) ⊕ (Int32 × ZH))), f_X9_breaksAlikeWithout_J111 h a0 a1 y2_10 x3_23 s24 s25 s26 h27 = some x → K1 x → ∀ (H : Heap) (locs : List Loc) (ls : Array Slot), zz_B D dA A h27 n s.heap H locs → lv_has ls 6 [(0, .ref (a0)), (1, .int (a1)), (2, .int (y2_10)), (3, .int (x3_23))] → zz_W p l e rm_X9_breaksAlikeWithout s m args below meth c D dA A (some (.int r)) hx n 0 0 H locs 0 0 111 ls [.int (s24), .ref (s25), .ref (s26)] := by
      intro x3_23 s24 s25 s26 h27 x hv hk H locs ls Z hl
      unfold f_X9_breaksAlikeWithout_J111 at hv
      obtain ⟨hci, hv⟩ := zz_isO_s hv
      obtain ⟨v28, hq, hv⟩ := zz_bd hv
      refine zz_V [.ref (s25), .int (s24)] S K Z hci zc_7 rfl (c_X9_ruleBroken s26 s25 s24 hq) ⟨rfl, rfl⟩ gm_X9_ruleBroken gmv_X9_ruleBroken gl_X9_69 ⟨by decide, by decide⟩ rfl hl.1 rfl (Nat.le_of_ble_eq_true rfl) dX9_breaksAlikeWithout_111 ⟨Nat.zero_le _, Nat.zero_le _⟩ (fun H locs Z => ?_)
      show W _ _ _ _ _ _ _ _ _ _ _ _ 0 0 _ (F0 m 114 ls [.int (v28)])
      refine lv_istore (lv' := [(5, .int (v28)), (0, .ref (a0)), (1, .int (a1)), (2, .int (y2_10)), (3, .int (x3_23))]) S.1 S.2.1 dX9_breaksAlikeWithout_114 hl (by decide) rfl (fun ls hl => ?_)
      refine lv_iload_n S.1 S.2.1 dX9_breaksAlikeWithout_116 rfl (lv_at hl 4 rfl) ?_
      refine lv_iload_n S.1 S.2.1 dX9_breaksAlikeWithout_117 rfl (lv_at hl 3 rfl) ?_
      refine lv_icmp_ne (tgt := 136) S.1 S.2.1 dX9_breaksAlikeWithout_118 (by decide) (fun hc => ?_) (fun hc => ?_)
      · replace hv := (if_neg hc).symm.trans hv
        refine lv_iload S.1 S.2.1 dX9_breaksAlikeWithout_136 (lv_at hl 0 rfl) ?_
        refine lv_if_eq (tgt := 143) S.1 S.2.1 dX9_breaksAlikeWithout_138 (by decide) (fun hc => ?_) (fun hc => ?_)
        · replace hv := (if_pos hc).symm.trans hv
          refine lv_iinc (v := x3_23 + (1 : Int32)) (lv' := [(3, .int (x3_23 + (1 : Int32))), (5, .int (v28)), (0, .ref (a0)), (1, .int (a1)), (2, .int (y2_10))]) S.1 S.2.1 dX9_breaksAlikeWithout_143 hl (k := 4) rfl rfl (by decide) rfl (fun ls hl => ?_)
          refine lv_goto (tgt := 42) S.1 S.2.1 dX9_breaksAlikeWithout_146 (by decide) ?_
          replace hk := zz_fin hv hk
          exact hP1 _ hk H locs ls Z (lv_sub hl [2, 3, 4, 0] rfl)
        · replace hv := (if_neg hc).symm.trans hv
          obtain ⟨_, hv, hk⟩ := zz_mapk hv hk
          replace hk := hR1 _ hk
          refine lv_iconst (v := (0 : Int32)) S.1 S.2.1 dX9_breaksAlikeWithout_141 (by decide) ?_
          replace hk := zz_fin hv hk
          obtain ⟨rfl, rfl⟩ := Prod.mk.inj (hR0 _ hk)
          exact zz_zret S Z hret (by decide) hlk dX9_breaksAlikeWithout_142 (Nat.le_refl _) (Nat.le_refl _)
      · replace hv := (if_pos hc).symm.trans hv
        obtain ⟨_, hv, hk⟩ := zz_mapk hv hk
        replace hk := hR1 _ hk
        refine lv_iload S.1 S.2.1 dX9_breaksAlikeWithout_121 (lv_at hl 0 rfl) ?_
        refine lv_aload_n S.1 S.2.1 dX9_breaksAlikeWithout_123 rfl (lv_at hl 1 rfl) ?_
        refine zz_gI S K Z hv zc_7 (by decide) gf_X9_39 dX9_breaksAlikeWithout_124 (fun v29 hv => ?_)
        refine lv_icmp_ne (tgt := 134) S.1 S.2.1 dX9_breaksAlikeWithout_127 (by decide) (fun hc => ?_) (fun hc => ?_)
        · replace hv := (if_neg hc).symm.trans hv
          refine lv_iconst (v := (0 : Int32)) S.1 S.2.1 dX9_breaksAlikeWithout_134 (by decide) ?_
          replace hk := zz_fin hv hk
          obtain ⟨rfl, rfl⟩ := Prod.mk.inj (hR0 _ hk)
          exact zz_zret S Z hret (by decide) hlk dX9_breaksAlikeWithout_135 (Nat.le_refl _) (Nat.le_refl _)
        · replace hv := (if_pos hc).symm.trans hv
          refine lv_iconst (v := (1 : Int32)) S.1 S.2.1 dX9_breaksAlikeWithout_130 (by decide) ?_
          refine lv_goto (tgt := 135) S.1 S.2.1 dX9_breaksAlikeWithout_131 (by decide) ?_
          replace hk := zz_fin hv hk
          obtain ⟨rfl, rfl⟩ := Prod.mk.inj (hR0 _ hk)
          exact zz_zret S Z hret (by decide) hlk dX9_breaksAlikeWithout_135 (Nat.le_refl _) (Nat.le_refl _)
    rintro ⟨x3_9, h11⟩ x hv hk H locs ls Z hl
    replace hv : f_X9_breaksAlikeWithout_L42 h a0 a1 y2_10 x3_9 h11 = some x := hv
    unfold f_X9_breaksAlikeWithout_L42 at hv
    replace hl : lv_has ls 6 [(0, .ref (a0)), (1, .int (a1)), (2, .int (y2_10)), (3, .int (x3_9))] := hl
    replace Z : zz_B D dA A h11 n s.heap H locs := Z
    show zz_W p l e rm_X9_breaksAlikeWithout s m args below meth c D dA A (some (.int r)) hx n 0 0 H locs 0 0 42 ls []
    refine lv_iload_n S.1 S.2.1 dX9_breaksAlikeWithout_42 rfl (lv_at hl 3 rfl) ?_
    refine lv_iload_n S.1 S.2.1 dX9_breaksAlikeWithout_43 rfl (lv_at hl 2 rfl) ?_
    refine lv_icmp_gt (tgt := 149) S.1 S.2.1 dX9_breaksAlikeWithout_44 (by decide) (fun hc => ?_) (fun hc => ?_)
    · replace hv := (if_pos hc).symm.trans hv
      obtain ⟨_, hv, hk⟩ := zz_mapk hv hk
      replace hk := hR1 _ hk
      refine lv_iconst (v := (0 : Int32)) S.1 S.2.1 dX9_breaksAlikeWithout_149 (by decide) ?_
      replace hk := zz_fin hv hk
      obtain ⟨rfl, rfl⟩ := Prod.mk.inj (hR0 _ hk)
      exact zz_zret S Z hret (by decide) hlk dX9_breaksAlikeWithout_150 (Nat.le_refl _) (Nat.le_refl _)
    · replace hv := (if_neg hc).symm.trans hv
      refine lv_iload_n S.1 S.2.1 dX9_breaksAlikeWithout_47 rfl (lv_at hl 3 rfl) ?_
      refine lv_aload_n S.1 S.2.1 dX9_breaksAlikeWithout_48 rfl (lv_at hl 0 rfl) ?_
      refine zz_gR S K Z hv zc_7 (by decide) gf_X9_18 dX9_breaksAlikeWithout_49 (fun v12 hv => ?_)
      refine zz_alen S K Z hv rfl dX9_breaksAlikeWithout_52 (fun v13 hv => ?_)
      refine lv_icmp_ge (tgt := 149) S.1 S.2.1 dX9_breaksAlikeWithout_53 (by decide) (fun hc => ?_) (fun hc => ?_)
      · replace hv := (if_pos hc).symm.trans hv
        obtain ⟨_, hv, hk⟩ := zz_mapk hv hk
        replace hk := hR1 _ hk
        refine lv_iconst (v := (0 : Int32)) S.1 S.2.1 dX9_breaksAlikeWithout_149 (by decide) ?_
        replace hk := zz_fin hv hk
        obtain ⟨rfl, rfl⟩ := Prod.mk.inj (hR0 _ hk)
        exact zz_zret S Z hret (by decide) hlk dX9_breaksAlikeWithout_150 (Nat.le_refl _) (Nat.le_refl _)
      · replace hv := (if_neg hc).symm.trans hv
        refine lv_iload_n S.1 S.2.1 dX9_breaksAlikeWithout_56 rfl (lv_at hl 3 rfl) ?_
        refine lv_iload_n S.1 S.2.1 dX9_breaksAlikeWithout_57 rfl (lv_at hl 1 rfl) ?_
        refine lv_icmp_ne (tgt := 64) S.1 S.2.1 dX9_breaksAlikeWithout_58 (by decide) (fun hc => ?_) (fun hc => ?_)
        · replace hv := (if_neg hc).symm.trans hv
          refine lv_aload_n S.1 S.2.1 dX9_breaksAlikeWithout_64 rfl (lv_at hl 0 rfl) ?_
          refine zz_gR S K Z hv zc_7 (by decide) gf_X9_12 dX9_breaksAlikeWithout_65 (fun v14 hv => ?_)
          refine zz_gI S K Z hv zc_3 (by decide) gf_X9_45 dX9_breaksAlikeWithout_68 (fun v15 hv => ?_)
          refine lv_if_eq (tgt := 76) S.1 S.2.1 dX9_breaksAlikeWithout_71 (by decide) (fun hc => ?_) (fun hc => ?_)
          · replace hv := (if_pos hc).symm.trans hv
            refine lv_aload_n S.1 S.2.1 dX9_breaksAlikeWithout_76 rfl (lv_at hl 0 rfl) ?_
            refine zz_gR S K Z hv zc_7 (by decide) gf_X9_22 dX9_breaksAlikeWithout_77 (fun v16 hv => ?_)
            refine lv_aload_n S.1 S.2.1 dX9_breaksAlikeWithout_80 rfl (lv_at hl 0 rfl) ?_
            refine zz_gR S K Z hv zc_7 (by decide) gf_X9_12 dX9_breaksAlikeWithout_81 (fun v17 hv => ?_)
            refine lv_aload_n S.1 S.2.1 dX9_breaksAlikeWithout_84 rfl (lv_at hl 0 rfl) ?_
            refine zz_gR S K Z hv zc_7 (by decide) gf_X9_18 dX9_breaksAlikeWithout_85 (fun v18 hv => ?_)
            refine lv_iload_n S.1 S.2.1 dX9_breaksAlikeWithout_88 rfl (lv_at hl 3 rfl) ?_
            refine zz_iald S K Z hv dX9_breaksAlikeWithout_89 (fun v19 hv => ?_)
            obtain ⟨hci, hv⟩ := zz_isO_s hv
            obtain ⟨⟨v20, h21⟩, hq, hv⟩ := zz_bd hv
            refine zz_V [.ref (v17), .int (v19)] S K Z hci zc_8 rfl (c_X10_say v16 v17 v19 hq) ⟨rfl, rfl⟩ gm_X10_say gmv_X10_say gl_X9_100 ⟨by decide, by decide⟩ rfl hl.1 rfl (Nat.le_of_ble_eq_true rfl) dX9_breaksAlikeWithout_90 ⟨Nat.zero_le _, Nat.zero_le _⟩ (fun H locs Z => ?_)
            show W _ _ _ _ _ _ _ _ _ _ _ _ 0 0 _ (F0 m 93 ls [.int (v20)])
            refine lv_istore (lv' := [(4, .int (v20)), (0, .ref (a0)), (1, .int (a1)), (2, .int (y2_10)), (3, .int (x3_9))]) S.1 S.2.1 dX9_breaksAlikeWithout_93 hl (by decide) rfl (fun ls hl => ?_)
            refine lv_aload_n S.1 S.2.1 dX9_breaksAlikeWithout_95 rfl (lv_at hl 1 rfl) ?_
            refine lv_aload_n S.1 S.2.1 dX9_breaksAlikeWithout_96 rfl (lv_at hl 1 rfl) ?_
            refine zz_gR S K Z hv zc_7 (by decide) gf_X9_12 dX9_breaksAlikeWithout_97 (fun v22 hv => ?_)
            refine lv_iload S.1 S.2.1 dX9_breaksAlikeWithout_100 (lv_at hl 0 rfl) ?_
            refine lv_iconst (v := (-1 : Int32)) S.1 S.2.1 dX9_breaksAlikeWithout_102 (by decide) ?_
            refine lv_icmp_ge (tgt := 110) S.1 S.2.1 dX9_breaksAlikeWithout_103 (by decide) (fun hc => ?_) (fun hc => ?_)
            · replace hv := (if_pos hc).symm.trans hv
              refine lv_iconst (v := (0 : Int32)) S.1 S.2.1 dX9_breaksAlikeWithout_110 (by decide) ?_
              exact J111 x3_9 (0 : Int32) v22 a0 h21 _ hv hk H locs ls Z (lv_sub hl [1, 2, 3, 4] rfl)
            · replace hv := (if_neg hc).symm.trans hv
              refine lv_iconst (v := (1 : Int32)) S.1 S.2.1 dX9_breaksAlikeWithout_106 (by decide) ?_
              refine lv_goto (tgt := 111) S.1 S.2.1 dX9_breaksAlikeWithout_107 (by decide) ?_
              exact J111 x3_9 (1 : Int32) v22 a0 h21 _ hv hk H locs ls Z (lv_sub hl [1, 2, 3, 4] rfl)
          · replace hv := (if_neg hc).symm.trans hv
            obtain ⟨_, hv, hk⟩ := zz_mapk hv hk
            replace hk := hR1 _ hk
            refine lv_iconst (v := (0 : Int32)) S.1 S.2.1 dX9_breaksAlikeWithout_74 (by decide) ?_
            replace hk := zz_fin hv hk
            obtain ⟨rfl, rfl⟩ := Prod.mk.inj (hR0 _ hk)
            exact zz_zret S Z hret (by decide) hlk dX9_breaksAlikeWithout_75 (Nat.le_refl _) (Nat.le_refl _)
        · replace hv := (if_pos hc).symm.trans hv
          refine lv_goto (tgt := 143) S.1 S.2.1 dX9_breaksAlikeWithout_61 (by decide) ?_
          refine lv_iinc (v := x3_9 + (1 : Int32)) (lv' := [(3, .int (x3_9 + (1 : Int32))), (0, .ref (a0)), (1, .int (a1)), (2, .int (y2_10))]) S.1 S.2.1 dX9_breaksAlikeWithout_143 hl (k := 3) rfl rfl (by decide) rfl (fun ls hl => ?_)
          refine lv_goto (tgt := 42) S.1 S.2.1 dX9_breaksAlikeWithout_146 (by decide) ?_
          replace hk := zz_fin hv hk
          exact hP1 _ hk H locs ls Z (lv_sub hl [1, 2, 3, 0] rfl)
  have J39 : ∀ (s7 : Int32) (h8 : ZH) (x : (Int32 × ZH)), f_X9_breaksAlikeWithout_J39 h a0 a1 s7 h8 = some x → K0 x → ∀ (H : Heap) (locs : List Loc) (ls : Array Slot), zz_B D dA A h8 n s.heap H locs → lv_has ls 6 [(0, .ref (a0)), (1, .int (a1))] → zz_W p l e rm_X9_breaksAlikeWithout s m args below meth c D dA A (some (.int r)) hx n 0 0 H locs 0 0 39 ls [.int (s7)] := by
    intro s7 h8 x hv hk H locs ls Z hl
    unfold f_X9_breaksAlikeWithout_J39 at hv
    refine lv_istore_n (lv' := [(2, .int (s7)), (0, .ref (a0)), (1, .int (a1))]) S.1 S.2.1 dX9_breaksAlikeWithout_39 rfl hl (by decide) rfl (fun ls hl => ?_)
    refine lv_iconst (v := (0 : Int32)) S.1 S.2.1 dX9_breaksAlikeWithout_40 (by decide) ?_
    refine lv_istore_n (lv' := [(3, .int ((0 : Int32))), (2, .int (s7)), (0, .ref (a0)), (1, .int (a1))]) S.1 S.2.1 dX9_breaksAlikeWithout_41 rfl hl (by decide) rfl (fun ls hl => ?_)
    exact L42 s7 ((0 : Int32), h8) _ hv hk H locs ls Z (lv_sub hl [2, 3, 1, 0] rfl)
  have hv := hf
  unfold f_X9_breaksAlikeWithout at hv
  clear hf
  obtain ⟨x, hxx⟩ : ∃ x, x = (r, hx) := ⟨_, rfl⟩
  rw [← hxx] at hv hk
  have ⟨H, hH⟩ : ∃ H, H = s.heap := ⟨_, rfl⟩
  have ⟨locs, hlo⟩ : ∃ q : List Loc, q = [] := ⟨_, rfl⟩
  have Z : zz_B D dA A h n s.heap H locs := by rw [hH, hlo]; exact Z
  have key : zz_W p l e rm_X9_breaksAlikeWithout s m args below meth c D dA A (some (.int r)) hx n 0 0 H locs 0 0 0 ls [] := by
    clear hH hlo hxx
    refine lv_aload_n S.1 S.2.1 dX9_breaksAlikeWithout_0 rfl (lv_at hl 0 rfl) ?_
    refine zz_gR S K Z hv zc_7 (by decide) gf_X9_12 dX9_breaksAlikeWithout_1 (fun v1 hv => ?_)
    refine lv_aload_n S.1 S.2.1 dX9_breaksAlikeWithout_4 rfl (lv_at hl 0 rfl) ?_
    refine zz_gR S K Z hv zc_7 (by decide) gf_X9_22 dX9_breaksAlikeWithout_5 (fun v2 hv => ?_)
    refine zz_gI S K Z hv zc_8 (by decide) gf_X9_95 dX9_breaksAlikeWithout_8 (fun v3 hv => ?_)
    obtain ⟨hci, hv⟩ := zz_isO_s hv
    obtain ⟨h4, hq, hv⟩ := zz_bd hv
    refine zz_V [.int (v3)] S K Z hci zc_3 rfl (c_X4_begin v1 v3 hq) ⟨rfl, rfl⟩ gm_X4_begin gmv_X4_begin gl_X9_98 ⟨by decide, by decide⟩ rfl hl.1 rfl (Nat.le_of_ble_eq_true rfl) dX9_breaksAlikeWithout_11 ⟨Nat.zero_le _, Nat.zero_le _⟩ (fun H locs Z => ?_)
    show W _ _ _ _ _ _ _ _ _ _ _ _ 0 0 _ (F0 m 14 ls [])
    refine lv_iload_n S.1 S.2.1 dX9_breaksAlikeWithout_14 rfl (lv_at hl 1 rfl) ?_
    refine lv_aload_n S.1 S.2.1 dX9_breaksAlikeWithout_15 rfl (lv_at hl 0 rfl) ?_
    refine zz_gI S K Z hv zc_7 (by decide) gf_X9_35 dX9_breaksAlikeWithout_16 (fun v5 hv => ?_)
    refine lv_iconst (v := (1 : Int32)) S.1 S.2.1 dX9_breaksAlikeWithout_19 (by decide) ?_
    refine lv_isub S.1 S.2.1 dX9_breaksAlikeWithout_20 ?_
    refine lv_icmp_ne (tgt := 33) S.1 S.2.1 dX9_breaksAlikeWithout_21 (by decide) (fun hc => ?_) (fun hc => ?_)
    · replace hv := (if_neg hc).symm.trans hv
      refine lv_aload_n S.1 S.2.1 dX9_breaksAlikeWithout_33 rfl (lv_at hl 0 rfl) ?_
      refine zz_gI S K Z hv zc_7 (by decide) gf_X9_35 dX9_breaksAlikeWithout_34 (fun v6 hv => ?_)
      refine lv_iconst (v := (1 : Int32)) S.1 S.2.1 dX9_breaksAlikeWithout_37 (by decide) ?_
      refine lv_isub S.1 S.2.1 dX9_breaksAlikeWithout_38 ?_
      exact J39 (v6 - (1 : Int32)) h4 _ hv hk H locs ls Z (lv_sub hl [0, 1] rfl)
    · replace hv := (if_pos hc).symm.trans hv
      refine lv_aload_n S.1 S.2.1 dX9_breaksAlikeWithout_24 rfl (lv_at hl 0 rfl) ?_
      refine zz_gI S K Z hv zc_7 (by decide) gf_X9_35 dX9_breaksAlikeWithout_25 (fun v30 hv => ?_)
      refine lv_iconst (v := (2 : Int32)) S.1 S.2.1 dX9_breaksAlikeWithout_28 (by decide) ?_
      refine lv_isub S.1 S.2.1 dX9_breaksAlikeWithout_29 ?_
      refine lv_goto (tgt := 39) S.1 S.2.1 dX9_breaksAlikeWithout_30 (by decide) ?_
      exact J39 (v30 - (2 : Int32)) h4 _ hv hk H locs ls Z (lv_sub hl [0, 1] rfl)
  rw [hH, hlo] at key
  exact key

noncomputable def f_X9_firstThatCanGo_L2 (h : ZH) (a0 : Nat) (x1_1 : Int32) (h2 : ZH)  : Option ((Int32 × ZH) ⊕ (Int32 × ZH)) :=
  (zg_I h2 a0 7 4).bind fun v3 => if v3 ≤ x1_1 then ((some (((-1 : Int32), h2))).map Sum.inr) else (zz_isO h2 a0 7 <| (f_X9_breaksAlikeWithout h2 a0 x1_1).bind fun (v4, h5) => if v4 = 0 then (some (.inl (x1_1 + (1 : Int32), h5))) else ((some ((x1_1, h5))).map Sum.inr))
noncomputable def f_X9_firstThatCanGo (h : ZH) (a0 : Nat) : Option (Int32 × ZH) :=
  zz_loop (fun st : (Int32 × ZH) => f_X9_firstThatCanGo_L2 h a0 (st.1) (st.2)) ((0 : Int32), h)
abbrev rm_X9_firstThatCanGo : Room := { frames := 5, cells := 0, slots := 0, locals := 119 }
set_option maxRecDepth 100000 in
set_option maxHeartbeats 4000000 in
theorem c_X9_firstThatCanGo {l : Launch} {D : va_G} {dA : Nat → ClassId} {A : Nat → Prop} {h : ZH} {n : Nat} (a0 : Nat) {r : Int32} {hx : ZH} (hf : f_X9_firstThatCanGo h a0 = some (r, hx)) : Met l yX9_firstThatCanGo (zz_ws yX9_firstThatCanGo cX9_firstThatCanGo 2 (some .int)) rm_X9_firstThatCanGo (zz_P D dA A h n [.ref (a0)]) (zz_Q D dA A (some (.int r)) hx n) 0 0 A := by
  refine zz_met (by decide) (Nat.le_of_ble_eq_true rfl) ?_
  intro p e s m args below meth c ls S K hret hlk hnm hl Z
  replace hl : lv_has ls 2 [(0, .ref (a0))] := hl
  obtain ⟨K0, hR0, hk⟩ : ∃ K0 : (Int32 × ZH) → Prop, (∀ x, K0 x → x = (r, hx)) ∧ K0 (r, hx) := ⟨fun x => x = (r, hx), fun _ h => h, rfl⟩
  have L2 : ∀ (st : (Int32 × ZH)) (x : (Int32 × ZH)), zz_loop (fun st : (Int32 × ZH) => f_X9_firstThatCanGo_L2 h a0 (st.1) (st.2)) st = some x → K0 x → (fun st : (Int32 × ZH) => ∀ (H : Heap) (locs : List Loc) (ls : Array Slot), zz_B D dA A (st.2) n s.heap H locs → lv_has ls 2 [(0, .ref (a0)), (1, .int ((st.1)))] → zz_W p l e rm_X9_firstThatCanGo s m args below meth c D dA A (some (.int r)) hx n 0 0 H locs 0 0 2 ls []) st := by
    refine zz_loop_go (K := K0) ?_
    intro K1 hP1 hR1
    rintro ⟨x1_1, h2⟩ x hv hk H locs ls Z hl
    replace hv : f_X9_firstThatCanGo_L2 h a0 x1_1 h2 = some x := hv
    unfold f_X9_firstThatCanGo_L2 at hv
    replace hl : lv_has ls 2 [(0, .ref (a0)), (1, .int (x1_1))] := hl
    replace Z : zz_B D dA A h2 n s.heap H locs := Z
    show zz_W p l e rm_X9_firstThatCanGo s m args below meth c D dA A (some (.int r)) hx n 0 0 H locs 0 0 2 ls []
    refine lv_iload_n S.1 S.2.1 dX9_firstThatCanGo_2 rfl (lv_at hl 1 rfl) ?_
    refine lv_aload_n S.1 S.2.1 dX9_firstThatCanGo_3 rfl (lv_at hl 0 rfl) ?_
    refine zz_gI S K Z hv zc_7 (by decide) gf_X9_35 dX9_firstThatCanGo_4 (fun v3 hv => ?_)
    refine lv_icmp_ge (tgt := 26) S.1 S.2.1 dX9_firstThatCanGo_7 (by decide) (fun hc => ?_) (fun hc => ?_)
    · replace hv := (if_pos hc).symm.trans hv
      obtain ⟨_, hv, hk⟩ := zz_mapk hv hk
      replace hk := hR1 _ hk
      refine lv_iconst (v := (-1 : Int32)) S.1 S.2.1 dX9_firstThatCanGo_26 (by decide) ?_
      replace hk := zz_fin hv hk
      obtain ⟨rfl, rfl⟩ := Prod.mk.inj (hR0 _ hk)
      exact zz_iret S Z hret hlk dX9_firstThatCanGo_27 (Nat.le_refl _) (Nat.le_refl _)
    · replace hv := (if_neg hc).symm.trans hv
      refine lv_aload_n S.1 S.2.1 dX9_firstThatCanGo_10 rfl (lv_at hl 0 rfl) ?_
      refine lv_iload_n S.1 S.2.1 dX9_firstThatCanGo_11 rfl (lv_at hl 1 rfl) ?_
      obtain ⟨hci, hv⟩ := zz_isO_s hv
      obtain ⟨⟨v4, h5⟩, hq, hv⟩ := zz_bd hv
      refine zz_V [.int (x1_1)] S K Z hci zc_7 rfl (c_X9_breaksAlikeWithout a0 x1_1 hq) ⟨rfl, rfl⟩ gm_X9_breaksAlikeWithout gmv_X9_breaksAlikeWithout gl_X9_91 ⟨by decide, by decide⟩ rfl hl.1 rfl (Nat.le_of_ble_eq_true rfl) dX9_firstThatCanGo_12 ⟨Nat.zero_le _, Nat.zero_le _⟩ (fun H locs Z => ?_)
      show W _ _ _ _ _ _ _ _ _ _ _ _ 0 0 _ (F0 m 15 ls [.int (v4)])
      refine lv_if_eq (tgt := 20) S.1 S.2.1 dX9_firstThatCanGo_15 (by decide) (fun hc => ?_) (fun hc => ?_)
      · replace hv := (if_pos hc).symm.trans hv
        refine lv_iinc (v := x1_1 + (1 : Int32)) (lv' := [(1, .int (x1_1 + (1 : Int32))), (0, .ref (a0))]) S.1 S.2.1 dX9_firstThatCanGo_20 hl (k := 1) rfl rfl (by decide) rfl (fun ls hl => ?_)
        refine lv_goto (tgt := 2) S.1 S.2.1 dX9_firstThatCanGo_23 (by decide) ?_
        replace hk := zz_fin hv hk
        exact hP1 _ hk H locs ls Z (lv_sub hl [1, 0] rfl)
      · replace hv := (if_neg hc).symm.trans hv
        obtain ⟨_, hv, hk⟩ := zz_mapk hv hk
        replace hk := hR1 _ hk
        refine lv_iload_n S.1 S.2.1 dX9_firstThatCanGo_18 rfl (lv_at hl 1 rfl) ?_
        replace hk := zz_fin hv hk
        obtain ⟨rfl, rfl⟩ := Prod.mk.inj (hR0 _ hk)
        exact zz_iret S Z hret hlk dX9_firstThatCanGo_19 (Nat.le_refl _) (Nat.le_refl _)
  have hv := hf
  unfold f_X9_firstThatCanGo at hv
  clear hf
  obtain ⟨x, hxx⟩ : ∃ x, x = (r, hx) := ⟨_, rfl⟩
  rw [← hxx] at hv hk
  have ⟨H, hH⟩ : ∃ H, H = s.heap := ⟨_, rfl⟩
  have ⟨locs, hlo⟩ : ∃ q : List Loc, q = [] := ⟨_, rfl⟩
  have Z : zz_B D dA A h n s.heap H locs := by rw [hH, hlo]; exact Z
  have key : zz_W p l e rm_X9_firstThatCanGo s m args below meth c D dA A (some (.int r)) hx n 0 0 H locs 0 0 0 ls [] := by
    clear hH hlo hxx
    refine lv_iconst (v := (0 : Int32)) S.1 S.2.1 dX9_firstThatCanGo_0 (by decide) ?_
    refine lv_istore_n (lv' := [(1, .int ((0 : Int32))), (0, .ref (a0))]) S.1 S.2.1 dX9_firstThatCanGo_1 rfl hl (by decide) rfl (fun ls hl => ?_)
    exact L2  ((0 : Int32), h) _ hv hk H locs ls Z (lv_sub hl [1, 0] rfl)
  rw [hH, hlo] at key
  exact key

noncomputable def f_X9_drop_J47 (h : ZH) (a0 : Nat) (a1 : Int32) (h3 : ZH) : Option (ZH) :=
  (zg_I h3 a0 7 4).bind fun v4 => (zp_V h3 a0 7 4 (.int (v4 - (1 : Int32)))).bind fun h5 => some (h5)
noncomputable def f_X9_drop_L2 (h : ZH) (a0 : Nat) (a1 : Int32) (x2_1 : Int32) (h2 : ZH)  : Option ((Int32 × ZH) ⊕ (ZH)) :=
  if x2_1 < 0 then ((f_X9_drop_J47 h a0 a1 h2).map Sum.inr) else ((zg_I h2 a0 7 4).bind fun v6 => if (v6 - (1 : Int32)) ≤ x2_1 then ((f_X9_drop_J47 h a0 a1 h2).map Sum.inr) else ((zg_R h2 a0 7 3).bind fun v7 => (zl_N h2 v7 1).bind fun v8 => if (v8 - (1 : Int32)) ≤ x2_1 then ((f_X9_drop_J47 h a0 a1 h2).map Sum.inr) else ((zg_R h2 a0 7 3).bind fun v9 => (zg_R h2 a0 7 3).bind fun v10 => (zl_I h2 v10 1 (x2_1 + (1 : Int32))).bind fun v11 => (zs_I h2 v9 1 x2_1 v11).bind fun h12 => some (.inl (x2_1 + (1 : Int32), h12)))))
noncomputable def f_X9_drop (h : ZH) (a0 : Nat) (a1 : Int32) : Option (ZH) :=
  zz_loop (fun st : (Int32 × ZH) => f_X9_drop_L2 h a0 a1 (st.1) (st.2)) (a1, h)
abbrev rm_X9_drop : Room := { frames := 0, cells := 0, slots := 0, locals := 0 }
set_option maxRecDepth 100000 in
set_option maxHeartbeats 4000000 in
theorem c_X9_drop {l : Launch} {D : va_G} {dA : Nat → ClassId} {A : Nat → Prop} {h : ZH} {n : Nat} (a0 : Nat) (a1 : Int32) {hx : ZH} (hf : f_X9_drop h a0 a1 = some hx) : Met l yX9_drop (zz_ws yX9_drop cX9_drop 3 none) rm_X9_drop (zz_P D dA A h n [.ref (a0), .int (a1)]) (zz_Q D dA A (none) hx n) 0 0 A := by
  refine zz_met (by decide) (Nat.le_of_ble_eq_true rfl) ?_
  intro p e s m args below meth c ls S K hret hlk hnm hl Z
  replace hl : lv_has ls 3 [(0, .ref (a0)), (1, .int (a1))] := hl
  obtain ⟨K0, hR0, hk⟩ : ∃ K0 : (ZH) → Prop, (∀ x, K0 x → x = hx) ∧ K0 hx := ⟨fun x => x = hx, fun _ h => h, rfl⟩
  have J47 : ∀ (h3 : ZH) (x : (ZH)), f_X9_drop_J47 h a0 a1 h3 = some x → K0 x → ∀ (H : Heap) (locs : List Loc) (ls : Array Slot), zz_B D dA A h3 n s.heap H locs → lv_has ls 3 [(0, .ref (a0))] → zz_W p l e rm_X9_drop s m args below meth c D dA A (none) hx n 0 0 H locs 0 0 47 ls [] := by
    intro h3 x hv hk H locs ls Z hl
    unfold f_X9_drop_J47 at hv
    refine lv_aload_n S.1 S.2.1 dX9_drop_47 rfl (lv_at hl 0 rfl) ?_
    refine lv_dup S.1 S.2.1 dX9_drop_48 rfl ?_
    refine zz_gI S K Z hv zc_7 (by decide) gf_X9_35 dX9_drop_49 (fun v4 hv => ?_)
    refine lv_iconst (v := (1 : Int32)) S.1 S.2.1 dX9_drop_52 (by decide) ?_
    refine lv_isub S.1 S.2.1 dX9_drop_53 ?_
    refine zz_put S K Z hv zc_7 (by decide) gf_X9_35 rfl rfl rfl dX9_drop_54 (fun h5 H locs hv Z => ?_)
    replace hk := zz_fin hv hk
    obtain rfl := hR0 _ hk
    exact zz_vret S Z hret hlk dX9_drop_57 (Nat.le_refl _) (Nat.le_refl _)
  have L2 : ∀ (st : (Int32 × ZH)) (x : (ZH)), zz_loop (fun st : (Int32 × ZH) => f_X9_drop_L2 h a0 a1 (st.1) (st.2)) st = some x → K0 x → (fun st : (Int32 × ZH) => ∀ (H : Heap) (locs : List Loc) (ls : Array Slot), zz_B D dA A (st.2) n s.heap H locs → lv_has ls 3 [(0, .ref (a0)), (2, .int ((st.1)))] → zz_W p l e rm_X9_drop s m args below meth c D dA A (none) hx n 0 0 H locs 0 0 2 ls []) st := by
    refine zz_loop_go (K := K0) ?_
    intro K1 hP1 hR1
    rintro ⟨x2_1, h2⟩ x hv hk H locs ls Z hl
    replace hv : f_X9_drop_L2 h a0 a1 x2_1 h2 = some x := hv
    unfold f_X9_drop_L2 at hv
    replace hl : lv_has ls 3 [(0, .ref (a0)), (2, .int (x2_1))] := hl
    replace Z : zz_B D dA A h2 n s.heap H locs := Z
    show zz_W p l e rm_X9_drop s m args below meth c D dA A (none) hx n 0 0 H locs 0 0 2 ls []
    refine lv_iload_n S.1 S.2.1 dX9_drop_2 rfl (lv_at hl 1 rfl) ?_
    refine lv_if_lt (tgt := 47) S.1 S.2.1 dX9_drop_3 (by decide) (fun hc => ?_) (fun hc => ?_)
    · replace hv := (if_pos hc).symm.trans hv
      obtain ⟨_, hv, hk⟩ := zz_mapk hv hk
      replace hk := hR1 _ hk
      exact J47 h2 _ hv hk H locs ls Z (lv_sub hl [0] rfl)
    · replace hv := (if_neg hc).symm.trans hv
      refine lv_iload_n S.1 S.2.1 dX9_drop_6 rfl (lv_at hl 1 rfl) ?_
      refine lv_aload_n S.1 S.2.1 dX9_drop_7 rfl (lv_at hl 0 rfl) ?_
      refine zz_gI S K Z hv zc_7 (by decide) gf_X9_35 dX9_drop_8 (fun v6 hv => ?_)
      refine lv_iconst (v := (1 : Int32)) S.1 S.2.1 dX9_drop_11 (by decide) ?_
      refine lv_isub S.1 S.2.1 dX9_drop_12 ?_
      refine lv_icmp_ge (tgt := 47) S.1 S.2.1 dX9_drop_13 (by decide) (fun hc => ?_) (fun hc => ?_)
      · replace hv := (if_pos hc).symm.trans hv
        obtain ⟨_, hv, hk⟩ := zz_mapk hv hk
        replace hk := hR1 _ hk
        exact J47 h2 _ hv hk H locs ls Z (lv_sub hl [0] rfl)
      · replace hv := (if_neg hc).symm.trans hv
        refine lv_iload_n S.1 S.2.1 dX9_drop_16 rfl (lv_at hl 1 rfl) ?_
        refine lv_aload_n S.1 S.2.1 dX9_drop_17 rfl (lv_at hl 0 rfl) ?_
        refine zz_gR S K Z hv zc_7 (by decide) gf_X9_18 dX9_drop_18 (fun v7 hv => ?_)
        refine zz_alen S K Z hv rfl dX9_drop_21 (fun v8 hv => ?_)
        refine lv_iconst (v := (1 : Int32)) S.1 S.2.1 dX9_drop_22 (by decide) ?_
        refine lv_isub S.1 S.2.1 dX9_drop_23 ?_
        refine lv_icmp_ge (tgt := 47) S.1 S.2.1 dX9_drop_24 (by decide) (fun hc => ?_) (fun hc => ?_)
        · replace hv := (if_pos hc).symm.trans hv
          obtain ⟨_, hv, hk⟩ := zz_mapk hv hk
          replace hk := hR1 _ hk
          exact J47 h2 _ hv hk H locs ls Z (lv_sub hl [0] rfl)
        · replace hv := (if_neg hc).symm.trans hv
          refine lv_aload_n S.1 S.2.1 dX9_drop_27 rfl (lv_at hl 0 rfl) ?_
          refine zz_gR S K Z hv zc_7 (by decide) gf_X9_18 dX9_drop_28 (fun v9 hv => ?_)
          refine lv_iload_n S.1 S.2.1 dX9_drop_31 rfl (lv_at hl 1 rfl) ?_
          refine lv_aload_n S.1 S.2.1 dX9_drop_32 rfl (lv_at hl 0 rfl) ?_
          refine zz_gR S K Z hv zc_7 (by decide) gf_X9_18 dX9_drop_33 (fun v10 hv => ?_)
          refine lv_iload_n S.1 S.2.1 dX9_drop_36 rfl (lv_at hl 1 rfl) ?_
          refine lv_iconst (v := (1 : Int32)) S.1 S.2.1 dX9_drop_37 (by decide) ?_
          refine lv_iadd S.1 S.2.1 dX9_drop_38 ?_
          refine zz_iald S K Z hv dX9_drop_39 (fun v11 hv => ?_)
          refine zz_iast S K Z hv dX9_drop_40 (fun h12 H locs hv Z => ?_)
          refine lv_iinc (v := x2_1 + (1 : Int32)) (lv' := [(2, .int (x2_1 + (1 : Int32))), (0, .ref (a0))]) S.1 S.2.1 dX9_drop_41 hl (k := 1) rfl rfl (by decide) rfl (fun ls hl => ?_)
          refine lv_goto (tgt := 2) S.1 S.2.1 dX9_drop_44 (by decide) ?_
          replace hk := zz_fin hv hk
          exact hP1 _ hk H locs ls Z (lv_sub hl [1, 0] rfl)
  have hv := hf
  unfold f_X9_drop at hv
  clear hf
  obtain ⟨x, hxx⟩ : ∃ x, x = hx := ⟨_, rfl⟩
  rw [← hxx] at hv hk
  have ⟨H, hH⟩ : ∃ H, H = s.heap := ⟨_, rfl⟩
  have ⟨locs, hlo⟩ : ∃ q : List Loc, q = [] := ⟨_, rfl⟩
  have Z : zz_B D dA A h n s.heap H locs := by rw [hH, hlo]; exact Z
  have key : zz_W p l e rm_X9_drop s m args below meth c D dA A (none) hx n 0 0 H locs 0 0 0 ls [] := by
    clear hH hlo hxx
    refine lv_iload_n S.1 S.2.1 dX9_drop_0 rfl (lv_at hl 1 rfl) ?_
    refine lv_istore_n (lv' := [(2, .int (a1)), (0, .ref (a0)), (1, .int (a1))]) S.1 S.2.1 dX9_drop_1 rfl hl (by decide) rfl (fun ls hl => ?_)
    exact L2  (a1, h) _ hv hk H locs ls Z (lv_sub hl [1, 0] rfl)
  rw [hH, hlo] at key
  exact key

noncomputable def f_X9_shorten_J35 (h : ZH) (a0 : Nat) (h5 : ZH) : Option (Int32 × ZH) :=
  (zg_I h5 a0 7 4).bind fun v6 => some ((v6, h5))
noncomputable def f_X9_shorten_L2 (h : ZH) (a0 : Nat) (x1_1 : Int32) (h2 : ZH)  : Option ((Int32 × ZH) ⊕ (Int32 × ZH)) :=
  (zg_R h2 a0 7 3).bind fun v3 => (zl_N h2 v3 1).bind fun v4 => if v4 ≤ x1_1 then ((f_X9_shorten_J35 h a0 h2).map Sum.inr) else (zz_isO h2 a0 7 <| (f_X9_firstThatCanGo h2 a0).bind fun (v7, h8) => if v7 = (-1 : Int32) then ((f_X9_shorten_J35 h a0 h8).map Sum.inr) else (zz_isO h8 a0 7 <| (f_X9_drop h8 a0 v7).bind fun h9 => some (.inl (x1_1 + (1 : Int32), h9))))
noncomputable def f_X9_shorten (h : ZH) (a0 : Nat) : Option (Int32 × ZH) :=
  zz_loop (fun st : (Int32 × ZH) => f_X9_shorten_L2 h a0 (st.1) (st.2)) ((0 : Int32), h)
abbrev rm_X9_shorten : Room := { frames := 6, cells := 0, slots := 0, locals := 140 }
set_option maxRecDepth 100000 in
set_option maxHeartbeats 4000000 in
theorem c_X9_shorten {l : Launch} {D : va_G} {dA : Nat → ClassId} {A : Nat → Prop} {h : ZH} {n : Nat} (a0 : Nat) {r : Int32} {hx : ZH} (hf : f_X9_shorten h a0 = some (r, hx)) : Met l yX9_shorten (zz_ws yX9_shorten cX9_shorten 3 (some .int)) rm_X9_shorten (zz_P D dA A h n [.ref (a0)]) (zz_Q D dA A (some (.int r)) hx n) 0 0 A := by
  refine zz_met (by decide) (Nat.le_of_ble_eq_true rfl) ?_
  intro p e s m args below meth c ls S K hret hlk hnm hl Z
  replace hl : lv_has ls 3 [(0, .ref (a0))] := hl
  obtain ⟨K0, hR0, hk⟩ : ∃ K0 : (Int32 × ZH) → Prop, (∀ x, K0 x → x = (r, hx)) ∧ K0 (r, hx) := ⟨fun x => x = (r, hx), fun _ h => h, rfl⟩
  have J35 : ∀ (h5 : ZH) (x : (Int32 × ZH)), f_X9_shorten_J35 h a0 h5 = some x → K0 x → ∀ (H : Heap) (locs : List Loc) (ls : Array Slot), zz_B D dA A h5 n s.heap H locs → lv_has ls 3 [(0, .ref (a0))] → zz_W p l e rm_X9_shorten s m args below meth c D dA A (some (.int r)) hx n 0 0 H locs 0 0 35 ls [] := by
    intro h5 x hv hk H locs ls Z hl
    unfold f_X9_shorten_J35 at hv
    refine lv_aload_n S.1 S.2.1 dX9_shorten_35 rfl (lv_at hl 0 rfl) ?_
    refine zz_gI S K Z hv zc_7 (by decide) gf_X9_35 dX9_shorten_36 (fun v6 hv => ?_)
    replace hk := zz_fin hv hk
    obtain ⟨rfl, rfl⟩ := Prod.mk.inj (hR0 _ hk)
    exact zz_iret S Z hret hlk dX9_shorten_39 (Nat.le_refl _) (Nat.le_refl _)
  have L2 : ∀ (st : (Int32 × ZH)) (x : (Int32 × ZH)), zz_loop (fun st : (Int32 × ZH) => f_X9_shorten_L2 h a0 (st.1) (st.2)) st = some x → K0 x → (fun st : (Int32 × ZH) => ∀ (H : Heap) (locs : List Loc) (ls : Array Slot), zz_B D dA A (st.2) n s.heap H locs → lv_has ls 3 [(0, .ref (a0)), (1, .int ((st.1)))] → zz_W p l e rm_X9_shorten s m args below meth c D dA A (some (.int r)) hx n 0 0 H locs 0 0 2 ls []) st := by
    refine zz_loop_go (K := K0) ?_
    intro K1 hP1 hR1
    rintro ⟨x1_1, h2⟩ x hv hk H locs ls Z hl
    replace hv : f_X9_shorten_L2 h a0 x1_1 h2 = some x := hv
    unfold f_X9_shorten_L2 at hv
    replace hl : lv_has ls 3 [(0, .ref (a0)), (1, .int (x1_1))] := hl
    replace Z : zz_B D dA A h2 n s.heap H locs := Z
    show zz_W p l e rm_X9_shorten s m args below meth c D dA A (some (.int r)) hx n 0 0 H locs 0 0 2 ls []
    refine lv_iload_n S.1 S.2.1 dX9_shorten_2 rfl (lv_at hl 1 rfl) ?_
    refine lv_aload_n S.1 S.2.1 dX9_shorten_3 rfl (lv_at hl 0 rfl) ?_
    refine zz_gR S K Z hv zc_7 (by decide) gf_X9_18 dX9_shorten_4 (fun v3 hv => ?_)
    refine zz_alen S K Z hv rfl dX9_shorten_7 (fun v4 hv => ?_)
    refine lv_icmp_ge (tgt := 35) S.1 S.2.1 dX9_shorten_8 (by decide) (fun hc => ?_) (fun hc => ?_)
    · replace hv := (if_pos hc).symm.trans hv
      obtain ⟨_, hv, hk⟩ := zz_mapk hv hk
      replace hk := hR1 _ hk
      exact J35 h2 _ hv hk H locs ls Z (lv_sub hl [0] rfl)
    · replace hv := (if_neg hc).symm.trans hv
      refine lv_aload_n S.1 S.2.1 dX9_shorten_11 rfl (lv_at hl 0 rfl) ?_
      obtain ⟨hci, hv⟩ := zz_isO_s hv
      obtain ⟨⟨v7, h8⟩, hq, hv⟩ := zz_bd hv
      refine zz_V [] S K Z hci zc_7 rfl (c_X9_firstThatCanGo a0 hq) ⟨rfl, rfl⟩ gm_X9_firstThatCanGo gmv_X9_firstThatCanGo gl_X9_83 ⟨by decide, by decide⟩ rfl hl.1 rfl (Nat.le_of_ble_eq_true rfl) dX9_shorten_12 ⟨Nat.zero_le _, Nat.zero_le _⟩ (fun H locs Z => ?_)
      show W _ _ _ _ _ _ _ _ _ _ _ _ 0 0 _ (F0 m 15 ls [.int (v7)])
      refine lv_istore_n (lv' := [(2, .int (v7)), (0, .ref (a0)), (1, .int (x1_1))]) S.1 S.2.1 dX9_shorten_15 rfl hl (by decide) rfl (fun ls hl => ?_)
      refine lv_iload_n S.1 S.2.1 dX9_shorten_16 rfl (lv_at hl 0 rfl) ?_
      refine lv_iconst (v := (-1 : Int32)) S.1 S.2.1 dX9_shorten_17 (by decide) ?_
      refine lv_icmp_ne (tgt := 24) S.1 S.2.1 dX9_shorten_18 (by decide) (fun hc => ?_) (fun hc => ?_)
      · replace hv := (if_neg hc).symm.trans hv
        refine lv_aload_n S.1 S.2.1 dX9_shorten_24 rfl (lv_at hl 1 rfl) ?_
        refine lv_iload_n S.1 S.2.1 dX9_shorten_25 rfl (lv_at hl 0 rfl) ?_
        obtain ⟨hci, hv⟩ := zz_isO_s hv
        obtain ⟨h9, hq, hv⟩ := zz_bd hv
        refine zz_V [.int (v7)] S K Z hci zc_7 rfl (c_X9_drop a0 v7 hq) ⟨rfl, rfl⟩ gm_X9_drop gmv_X9_drop gl_X9_87 ⟨by decide, by decide⟩ rfl hl.1 rfl (Nat.le_of_ble_eq_true rfl) dX9_shorten_26 ⟨Nat.zero_le _, Nat.zero_le _⟩ (fun H locs Z => ?_)
        show W _ _ _ _ _ _ _ _ _ _ _ _ 0 0 _ (F0 m 29 ls [])
        refine lv_iinc (v := x1_1 + (1 : Int32)) (lv' := [(1, .int (x1_1 + (1 : Int32))), (2, .int (v7)), (0, .ref (a0))]) S.1 S.2.1 dX9_shorten_29 hl (k := 2) rfl rfl (by decide) rfl (fun ls hl => ?_)
        refine lv_goto (tgt := 2) S.1 S.2.1 dX9_shorten_32 (by decide) ?_
        replace hk := zz_fin hv hk
        exact hP1 _ hk H locs ls Z (lv_sub hl [2, 0] rfl)
      · replace hv := (if_pos hc).symm.trans hv
        obtain ⟨_, hv, hk⟩ := zz_mapk hv hk
        replace hk := hR1 _ hk
        refine lv_goto (tgt := 35) S.1 S.2.1 dX9_shorten_21 (by decide) ?_
        exact J35 h8 _ hv hk H locs ls Z (lv_sub hl [1] rfl)
  have hv := hf
  unfold f_X9_shorten at hv
  clear hf
  obtain ⟨x, hxx⟩ : ∃ x, x = (r, hx) := ⟨_, rfl⟩
  rw [← hxx] at hv hk
  have ⟨H, hH⟩ : ∃ H, H = s.heap := ⟨_, rfl⟩
  have ⟨locs, hlo⟩ : ∃ q : List Loc, q = [] := ⟨_, rfl⟩
  have Z : zz_B D dA A h n s.heap H locs := by rw [hH, hlo]; exact Z
  have key : zz_W p l e rm_X9_shorten s m args below meth c D dA A (some (.int r)) hx n 0 0 H locs 0 0 0 ls [] := by
    clear hH hlo hxx
    refine lv_iconst (v := (0 : Int32)) S.1 S.2.1 dX9_shorten_0 (by decide) ?_
    refine lv_istore_n (lv' := [(1, .int ((0 : Int32))), (0, .ref (a0))]) S.1 S.2.1 dX9_shorten_1 rfl hl (by decide) rfl (fun ls hl => ?_)
    exact L2  ((0 : Int32), h) _ hv hk H locs ls Z (lv_sub hl [1, 0] rfl)
  rw [hH, hlo] at key
  exact key

noncomputable def f_X11_shrink (h : ZH) (a0 : Nat) : Option (Int32 × ZH) :=
  (zg_R h a0 9 4).bind fun v1 => (zg_I h v1 7 5).bind fun v2 => if v2 = 0 then (some (((-4 : Int32), h))) else ((zg_R h a0 9 4).bind fun v3 => zz_isO h v3 7 <| (f_X9_shorten h v3).bind fun (v4, h5) => some ((v4, h5)))
abbrev rm_X11_shrink : Room := { frames := 7, cells := 0, slots := 0, locals := 162 }
set_option maxRecDepth 100000 in
set_option maxHeartbeats 4000000 in
theorem c_X11_shrink {l : Launch} {D : va_G} {dA : Nat → ClassId} {A : Nat → Prop} {h : ZH} {n : Nat} (a0 : Nat) {r : Int32} {hx : ZH} (hf : f_X11_shrink h a0 = some (r, hx)) : Met l yX11_shrink (zz_ws yX11_shrink cX11_shrink 1 (some .int)) rm_X11_shrink (zz_P D dA A h n [.ref (a0)]) (zz_Q D dA A (some (.int r)) hx n) 0 0 A := by
  refine zz_met (by decide) (Nat.le_of_ble_eq_true rfl) ?_
  intro p e s m args below meth c ls S K hret hlk hnm hl Z
  replace hl : lv_has ls 1 [(0, .ref (a0))] := hl
  obtain ⟨K0, hR0, hk⟩ : ∃ K0 : (Int32 × ZH) → Prop, (∀ x, K0 x → x = (r, hx)) ∧ K0 (r, hx) := ⟨fun x => x = (r, hx), fun _ h => h, rfl⟩
  have hv := hf
  unfold f_X11_shrink at hv
  clear hf
  obtain ⟨x, hxx⟩ : ∃ x, x = (r, hx) := ⟨_, rfl⟩
  rw [← hxx] at hv hk
  have ⟨H, hH⟩ : ∃ H, H = s.heap := ⟨_, rfl⟩
  have ⟨locs, hlo⟩ : ∃ q : List Loc, q = [] := ⟨_, rfl⟩
  have Z : zz_B D dA A h n s.heap H locs := by rw [hH, hlo]; exact Z
  have key : zz_W p l e rm_X11_shrink s m args below meth c D dA A (some (.int r)) hx n 0 0 H locs 0 0 0 ls [] := by
    clear hH hlo hxx
    refine lv_aload_n S.1 S.2.1 dX11_shrink_0 rfl (lv_at hl 0 rfl) ?_
    refine zz_gR S K Z hv zc_9 (by decide) gf_X11_50 dX11_shrink_1 (fun v1 hv => ?_)
    refine zz_gI S K Z hv zc_7 (by decide) gf_X11_230 dX11_shrink_4 (fun v2 hv => ?_)
    refine lv_if_ne (tgt := 13) S.1 S.2.1 dX11_shrink_7 (by decide) (fun hc => ?_) (fun hc => ?_)
    · replace hv := (if_neg hc).symm.trans hv
      refine lv_aload_n S.1 S.2.1 dX11_shrink_13 rfl (lv_at hl 0 rfl) ?_
      refine zz_gR S K Z hv zc_9 (by decide) gf_X11_50 dX11_shrink_14 (fun v3 hv => ?_)
      obtain ⟨hci, hv⟩ := zz_isO_s hv
      obtain ⟨⟨v4, h5⟩, hq, hv⟩ := zz_bd hv
      refine zz_V [] S K Z hci zc_7 rfl (c_X9_shorten v3 hq) ⟨rfl, rfl⟩ gm_X9_shorten gmv_X9_shorten gl_X11_233 ⟨by decide, by decide⟩ rfl hl.1 rfl (Nat.le_of_ble_eq_true rfl) dX11_shrink_17 ⟨Nat.zero_le _, Nat.zero_le _⟩ (fun H locs Z => ?_)
      show W _ _ _ _ _ _ _ _ _ _ _ _ 0 0 _ (F0 m 20 ls [.int (v4)])
      replace hk := zz_fin hv hk
      obtain ⟨rfl, rfl⟩ := Prod.mk.inj (hR0 _ hk)
      exact zz_iret S Z hret hlk dX11_shrink_20 (Nat.le_refl _) (Nat.le_refl _)
    · replace hv := (if_pos hc).symm.trans hv
      refine lv_bipush (v := (-4 : Int32)) S.1 S.2.1 dX11_shrink_10 (by decide) ?_
      replace hk := zz_fin hv hk
      obtain ⟨rfl, rfl⟩ := Prod.mk.inj (hR0 _ hk)
      exact zz_iret S Z hret hlk dX11_shrink_12 (Nat.le_refl _) (Nat.le_refl _)
  rw [hH, hlo] at key
  exact key

noncomputable def f_X11_state (h : ZH) (a0 : Nat) (a1 : Int32) : Option (Int32) :=
  if a1 = (0 : Int32) then ((zg_R h a0 9 2).bind fun v1 => (zg_R h v1 6 1).bind fun v2 => (zg_I h v2 3 1).bind fun v3 => some (v3)) else (if a1 = (1 : Int32) then ((zg_R h a0 9 2).bind fun v4 => (zg_R h v4 6 1).bind fun v5 => (zg_I h v5 3 3).bind fun v6 => some (v6)) else (if a1 = (2 : Int32) then ((zg_R h a0 9 2).bind fun v7 => (zg_R h v7 6 1).bind fun v8 => (zg_I h v8 3 2).bind fun v9 => some (v9)) else (if a1 = (3 : Int32) then ((zg_R h a0 9 2).bind fun v10 => (zg_R h v10 6 1).bind fun v11 => (zg_I h v11 3 4).bind fun v12 => some (v12)) else ((f_X11_inside h a1 (4 : Int32) (11 : Int32)).bind fun v13 => if v13 = 0 then (some ((-3 : Int32))) else ((zg_R h a0 9 2).bind fun v14 => (zg_R h v14 6 1).bind fun v15 => zz_isO h v15 3 <| (f_X4_flag h v15 (a1 - (4 : Int32))).bind fun v16 => some (v16))))))
abbrev rm_X11_state : Room := { frames := 1, cells := 0, slots := 0, locals := 22 }
set_option maxRecDepth 100000 in
set_option maxHeartbeats 4000000 in
theorem c_X11_state {l : Launch} {D : va_G} {dA : Nat → ClassId} {A : Nat → Prop} {h : ZH} {n : Nat} (a0 : Nat) (a1 : Int32) {r : Int32} (hf : f_X11_state h a0 a1 = some r) : Met l yX11_state (zz_ws yX11_state cX11_state 2 (some .int)) rm_X11_state (zz_P D dA A h n [.ref (a0), .int (a1)]) (zz_Q D dA A (some (.int r)) h n) 0 0 A := by
  refine zz_met (by decide) (Nat.le_of_ble_eq_true rfl) ?_
  intro p e s m args below meth c ls S K hret hlk hnm hl Z
  replace hl : lv_has ls 2 [(0, .ref (a0)), (1, .int (a1))] := hl
  obtain ⟨K0, hR0, hk⟩ : ∃ K0 : (Int32) → Prop, (∀ x, K0 x → x = r) ∧ K0 r := ⟨fun x => x = r, fun _ h => h, rfl⟩
  have hv := hf
  unfold f_X11_state at hv
  clear hf
  obtain ⟨x, hxx⟩ : ∃ x, x = r := ⟨_, rfl⟩
  rw [← hxx] at hv hk
  have ⟨H, hH⟩ : ∃ H, H = s.heap := ⟨_, rfl⟩
  have ⟨locs, hlo⟩ : ∃ q : List Loc, q = [] := ⟨_, rfl⟩
  have Z : zz_B D dA A h n s.heap H locs := by rw [hH, hlo]; exact Z
  have key : zz_W p l e rm_X11_state s m args below meth c D dA A (some (.int r)) h n 0 0 H locs 0 0 0 ls [] := by
    clear hH hlo hxx
    refine lv_iload_n S.1 S.2.1 dX11_state_0 rfl (lv_at hl 1 rfl) ?_
    by_cases hc0 : a1 = (0 : Int32)
    · replace hv := (if_pos hc0).symm.trans hv
      refine lv_tableIn (tgt := 32) S.1 S.2.1 dX11_state_1 (by rw [hc0]; decide) (by rw [hc0]; decide) (by rw [hc0]; rfl) (by decide) ?_
      refine lv_aload_n S.1 S.2.1 dX11_state_32 rfl (lv_at hl 0 rfl) ?_
      refine zz_gR S K Z hv zc_9 (by decide) gf_X11_34 dX11_state_33 (fun v1 hv => ?_)
      refine zz_gR S K Z hv zc_6 (by decide) gf_X11_197 dX11_state_36 (fun v2 hv => ?_)
      refine zz_gI S K Z hv zc_3 (by decide) gf_X11_236 dX11_state_39 (fun v3 hv => ?_)
      replace hk := zz_fin hv hk
      obtain rfl := hR0 _ hk
      exact zz_iret S Z hret hlk dX11_state_42 (Nat.le_refl _) (Nat.le_refl _)
    · replace hv := (if_neg hc0).symm.trans hv
      by_cases hc1 : a1 = (1 : Int32)
      · replace hv := (if_pos hc1).symm.trans hv
        refine lv_tableIn (tgt := 43) S.1 S.2.1 dX11_state_1 (by rw [hc1]; decide) (by rw [hc1]; decide) (by rw [hc1]; rfl) (by decide) ?_
        refine lv_aload_n S.1 S.2.1 dX11_state_43 rfl (lv_at hl 0 rfl) ?_
        refine zz_gR S K Z hv zc_9 (by decide) gf_X11_34 dX11_state_44 (fun v4 hv => ?_)
        refine zz_gR S K Z hv zc_6 (by decide) gf_X11_197 dX11_state_47 (fun v5 hv => ?_)
        refine zz_gI S K Z hv zc_3 (by decide) gf_X11_201 dX11_state_50 (fun v6 hv => ?_)
        replace hk := zz_fin hv hk
        obtain rfl := hR0 _ hk
        exact zz_iret S Z hret hlk dX11_state_53 (Nat.le_refl _) (Nat.le_refl _)
      · replace hv := (if_neg hc1).symm.trans hv
        by_cases hc2 : a1 = (2 : Int32)
        · replace hv := (if_pos hc2).symm.trans hv
          refine lv_tableIn (tgt := 54) S.1 S.2.1 dX11_state_1 (by rw [hc2]; decide) (by rw [hc2]; decide) (by rw [hc2]; rfl) (by decide) ?_
          refine lv_aload_n S.1 S.2.1 dX11_state_54 rfl (lv_at hl 0 rfl) ?_
          refine zz_gR S K Z hv zc_9 (by decide) gf_X11_34 dX11_state_55 (fun v7 hv => ?_)
          refine zz_gR S K Z hv zc_6 (by decide) gf_X11_197 dX11_state_58 (fun v8 hv => ?_)
          refine zz_gI S K Z hv zc_3 (by decide) gf_X11_237 dX11_state_61 (fun v9 hv => ?_)
          replace hk := zz_fin hv hk
          obtain rfl := hR0 _ hk
          exact zz_iret S Z hret hlk dX11_state_64 (Nat.le_refl _) (Nat.le_refl _)
        · replace hv := (if_neg hc2).symm.trans hv
          by_cases hc3 : a1 = (3 : Int32)
          · replace hv := (if_pos hc3).symm.trans hv
            refine lv_tableIn (tgt := 65) S.1 S.2.1 dX11_state_1 (by rw [hc3]; decide) (by rw [hc3]; decide) (by rw [hc3]; rfl) (by decide) ?_
            refine lv_aload_n S.1 S.2.1 dX11_state_65 rfl (lv_at hl 0 rfl) ?_
            refine zz_gR S K Z hv zc_9 (by decide) gf_X11_34 dX11_state_66 (fun v10 hv => ?_)
            refine zz_gR S K Z hv zc_6 (by decide) gf_X11_197 dX11_state_69 (fun v11 hv => ?_)
            refine zz_gI S K Z hv zc_3 (by decide) gf_X11_213 dX11_state_72 (fun v12 hv => ?_)
            replace hk := zz_fin hv hk
            obtain rfl := hR0 _ hk
            exact zz_iret S Z hret hlk dX11_state_75 (Nat.le_refl _) (Nat.le_refl _)
          · replace hv := (if_neg hc3).symm.trans hv
            refine lv_tableOut (tgt := 76) S.1 S.2.1 dX11_state_1 (zz_sw_out (fun k h1 h2 => by
              have h3 : k = 0 ∨ k = 1 ∨ k = 2 ∨ k = 3 := by omega
              rcases h3 with rfl | rfl | rfl | rfl
              · exact hc0
              · exact hc1
              · exact hc2
              · exact hc3)) (by decide) ?_
            refine lv_iload_n S.1 S.2.1 dX11_state_76 rfl (lv_at hl 1 rfl) ?_
            refine lv_iconst (v := (4 : Int32)) S.1 S.2.1 dX11_state_77 (by decide) ?_
            refine lv_bipush (v := (11 : Int32)) S.1 S.2.1 dX11_state_78 (by decide) ?_
            obtain ⟨v13, hq, hv⟩ := zz_bd hv
            refine zz_S [.int (a1), .int ((4 : Int32)), .int ((11 : Int32))] S K Z (c_X11_inside a1 (4 : Int32) (11 : Int32) hq) ⟨rfl, rfl⟩ gm_X11_inside gs_X11_inside gl_X11_100 ⟨by decide, by decide⟩ rfl hl.1 rfl (Nat.le_of_ble_eq_true rfl) dX11_state_80 ⟨Nat.zero_le _, Nat.zero_le _⟩ (fun H locs Z => ?_)
            show W _ _ _ _ _ _ _ _ _ _ _ _ 0 0 _ (F0 m 83 ls [.int (v13)])
            refine lv_if_eq (tgt := 102) S.1 S.2.1 dX11_state_83 (by decide) (fun hc => ?_) (fun hc => ?_)
            · replace hv := (if_pos hc).symm.trans hv
              refine lv_bipush (v := (-3 : Int32)) S.1 S.2.1 dX11_state_102 (by decide) ?_
              replace hk := zz_fin hv hk
              obtain rfl := hR0 _ hk
              exact zz_iret S Z hret hlk dX11_state_104 (Nat.le_refl _) (Nat.le_refl _)
            · replace hv := (if_neg hc).symm.trans hv
              refine lv_aload_n S.1 S.2.1 dX11_state_86 rfl (lv_at hl 0 rfl) ?_
              refine zz_gR S K Z hv zc_9 (by decide) gf_X11_34 dX11_state_87 (fun v14 hv => ?_)
              refine zz_gR S K Z hv zc_6 (by decide) gf_X11_197 dX11_state_90 (fun v15 hv => ?_)
              refine lv_iload_n S.1 S.2.1 dX11_state_93 rfl (lv_at hl 1 rfl) ?_
              refine lv_iconst (v := (4 : Int32)) S.1 S.2.1 dX11_state_94 (by decide) ?_
              refine lv_isub S.1 S.2.1 dX11_state_95 ?_
              obtain ⟨hci, hv⟩ := zz_isO_s hv
              obtain ⟨v16, hq, hv⟩ := zz_bd hv
              refine zz_V [.int (a1 - (4 : Int32))] S K Z hci zc_3 rfl (c_X4_flag v15 (a1 - (4 : Int32)) hq) ⟨rfl, rfl⟩ gm_X4_flag gmv_X4_flag gl_X11_240 ⟨by decide, by decide⟩ rfl hl.1 rfl (Nat.le_of_ble_eq_true rfl) dX11_state_96 ⟨Nat.zero_le _, Nat.zero_le _⟩ (fun H locs Z => ?_)
              show W _ _ _ _ _ _ _ _ _ _ _ _ 0 0 _ (F0 m 99 ls [.int (v16)])
              refine lv_goto (tgt := 104) S.1 S.2.1 dX11_state_99 (by decide) ?_
              replace hk := zz_fin hv hk
              obtain rfl := hR0 _ hk
              exact zz_iret S Z hret hlk dX11_state_104 (Nat.le_refl _) (Nat.le_refl _)
  rw [hH, hlo] at key
  exact key

noncomputable def f_X11_done (h : ZH) (a0 : Nat) (a1 : Int32) : Option (Int32) :=
  (zg_R h a0 9 1).bind fun v1 => (zg_I h v1 8 4).bind fun v2 => (f_X11_inside h a1 (0 : Int32) (v2 - (1 : Int32))).bind fun v3 => if v3 = 0 then (some ((-2 : Int32))) else ((zg_R h a0 9 2).bind fun v4 => (zg_R h v4 6 2).bind fun v5 => (zl_I h v5 1 a1).bind fun v6 => some (v6))
abbrev rm_X11_done : Room := { frames := 1, cells := 0, slots := 0, locals := 22 }
set_option maxRecDepth 100000 in
set_option maxHeartbeats 4000000 in
theorem c_X11_done {l : Launch} {D : va_G} {dA : Nat → ClassId} {A : Nat → Prop} {h : ZH} {n : Nat} (a0 : Nat) (a1 : Int32) {r : Int32} (hf : f_X11_done h a0 a1 = some r) : Met l yX11_done (zz_ws yX11_done cX11_done 2 (some .int)) rm_X11_done (zz_P D dA A h n [.ref (a0), .int (a1)]) (zz_Q D dA A (some (.int r)) h n) 0 0 A := by
  refine zz_met (by decide) (Nat.le_of_ble_eq_true rfl) ?_
  intro p e s m args below meth c ls S K hret hlk hnm hl Z
  replace hl : lv_has ls 2 [(0, .ref (a0)), (1, .int (a1))] := hl
  obtain ⟨K0, hR0, hk⟩ : ∃ K0 : (Int32) → Prop, (∀ x, K0 x → x = r) ∧ K0 r := ⟨fun x => x = r, fun _ h => h, rfl⟩
  have hv := hf
  unfold f_X11_done at hv
  clear hf
  obtain ⟨x, hxx⟩ : ∃ x, x = r := ⟨_, rfl⟩
  rw [← hxx] at hv hk
  have ⟨H, hH⟩ : ∃ H, H = s.heap := ⟨_, rfl⟩
  have ⟨locs, hlo⟩ : ∃ q : List Loc, q = [] := ⟨_, rfl⟩
  have Z : zz_B D dA A h n s.heap H locs := by rw [hH, hlo]; exact Z
  have key : zz_W p l e rm_X11_done s m args below meth c D dA A (some (.int r)) h n 0 0 H locs 0 0 0 ls [] := by
    clear hH hlo hxx
    refine lv_iload_n S.1 S.2.1 dX11_done_0 rfl (lv_at hl 1 rfl) ?_
    refine lv_iconst (v := (0 : Int32)) S.1 S.2.1 dX11_done_1 (by decide) ?_
    refine lv_aload_n S.1 S.2.1 dX11_done_2 rfl (lv_at hl 0 rfl) ?_
    refine zz_gR S K Z hv zc_9 (by decide) gf_X11_25 dX11_done_3 (fun v1 hv => ?_)
    refine zz_gI S K Z hv zc_8 (by decide) gf_X11_140 dX11_done_6 (fun v2 hv => ?_)
    refine lv_iconst (v := (1 : Int32)) S.1 S.2.1 dX11_done_9 (by decide) ?_
    refine lv_isub S.1 S.2.1 dX11_done_10 ?_
    obtain ⟨v3, hq, hv⟩ := zz_bd hv
    refine zz_S [.int (a1), .int ((0 : Int32)), .int (v2 - (1 : Int32))] S K Z (c_X11_inside a1 (0 : Int32) (v2 - (1 : Int32)) hq) ⟨rfl, rfl⟩ gm_X11_inside gs_X11_inside gl_X11_100 ⟨by decide, by decide⟩ rfl hl.1 rfl (Nat.le_of_ble_eq_true rfl) dX11_done_11 ⟨Nat.zero_le _, Nat.zero_le _⟩ (fun H locs Z => ?_)
    show W _ _ _ _ _ _ _ _ _ _ _ _ 0 0 _ (F0 m 14 ls [.int (v3)])
    refine lv_if_eq (tgt := 29) S.1 S.2.1 dX11_done_14 (by decide) (fun hc => ?_) (fun hc => ?_)
    · replace hv := (if_pos hc).symm.trans hv
      refine lv_bipush (v := (-2 : Int32)) S.1 S.2.1 dX11_done_29 (by decide) ?_
      replace hk := zz_fin hv hk
      obtain rfl := hR0 _ hk
      exact zz_iret S Z hret hlk dX11_done_31 (Nat.le_refl _) (Nat.le_refl _)
    · replace hv := (if_neg hc).symm.trans hv
      refine lv_aload_n S.1 S.2.1 dX11_done_17 rfl (lv_at hl 0 rfl) ?_
      refine zz_gR S K Z hv zc_9 (by decide) gf_X11_34 dX11_done_18 (fun v4 hv => ?_)
      refine zz_gR S K Z hv zc_6 (by decide) gf_X11_242 dX11_done_21 (fun v5 hv => ?_)
      refine lv_iload_n S.1 S.2.1 dX11_done_24 rfl (lv_at hl 1 rfl) ?_
      refine zz_iald S K Z hv dX11_done_25 (fun v6 hv => ?_)
      refine lv_goto (tgt := 31) S.1 S.2.1 dX11_done_26 (by decide) ?_
      replace hk := zz_fin hv hk
      obtain rfl := hR0 _ hk
      exact zz_iret S Z hret hlk dX11_done_31 (Nat.le_refl _) (Nat.le_refl _)
  rw [hH, hlo] at key
  exact key

noncomputable def f_X11_shown_J22 (h : ZH) (a0 : Nat) (a1 : Int32) : Option (Int32) :=
  (zg_R h a0 9 2).bind fun v1 => (zg_R h v1 6 3).bind fun v2 => (zl_I h v2 1 (a1 + (1 : Int32))).bind fun v3 => some (v3)
noncomputable def f_X11_shown (h : ZH) (a0 : Nat) (a1 : Int32) : Option (Int32) :=
  if a1 = (-1 : Int32) then (f_X11_shown_J22 h a0 a1 ) else ((zg_R h a0 9 1).bind fun v4 => (zg_R h v4 8 1).bind fun v5 => zz_isO h v5 1 <| (f_X1_has h v5 a1).bind fun v6 => if v6 = 0 then (some ((-2 : Int32))) else (f_X11_shown_J22 h a0 a1 ))
abbrev rm_X11_shown : Room := { frames := 1, cells := 0, slots := 0, locals := 21 }
set_option maxRecDepth 100000 in
set_option maxHeartbeats 4000000 in
theorem c_X11_shown {l : Launch} {D : va_G} {dA : Nat → ClassId} {A : Nat → Prop} {h : ZH} {n : Nat} (a0 : Nat) (a1 : Int32) {r : Int32} (hf : f_X11_shown h a0 a1 = some r) : Met l yX11_shown (zz_ws yX11_shown cX11_shown 2 (some .int)) rm_X11_shown (zz_P D dA A h n [.ref (a0), .int (a1)]) (zz_Q D dA A (some (.int r)) h n) 0 0 A := by
  refine zz_met (by decide) (Nat.le_of_ble_eq_true rfl) ?_
  intro p e s m args below meth c ls S K hret hlk hnm hl Z
  replace hl : lv_has ls 2 [(0, .ref (a0)), (1, .int (a1))] := hl
  obtain ⟨K0, hR0, hk⟩ : ∃ K0 : (Int32) → Prop, (∀ x, K0 x → x = r) ∧ K0 r := ⟨fun x => x = r, fun _ h => h, rfl⟩
  have J22 : ∀ (x : (Int32)), f_X11_shown_J22 h a0 a1  = some x → K0 x → ∀ (H : Heap) (locs : List Loc) (ls : Array Slot), zz_B D dA A h n s.heap H locs → lv_has ls 2 [(0, .ref (a0)), (1, .int (a1))] → zz_W p l e rm_X11_shown s m args below meth c D dA A (some (.int r)) h n 0 0 H locs 0 0 22 ls [] := by
    intro  x hv hk H locs ls Z hl
    unfold f_X11_shown_J22 at hv
    refine lv_aload_n S.1 S.2.1 dX11_shown_22 rfl (lv_at hl 0 rfl) ?_
    refine zz_gR S K Z hv zc_9 (by decide) gf_X11_34 dX11_shown_23 (fun v1 hv => ?_)
    refine zz_gR S K Z hv zc_6 (by decide) gf_X11_245 dX11_shown_26 (fun v2 hv => ?_)
    refine lv_iload_n S.1 S.2.1 dX11_shown_29 rfl (lv_at hl 1 rfl) ?_
    refine lv_iconst (v := (1 : Int32)) S.1 S.2.1 dX11_shown_30 (by decide) ?_
    refine lv_iadd S.1 S.2.1 dX11_shown_31 ?_
    refine zz_iald S K Z hv dX11_shown_32 (fun v3 hv => ?_)
    replace hk := zz_fin hv hk
    obtain rfl := hR0 _ hk
    exact zz_iret S Z hret hlk dX11_shown_33 (Nat.le_refl _) (Nat.le_refl _)
  have hv := hf
  unfold f_X11_shown at hv
  clear hf
  obtain ⟨x, hxx⟩ : ∃ x, x = r := ⟨_, rfl⟩
  rw [← hxx] at hv hk
  have ⟨H, hH⟩ : ∃ H, H = s.heap := ⟨_, rfl⟩
  have ⟨locs, hlo⟩ : ∃ q : List Loc, q = [] := ⟨_, rfl⟩
  have Z : zz_B D dA A h n s.heap H locs := by rw [hH, hlo]; exact Z
  have key : zz_W p l e rm_X11_shown s m args below meth c D dA A (some (.int r)) h n 0 0 H locs 0 0 0 ls [] := by
    clear hH hlo hxx
    refine lv_iload_n S.1 S.2.1 dX11_shown_0 rfl (lv_at hl 1 rfl) ?_
    refine lv_iconst (v := (-1 : Int32)) S.1 S.2.1 dX11_shown_1 (by decide) ?_
    refine lv_icmp_eq (tgt := 22) S.1 S.2.1 dX11_shown_2 (by decide) (fun hc => ?_) (fun hc => ?_)
    · replace hv := (if_pos hc).symm.trans hv
      exact J22  _ hv hk H locs ls Z (lv_sub hl [0, 1] rfl)
    · replace hv := (if_neg hc).symm.trans hv
      refine lv_aload_n S.1 S.2.1 dX11_shown_5 rfl (lv_at hl 0 rfl) ?_
      refine zz_gR S K Z hv zc_9 (by decide) gf_X11_25 dX11_shown_6 (fun v4 hv => ?_)
      refine zz_gR S K Z hv zc_8 (by decide) gf_X11_93 dX11_shown_9 (fun v5 hv => ?_)
      refine lv_iload_n S.1 S.2.1 dX11_shown_12 rfl (lv_at hl 1 rfl) ?_
      obtain ⟨hci, hv⟩ := zz_isO_s hv
      obtain ⟨v6, hq, hv⟩ := zz_bd hv
      refine zz_V [.int (a1)] S K Z hci zc_1 rfl (c_X1_has v5 a1 hq) ⟨rfl, rfl⟩ gm_X1_has gmv_X1_has gl_X11_96 ⟨by decide, by decide⟩ rfl hl.1 rfl (Nat.le_of_ble_eq_true rfl) dX11_shown_13 ⟨Nat.zero_le _, Nat.zero_le _⟩ (fun H locs Z => ?_)
      show W _ _ _ _ _ _ _ _ _ _ _ _ 0 0 _ (F0 m 16 ls [.int (v6)])
      refine lv_if_ne (tgt := 22) S.1 S.2.1 dX11_shown_16 (by decide) (fun hc => ?_) (fun hc => ?_)
      · replace hv := (if_neg hc).symm.trans hv
        exact J22  _ hv hk H locs ls Z (lv_sub hl [0, 1] rfl)
      · replace hv := (if_pos hc).symm.trans hv
        refine lv_bipush (v := (-2 : Int32)) S.1 S.2.1 dX11_shown_19 (by decide) ?_
        replace hk := zz_fin hv hk
        obtain rfl := hR0 _ hk
        exact zz_iret S Z hret hlk dX11_shown_21 (Nat.le_refl _) (Nat.le_refl _)
  rw [hH, hlo] at key
  exact key

noncomputable def f_X11_never_L4 (h : ZH) (a0 : Nat) (a1 : Int32) (x2_1 : Int32) (x3_2 : Int32)  : Option ((Int32 × Int32) ⊕ (Int32)) :=
  (zg_R h a0 9 1).bind fun v3 => (zg_I h v3 8 4).bind fun v4 => if v4 ≤ x3_2 then ((some ((-1 : Int32))).map Sum.inr) else ((zg_R h a0 9 2).bind fun v5 => (zg_R h v5 6 2).bind fun v6 => (zl_I h v6 1 x3_2).bind fun v7 => if v7 = 0 then (if x2_1 = 0 then ((some (x3_2)).map Sum.inr) else (some (.inl (x2_1 + (-1 : Int32), x3_2 + (1 : Int32))))) else (some (.inl (x2_1, x3_2 + (1 : Int32)))))
noncomputable def f_X11_never (h : ZH) (a0 : Nat) (a1 : Int32) : Option (Int32) :=
  zz_loop (fun st : (Int32 × Int32) => f_X11_never_L4 h a0 a1 (st.1) (st.2)) (a1, (0 : Int32))
abbrev rm_X11_never : Room := { frames := 0, cells := 0, slots := 0, locals := 0 }
set_option maxRecDepth 100000 in
set_option maxHeartbeats 4000000 in
theorem c_X11_never {l : Launch} {D : va_G} {dA : Nat → ClassId} {A : Nat → Prop} {h : ZH} {n : Nat} (a0 : Nat) (a1 : Int32) {r : Int32} (hf : f_X11_never h a0 a1 = some r) : Met l yX11_never (zz_ws yX11_never cX11_never 4 (some .int)) rm_X11_never (zz_P D dA A h n [.ref (a0), .int (a1)]) (zz_Q D dA A (some (.int r)) h n) 0 0 A := by
  refine zz_met (by decide) (Nat.le_of_ble_eq_true rfl) ?_
  intro p e s m args below meth c ls S K hret hlk hnm hl Z
  replace hl : lv_has ls 4 [(0, .ref (a0)), (1, .int (a1))] := hl
  obtain ⟨K0, hR0, hk⟩ : ∃ K0 : (Int32) → Prop, (∀ x, K0 x → x = r) ∧ K0 r := ⟨fun x => x = r, fun _ h => h, rfl⟩
  have L4 : ∀ (st : (Int32 × Int32)) (x : (Int32)), zz_loop (fun st : (Int32 × Int32) => f_X11_never_L4 h a0 a1 (st.1) (st.2)) st = some x → K0 x → (fun st : (Int32 × Int32) => ∀ (H : Heap) (locs : List Loc) (ls : Array Slot), zz_B D dA A h n s.heap H locs → lv_has ls 4 [(0, .ref (a0)), (2, .int ((st.1))), (3, .int ((st.2)))] → zz_W p l e rm_X11_never s m args below meth c D dA A (some (.int r)) h n 0 0 H locs 0 0 4 ls []) st := by
    refine zz_loop_go (K := K0) ?_
    intro K1 hP1 hR1
    rintro ⟨x2_1, x3_2⟩ x hv hk H locs ls Z hl
    replace hv : f_X11_never_L4 h a0 a1 x2_1 x3_2 = some x := hv
    unfold f_X11_never_L4 at hv
    replace hl : lv_has ls 4 [(0, .ref (a0)), (2, .int (x2_1)), (3, .int (x3_2))] := hl
    replace Z : zz_B D dA A h n s.heap H locs := Z
    show zz_W p l e rm_X11_never s m args below meth c D dA A (some (.int r)) h n 0 0 H locs 0 0 4 ls []
    refine lv_iload_n S.1 S.2.1 dX11_never_4 rfl (lv_at hl 2 rfl) ?_
    refine lv_aload_n S.1 S.2.1 dX11_never_5 rfl (lv_at hl 0 rfl) ?_
    refine zz_gR S K Z hv zc_9 (by decide) gf_X11_25 dX11_never_6 (fun v3 hv => ?_)
    refine zz_gI S K Z hv zc_8 (by decide) gf_X11_140 dX11_never_9 (fun v4 hv => ?_)
    refine lv_icmp_ge (tgt := 45) S.1 S.2.1 dX11_never_12 (by decide) (fun hc => ?_) (fun hc => ?_)
    · replace hv := (if_pos hc).symm.trans hv
      obtain ⟨_, hv, hk⟩ := zz_mapk hv hk
      replace hk := hR1 _ hk
      refine lv_iconst (v := (-1 : Int32)) S.1 S.2.1 dX11_never_45 (by decide) ?_
      replace hk := zz_fin hv hk
      obtain rfl := hR0 _ hk
      exact zz_iret S Z hret hlk dX11_never_46 (Nat.le_refl _) (Nat.le_refl _)
    · replace hv := (if_neg hc).symm.trans hv
      refine lv_aload_n S.1 S.2.1 dX11_never_15 rfl (lv_at hl 0 rfl) ?_
      refine zz_gR S K Z hv zc_9 (by decide) gf_X11_34 dX11_never_16 (fun v5 hv => ?_)
      refine zz_gR S K Z hv zc_6 (by decide) gf_X11_242 dX11_never_19 (fun v6 hv => ?_)
      refine lv_iload_n S.1 S.2.1 dX11_never_22 rfl (lv_at hl 2 rfl) ?_
      refine zz_iald S K Z hv dX11_never_23 (fun v7 hv => ?_)
      refine lv_if_eq (tgt := 30) S.1 S.2.1 dX11_never_24 (by decide) (fun hc => ?_) (fun hc => ?_)
      · replace hv := (if_pos hc).symm.trans hv
        refine lv_iload_n S.1 S.2.1 dX11_never_30 rfl (lv_at hl 1 rfl) ?_
        refine lv_if_ne (tgt := 36) S.1 S.2.1 dX11_never_31 (by decide) (fun hc => ?_) (fun hc => ?_)
        · replace hv := (if_neg hc).symm.trans hv
          refine lv_iinc (v := x2_1 + (-1 : Int32)) (lv' := [(2, .int (x2_1 + (-1 : Int32))), (0, .ref (a0)), (3, .int (x3_2))]) S.1 S.2.1 dX11_never_36 hl (k := 1) rfl rfl (by decide) rfl (fun ls hl => ?_)
          refine lv_iinc (v := x3_2 + (1 : Int32)) (lv' := [(3, .int (x3_2 + (1 : Int32))), (2, .int (x2_1 + (-1 : Int32))), (0, .ref (a0))]) S.1 S.2.1 dX11_never_39 hl (k := 2) rfl rfl (by decide) rfl (fun ls hl => ?_)
          refine lv_goto (tgt := 4) S.1 S.2.1 dX11_never_42 (by decide) ?_
          replace hk := zz_fin hv hk
          exact hP1 _ hk H locs ls Z (lv_sub hl [2, 1, 0] rfl)
        · replace hv := (if_pos hc).symm.trans hv
          obtain ⟨_, hv, hk⟩ := zz_mapk hv hk
          replace hk := hR1 _ hk
          refine lv_iload_n S.1 S.2.1 dX11_never_34 rfl (lv_at hl 2 rfl) ?_
          replace hk := zz_fin hv hk
          obtain rfl := hR0 _ hk
          exact zz_iret S Z hret hlk dX11_never_35 (Nat.le_refl _) (Nat.le_refl _)
      · replace hv := (if_neg hc).symm.trans hv
        refine lv_goto (tgt := 39) S.1 S.2.1 dX11_never_27 (by decide) ?_
        refine lv_iinc (v := x3_2 + (1 : Int32)) (lv' := [(3, .int (x3_2 + (1 : Int32))), (0, .ref (a0)), (2, .int (x2_1))]) S.1 S.2.1 dX11_never_39 hl (k := 2) rfl rfl (by decide) rfl (fun ls hl => ?_)
        refine lv_goto (tgt := 4) S.1 S.2.1 dX11_never_42 (by decide) ?_
        replace hk := zz_fin hv hk
        exact hP1 _ hk H locs ls Z (lv_sub hl [1, 2, 0] rfl)
  have hv := hf
  unfold f_X11_never at hv
  clear hf
  obtain ⟨x, hxx⟩ : ∃ x, x = r := ⟨_, rfl⟩
  rw [← hxx] at hv hk
  have ⟨H, hH⟩ : ∃ H, H = s.heap := ⟨_, rfl⟩
  have ⟨locs, hlo⟩ : ∃ q : List Loc, q = [] := ⟨_, rfl⟩
  have Z : zz_B D dA A h n s.heap H locs := by rw [hH, hlo]; exact Z
  have key : zz_W p l e rm_X11_never s m args below meth c D dA A (some (.int r)) h n 0 0 H locs 0 0 0 ls [] := by
    clear hH hlo hxx
    refine lv_iload_n S.1 S.2.1 dX11_never_0 rfl (lv_at hl 1 rfl) ?_
    refine lv_istore_n (lv' := [(2, .int (a1)), (0, .ref (a0)), (1, .int (a1))]) S.1 S.2.1 dX11_never_1 rfl hl (by decide) rfl (fun ls hl => ?_)
    refine lv_iconst (v := (0 : Int32)) S.1 S.2.1 dX11_never_2 (by decide) ?_
    refine lv_istore_n (lv' := [(3, .int ((0 : Int32))), (2, .int (a1)), (0, .ref (a0)), (1, .int (a1))]) S.1 S.2.1 dX11_never_3 rfl hl (by decide) rfl (fun ls hl => ?_)
    exact L4  (a1, (0 : Int32)) _ hv hk H locs ls Z (lv_sub hl [2, 1, 0] rfl)
  rw [hH, hlo] at key
  exact key

noncomputable def f_X11_told (h : ZH) (a0 : Nat) (a1 : Int32) : Option (Int32) :=
  if a1 = (0 : Int32) then ((zg_R h a0 9 0).bind fun v1 => (zg_I h v1 0 1).bind fun v2 => some (v2)) else (if a1 = (1 : Int32) then ((zg_R h a0 9 1).bind fun v3 => (zg_R h v3 8 0).bind fun v4 => (zg_I h v4 1 3).bind fun v5 => some (v5)) else (if a1 = (2 : Int32) then ((zg_R h a0 9 1).bind fun v6 => (zg_R h v6 8 1).bind fun v7 => (zg_I h v7 1 3).bind fun v8 => some (v8)) else (if a1 = (3 : Int32) then ((zg_R h a0 9 1).bind fun v9 => (zg_I h v9 8 4).bind fun v10 => some (v10)) else (if a1 = (4 : Int32) then ((zg_I h a0 9 6).bind fun v11 => some (v11)) else (if a1 = (5 : Int32) then ((zg_R h a0 9 3).bind fun v12 => (zg_I h v12 5 6).bind fun v13 => some (v13)) else (if a1 = (6 : Int32) then ((zg_R h a0 9 2).bind fun v14 => (zg_I h v14 6 5).bind fun v15 => some (v15)) else (if a1 = (7 : Int32) then ((zg_R h a0 9 2).bind fun v16 => (zg_I h v16 6 4).bind fun v17 => some (v17)) else (some ((-3 : Int32))))))))))
abbrev rm_X11_told : Room := { frames := 0, cells := 0, slots := 0, locals := 0 }
set_option maxRecDepth 100000 in
set_option maxHeartbeats 4000000 in
theorem c_X11_told {l : Launch} {D : va_G} {dA : Nat → ClassId} {A : Nat → Prop} {h : ZH} {n : Nat} (a0 : Nat) (a1 : Int32) {r : Int32} (hf : f_X11_told h a0 a1 = some r) : Met l yX11_told (zz_ws yX11_told cX11_told 2 (some .int)) rm_X11_told (zz_P D dA A h n [.ref (a0), .int (a1)]) (zz_Q D dA A (some (.int r)) h n) 0 0 A := by
  refine zz_met (by decide) (Nat.le_of_ble_eq_true rfl) ?_
  intro p e s m args below meth c ls S K hret hlk hnm hl Z
  replace hl : lv_has ls 2 [(0, .ref (a0)), (1, .int (a1))] := hl
  obtain ⟨K0, hR0, hk⟩ : ∃ K0 : (Int32) → Prop, (∀ x, K0 x → x = r) ∧ K0 r := ⟨fun x => x = r, fun _ h => h, rfl⟩
  have hv := hf
  unfold f_X11_told at hv
  clear hf
  obtain ⟨x, hxx⟩ : ∃ x, x = r := ⟨_, rfl⟩
  rw [← hxx] at hv hk
  have ⟨H, hH⟩ : ∃ H, H = s.heap := ⟨_, rfl⟩
  have ⟨locs, hlo⟩ : ∃ q : List Loc, q = [] := ⟨_, rfl⟩
  have Z : zz_B D dA A h n s.heap H locs := by rw [hH, hlo]; exact Z
  have key : zz_W p l e rm_X11_told s m args below meth c D dA A (some (.int r)) h n 0 0 H locs 0 0 0 ls [] := by
    clear hH hlo hxx
    refine lv_iload_n S.1 S.2.1 dX11_told_0 rfl (lv_at hl 1 rfl) ?_
    by_cases hc0 : a1 = (0 : Int32)
    · replace hv := (if_pos hc0).symm.trans hv
      refine lv_tableIn (tgt := 48) S.1 S.2.1 dX11_told_1 (by rw [hc0]; decide) (by rw [hc0]; decide) (by rw [hc0]; rfl) (by decide) ?_
      refine lv_aload_n S.1 S.2.1 dX11_told_48 rfl (lv_at hl 0 rfl) ?_
      refine zz_gR S K Z hv zc_9 (by decide) gf_X11_14 dX11_told_49 (fun v1 hv => ?_)
      refine zz_gI S K Z hv zc_0 (by decide) gf_X11_54 dX11_told_52 (fun v2 hv => ?_)
      replace hk := zz_fin hv hk
      obtain rfl := hR0 _ hk
      exact zz_iret S Z hret hlk dX11_told_55 (Nat.le_refl _) (Nat.le_refl _)
    · replace hv := (if_neg hc0).symm.trans hv
      by_cases hc1 : a1 = (1 : Int32)
      · replace hv := (if_pos hc1).symm.trans hv
        refine lv_tableIn (tgt := 56) S.1 S.2.1 dX11_told_1 (by rw [hc1]; decide) (by rw [hc1]; decide) (by rw [hc1]; rfl) (by decide) ?_
        refine lv_aload_n S.1 S.2.1 dX11_told_56 rfl (lv_at hl 0 rfl) ?_
        refine zz_gR S K Z hv zc_9 (by decide) gf_X11_25 dX11_told_57 (fun v3 hv => ?_)
        refine zz_gR S K Z hv zc_8 (by decide) gf_X11_74 dX11_told_60 (fun v4 hv => ?_)
        refine zz_gI S K Z hv zc_1 (by decide) gf_X11_220 dX11_told_63 (fun v5 hv => ?_)
        replace hk := zz_fin hv hk
        obtain rfl := hR0 _ hk
        exact zz_iret S Z hret hlk dX11_told_66 (Nat.le_refl _) (Nat.le_refl _)
      · replace hv := (if_neg hc1).symm.trans hv
        by_cases hc2 : a1 = (2 : Int32)
        · replace hv := (if_pos hc2).symm.trans hv
          refine lv_tableIn (tgt := 67) S.1 S.2.1 dX11_told_1 (by rw [hc2]; decide) (by rw [hc2]; decide) (by rw [hc2]; rfl) (by decide) ?_
          refine lv_aload_n S.1 S.2.1 dX11_told_67 rfl (lv_at hl 0 rfl) ?_
          refine zz_gR S K Z hv zc_9 (by decide) gf_X11_25 dX11_told_68 (fun v6 hv => ?_)
          refine zz_gR S K Z hv zc_8 (by decide) gf_X11_93 dX11_told_71 (fun v7 hv => ?_)
          refine zz_gI S K Z hv zc_1 (by decide) gf_X11_220 dX11_told_74 (fun v8 hv => ?_)
          replace hk := zz_fin hv hk
          obtain rfl := hR0 _ hk
          exact zz_iret S Z hret hlk dX11_told_77 (Nat.le_refl _) (Nat.le_refl _)
        · replace hv := (if_neg hc2).symm.trans hv
          by_cases hc3 : a1 = (3 : Int32)
          · replace hv := (if_pos hc3).symm.trans hv
            refine lv_tableIn (tgt := 78) S.1 S.2.1 dX11_told_1 (by rw [hc3]; decide) (by rw [hc3]; decide) (by rw [hc3]; rfl) (by decide) ?_
            refine lv_aload_n S.1 S.2.1 dX11_told_78 rfl (lv_at hl 0 rfl) ?_
            refine zz_gR S K Z hv zc_9 (by decide) gf_X11_25 dX11_told_79 (fun v9 hv => ?_)
            refine zz_gI S K Z hv zc_8 (by decide) gf_X11_140 dX11_told_82 (fun v10 hv => ?_)
            replace hk := zz_fin hv hk
            obtain rfl := hR0 _ hk
            exact zz_iret S Z hret hlk dX11_told_85 (Nat.le_refl _) (Nat.le_refl _)
          · replace hv := (if_neg hc3).symm.trans hv
            by_cases hc4 : a1 = (4 : Int32)
            · replace hv := (if_pos hc4).symm.trans hv
              refine lv_tableIn (tgt := 86) S.1 S.2.1 dX11_told_1 (by rw [hc4]; decide) (by rw [hc4]; decide) (by rw [hc4]; rfl) (by decide) ?_
              refine lv_aload_n S.1 S.2.1 dX11_told_86 rfl (lv_at hl 0 rfl) ?_
              refine zz_gI S K Z hv zc_9 (by decide) gf_X11_159 dX11_told_87 (fun v11 hv => ?_)
              replace hk := zz_fin hv hk
              obtain rfl := hR0 _ hk
              exact zz_iret S Z hret hlk dX11_told_90 (Nat.le_refl _) (Nat.le_refl _)
            · replace hv := (if_neg hc4).symm.trans hv
              by_cases hc5 : a1 = (5 : Int32)
              · replace hv := (if_pos hc5).symm.trans hv
                refine lv_tableIn (tgt := 91) S.1 S.2.1 dX11_told_1 (by rw [hc5]; decide) (by rw [hc5]; decide) (by rw [hc5]; rfl) (by decide) ?_
                refine lv_aload_n S.1 S.2.1 dX11_told_91 rfl (lv_at hl 0 rfl) ?_
                refine zz_gR S K Z hv zc_9 (by decide) gf_X11_43 dX11_told_92 (fun v12 hv => ?_)
                refine zz_gI S K Z hv zc_5 (by decide) gf_X11_172 dX11_told_95 (fun v13 hv => ?_)
                replace hk := zz_fin hv hk
                obtain rfl := hR0 _ hk
                exact zz_iret S Z hret hlk dX11_told_98 (Nat.le_refl _) (Nat.le_refl _)
              · replace hv := (if_neg hc5).symm.trans hv
                by_cases hc6 : a1 = (6 : Int32)
                · replace hv := (if_pos hc6).symm.trans hv
                  refine lv_tableIn (tgt := 99) S.1 S.2.1 dX11_told_1 (by rw [hc6]; decide) (by rw [hc6]; decide) (by rw [hc6]; rfl) (by decide) ?_
                  refine lv_aload_n S.1 S.2.1 dX11_told_99 rfl (lv_at hl 0 rfl) ?_
                  refine zz_gR S K Z hv zc_9 (by decide) gf_X11_34 dX11_told_100 (fun v14 hv => ?_)
                  refine zz_gI S K Z hv zc_6 (by decide) gf_X11_255 dX11_told_103 (fun v15 hv => ?_)
                  replace hk := zz_fin hv hk
                  obtain rfl := hR0 _ hk
                  exact zz_iret S Z hret hlk dX11_told_106 (Nat.le_refl _) (Nat.le_refl _)
                · replace hv := (if_neg hc6).symm.trans hv
                  by_cases hc7 : a1 = (7 : Int32)
                  · replace hv := (if_pos hc7).symm.trans hv
                    refine lv_tableIn (tgt := 107) S.1 S.2.1 dX11_told_1 (by rw [hc7]; decide) (by rw [hc7]; decide) (by rw [hc7]; rfl) (by decide) ?_
                    refine lv_aload_n S.1 S.2.1 dX11_told_107 rfl (lv_at hl 0 rfl) ?_
                    refine zz_gR S K Z hv zc_9 (by decide) gf_X11_34 dX11_told_108 (fun v16 hv => ?_)
                    refine zz_gI S K Z hv zc_6 (by decide) gf_X11_258 dX11_told_111 (fun v17 hv => ?_)
                    replace hk := zz_fin hv hk
                    obtain rfl := hR0 _ hk
                    exact zz_iret S Z hret hlk dX11_told_114 (Nat.le_refl _) (Nat.le_refl _)
                  · replace hv := (if_neg hc7).symm.trans hv
                    refine lv_tableOut (tgt := 115) S.1 S.2.1 dX11_told_1 (zz_sw_out (fun k h1 h2 => by
                      have h3 : k = 0 ∨ k = 1 ∨ k = 2 ∨ k = 3 ∨ k = 4 ∨ k = 5 ∨ k = 6 ∨ k = 7 := by omega
                      rcases h3 with rfl | rfl | rfl | rfl | rfl | rfl | rfl | rfl
                      · exact hc0
                      · exact hc1
                      · exact hc2
                      · exact hc3
                      · exact hc4
                      · exact hc5
                      · exact hc6
                      · exact hc7)) (by decide) ?_
                    refine lv_bipush (v := (-3 : Int32)) S.1 S.2.1 dX11_told_115 (by decide) ?_
                    replace hk := zz_fin hv hk
                    obtain rfl := hR0 _ hk
                    exact zz_iret S Z hret hlk dX11_told_117 (Nat.le_refl _) (Nat.le_refl _)
  rw [hH, hlo] at key
  exact key

noncomputable def f_X12_thrown (h : ZH) (a0 : Nat) : Option (Int32) :=
  (zg_I h a0 10 0).bind fun v1 => some (v1)
abbrev rm_X12_thrown : Room := { frames := 0, cells := 0, slots := 0, locals := 0 }
set_option maxRecDepth 100000 in
set_option maxHeartbeats 4000000 in
theorem c_X12_thrown {l : Launch} {D : va_G} {dA : Nat → ClassId} {A : Nat → Prop} {h : ZH} {n : Nat} (a0 : Nat) {r : Int32} (hf : f_X12_thrown h a0 = some r) : Met l yX12_thrown (zz_ws yX12_thrown cX12_thrown 1 (some .int)) rm_X12_thrown (zz_P D dA A h n [.ref (a0)]) (zz_Q D dA A (some (.int r)) h n) 0 0 A := by
  refine zz_met (by decide) (Nat.le_of_ble_eq_true rfl) ?_
  intro p e s m args below meth c ls S K hret hlk hnm hl Z
  replace hl : lv_has ls 1 [(0, .ref (a0))] := hl
  obtain ⟨K0, hR0, hk⟩ : ∃ K0 : (Int32) → Prop, (∀ x, K0 x → x = r) ∧ K0 r := ⟨fun x => x = r, fun _ h => h, rfl⟩
  have hv := hf
  unfold f_X12_thrown at hv
  clear hf
  obtain ⟨x, hxx⟩ : ∃ x, x = r := ⟨_, rfl⟩
  rw [← hxx] at hv hk
  have ⟨H, hH⟩ : ∃ H, H = s.heap := ⟨_, rfl⟩
  have ⟨locs, hlo⟩ : ∃ q : List Loc, q = [] := ⟨_, rfl⟩
  have Z : zz_B D dA A h n s.heap H locs := by rw [hH, hlo]; exact Z
  have key : zz_W p l e rm_X12_thrown s m args below meth c D dA A (some (.int r)) h n 0 0 H locs 0 0 0 ls [] := by
    clear hH hlo hxx
    refine lv_aload_n S.1 S.2.1 dX12_thrown_0 rfl (lv_at hl 0 rfl) ?_
    refine zz_gI S K Z hv zc_10 (by decide) gf_X12_1 dX12_thrown_1 (fun v1 hv => ?_)
    replace hk := zz_fin hv hk
    obtain rfl := hR0 _ hk
    exact zz_iret S Z hret hlk dX12_thrown_4 (Nat.le_refl _) (Nat.le_refl _)
  rw [hH, hlo] at key
  exact key

noncomputable def f_X12_begin_L41 (h : ZH) (a0 : Nat) (x1_8 : Int32) (h9 : ZH)  : Option ((Int32 × ZH) ⊕ (ZH)) :=
  if (5 : Int32) ≤ x1_8 then ((some (h9)).map Sum.inr) else ((zg_R h9 a0 10 29).bind fun v10 => (zs_I h9 v10 2 x1_8 (vp_nar .boolean (0 : Int32))).bind fun h11 => some (.inl (x1_8 + (1 : Int32), h11)))
noncomputable def f_X12_begin_L2 (h : ZH) (a0 : Nat) (x1_1 : Int32) (h2 : ZH)  : Option ((Int32 × ZH) ⊕ (ZH)) :=
  if (12 : Int32) ≤ x1_1 then (((zg_R h2 a0 10 28).bind fun v3 => (zg_I h2 a0 10 3).bind fun v4 => (zs_I h2 v3 1 (2 : Int32) v4).bind fun h5 => (zg_R h5 a0 10 28).bind fun v6 => (zs_I h5 v6 1 (3 : Int32) (-2 : Int32)).bind fun h7 => zz_loop (fun st : (Int32 × ZH) => f_X12_begin_L41 h a0 (st.1) (st.2)) ((1 : Int32), h7)).map Sum.inr) else ((zg_R h2 a0 10 28).bind fun v12 => (zs_I h2 v12 1 x1_1 (0 : Int32)).bind fun h13 => some (.inl (x1_1 + (1 : Int32), h13)))
noncomputable def f_X12_begin (h : ZH) (a0 : Nat) : Option (ZH) :=
  zz_loop (fun st : (Int32 × ZH) => f_X12_begin_L2 h a0 (st.1) (st.2)) ((0 : Int32), h)
abbrev rm_X12_begin : Room := { frames := 0, cells := 0, slots := 0, locals := 0 }
set_option maxRecDepth 100000 in
set_option maxHeartbeats 4000000 in
theorem c_X12_begin {l : Launch} {D : va_G} {dA : Nat → ClassId} {A : Nat → Prop} {h : ZH} {n : Nat} (a0 : Nat) {hx : ZH} (hf : f_X12_begin h a0 = some hx) : Met l yX12_begin (zz_ws yX12_begin cX12_begin 2 none) rm_X12_begin (zz_P D dA A h n [.ref (a0)]) (zz_Q D dA A (none) hx n) 0 0 A := by
  refine zz_met (by decide) (Nat.le_of_ble_eq_true rfl) ?_
  intro p e s m args below meth c ls S K hret hlk hnm hl Z
  replace hl : lv_has ls 2 [(0, .ref (a0))] := hl
  obtain ⟨K0, hR0, hk⟩ : ∃ K0 : (ZH) → Prop, (∀ x, K0 x → x = hx) ∧ K0 hx := ⟨fun x => x = hx, fun _ h => h, rfl⟩
  have L41 : ∀ (st : (Int32 × ZH)) (x : (ZH)), zz_loop (fun st : (Int32 × ZH) => f_X12_begin_L41 h a0 (st.1) (st.2)) st = some x → K0 x → (fun st : (Int32 × ZH) => ∀ (H : Heap) (locs : List Loc) (ls : Array Slot), zz_B D dA A (st.2) n s.heap H locs → lv_has ls 2 [(0, .ref (a0)), (1, .int ((st.1)))] → zz_W p l e rm_X12_begin s m args below meth c D dA A (none) hx n 0 0 H locs 0 0 41 ls []) st := by
    refine zz_loop_go (K := K0) ?_
    intro K1 hP1 hR1
    rintro ⟨x1_8, h9⟩ x hv hk H locs ls Z hl
    replace hv : f_X12_begin_L41 h a0 x1_8 h9 = some x := hv
    unfold f_X12_begin_L41 at hv
    replace hl : lv_has ls 2 [(0, .ref (a0)), (1, .int (x1_8))] := hl
    replace Z : zz_B D dA A h9 n s.heap H locs := Z
    show zz_W p l e rm_X12_begin s m args below meth c D dA A (none) hx n 0 0 H locs 0 0 41 ls []
    refine lv_iload_n S.1 S.2.1 dX12_begin_41 rfl (lv_at hl 1 rfl) ?_
    refine lv_iconst (v := (5 : Int32)) S.1 S.2.1 dX12_begin_42 (by decide) ?_
    refine lv_icmp_ge (tgt := 59) S.1 S.2.1 dX12_begin_43 (by decide) (fun hc => ?_) (fun hc => ?_)
    · replace hv := (if_pos hc).symm.trans hv
      obtain ⟨_, hv, hk⟩ := zz_mapk hv hk
      replace hk := hR1 _ hk
      replace hk := zz_fin hv hk
      obtain rfl := hR0 _ hk
      exact zz_vret S Z hret hlk dX12_begin_59 (Nat.le_refl _) (Nat.le_refl _)
    · replace hv := (if_neg hc).symm.trans hv
      refine lv_aload_n S.1 S.2.1 dX12_begin_46 rfl (lv_at hl 0 rfl) ?_
      refine zz_gR S K Z hv zc_10 (by decide) gf_X12_78 dX12_begin_47 (fun v10 hv => ?_)
      refine lv_iload_n S.1 S.2.1 dX12_begin_50 rfl (lv_at hl 1 rfl) ?_
      refine lv_iconst (v := (0 : Int32)) S.1 S.2.1 dX12_begin_51 (by decide) ?_
      refine zz_zast S K Z hv dX12_begin_52 (fun h11 H locs hv Z => ?_)
      refine lv_iinc (v := x1_8 + (1 : Int32)) (lv' := [(1, .int (x1_8 + (1 : Int32))), (0, .ref (a0))]) S.1 S.2.1 dX12_begin_53 hl (k := 1) rfl rfl (by decide) rfl (fun ls hl => ?_)
      refine lv_goto (tgt := 41) S.1 S.2.1 dX12_begin_56 (by decide) ?_
      replace hk := zz_fin hv hk
      exact hP1 _ hk H locs ls Z (lv_sub hl [1, 0] rfl)
  have L2 : ∀ (st : (Int32 × ZH)) (x : (ZH)), zz_loop (fun st : (Int32 × ZH) => f_X12_begin_L2 h a0 (st.1) (st.2)) st = some x → K0 x → (fun st : (Int32 × ZH) => ∀ (H : Heap) (locs : List Loc) (ls : Array Slot), zz_B D dA A (st.2) n s.heap H locs → lv_has ls 2 [(0, .ref (a0)), (1, .int ((st.1)))] → zz_W p l e rm_X12_begin s m args below meth c D dA A (none) hx n 0 0 H locs 0 0 2 ls []) st := by
    refine zz_loop_go (K := K0) ?_
    intro K1 hP1 hR1
    rintro ⟨x1_1, h2⟩ x hv hk H locs ls Z hl
    replace hv : f_X12_begin_L2 h a0 x1_1 h2 = some x := hv
    unfold f_X12_begin_L2 at hv
    replace hl : lv_has ls 2 [(0, .ref (a0)), (1, .int (x1_1))] := hl
    replace Z : zz_B D dA A h2 n s.heap H locs := Z
    show zz_W p l e rm_X12_begin s m args below meth c D dA A (none) hx n 0 0 H locs 0 0 2 ls []
    refine lv_iload_n S.1 S.2.1 dX12_begin_2 rfl (lv_at hl 1 rfl) ?_
    refine lv_bipush (v := (12 : Int32)) S.1 S.2.1 dX12_begin_3 (by decide) ?_
    refine lv_icmp_ge (tgt := 21) S.1 S.2.1 dX12_begin_5 (by decide) (fun hc => ?_) (fun hc => ?_)
    · replace hv := (if_pos hc).symm.trans hv
      obtain ⟨_, hv, hk⟩ := zz_mapk hv hk
      replace hk := hR1 _ hk
      refine lv_aload_n S.1 S.2.1 dX12_begin_21 rfl (lv_at hl 0 rfl) ?_
      refine zz_gR S K Z hv zc_10 (by decide) gf_X12_75 dX12_begin_22 (fun v3 hv => ?_)
      refine lv_iconst (v := (2 : Int32)) S.1 S.2.1 dX12_begin_25 (by decide) ?_
      refine lv_aload_n S.1 S.2.1 dX12_begin_26 rfl (lv_at hl 0 rfl) ?_
      refine zz_gI S K Z hv zc_10 (by decide) gf_X12_97 dX12_begin_27 (fun v4 hv => ?_)
      refine zz_iast S K Z hv dX12_begin_30 (fun h5 H locs hv Z => ?_)
      refine lv_aload_n S.1 S.2.1 dX12_begin_31 rfl (lv_at hl 0 rfl) ?_
      refine zz_gR S K Z hv zc_10 (by decide) gf_X12_75 dX12_begin_32 (fun v6 hv => ?_)
      refine lv_iconst (v := (3 : Int32)) S.1 S.2.1 dX12_begin_35 (by decide) ?_
      refine lv_bipush (v := (-2 : Int32)) S.1 S.2.1 dX12_begin_36 (by decide) ?_
      refine zz_iast S K Z hv dX12_begin_38 (fun h7 H locs hv Z => ?_)
      refine lv_iconst (v := (1 : Int32)) S.1 S.2.1 dX12_begin_39 (by decide) ?_
      refine lv_istore_n (lv' := [(1, .int ((1 : Int32))), (0, .ref (a0))]) S.1 S.2.1 dX12_begin_40 rfl hl (by decide) rfl (fun ls hl => ?_)
      exact L41  ((1 : Int32), h7) _ hv hk H locs ls Z (lv_sub hl [1, 0] rfl)
    · replace hv := (if_neg hc).symm.trans hv
      refine lv_aload_n S.1 S.2.1 dX12_begin_8 rfl (lv_at hl 0 rfl) ?_
      refine zz_gR S K Z hv zc_10 (by decide) gf_X12_75 dX12_begin_9 (fun v12 hv => ?_)
      refine lv_iload_n S.1 S.2.1 dX12_begin_12 rfl (lv_at hl 1 rfl) ?_
      refine lv_iconst (v := (0 : Int32)) S.1 S.2.1 dX12_begin_13 (by decide) ?_
      refine zz_iast S K Z hv dX12_begin_14 (fun h13 H locs hv Z => ?_)
      refine lv_iinc (v := x1_1 + (1 : Int32)) (lv' := [(1, .int (x1_1 + (1 : Int32))), (0, .ref (a0))]) S.1 S.2.1 dX12_begin_15 hl (k := 1) rfl rfl (by decide) rfl (fun ls hl => ?_)
      refine lv_goto (tgt := 2) S.1 S.2.1 dX12_begin_18 (by decide) ?_
      replace hk := zz_fin hv hk
      exact hP1 _ hk H locs ls Z (lv_sub hl [1, 0] rfl)
  have hv := hf
  unfold f_X12_begin at hv
  clear hf
  obtain ⟨x, hxx⟩ : ∃ x, x = hx := ⟨_, rfl⟩
  rw [← hxx] at hv hk
  have ⟨H, hH⟩ : ∃ H, H = s.heap := ⟨_, rfl⟩
  have ⟨locs, hlo⟩ : ∃ q : List Loc, q = [] := ⟨_, rfl⟩
  have Z : zz_B D dA A h n s.heap H locs := by rw [hH, hlo]; exact Z
  have key : zz_W p l e rm_X12_begin s m args below meth c D dA A (none) hx n 0 0 H locs 0 0 0 ls [] := by
    clear hH hlo hxx
    refine lv_iconst (v := (0 : Int32)) S.1 S.2.1 dX12_begin_0 (by decide) ?_
    refine lv_istore_n (lv' := [(1, .int ((0 : Int32))), (0, .ref (a0))]) S.1 S.2.1 dX12_begin_1 rfl hl (by decide) rfl (fun ls hl => ?_)
    exact L2  ((0 : Int32), h) _ hv hk H locs ls Z (lv_sub hl [1, 0] rfl)
  rw [hH, hlo] at key
  exact key

noncomputable def f_X12_init (h : ZH) (n : Nat) (a0 : Nat) (a1 : Int32) : Option (ZH × Nat) :=
  zz_bud (1) 26 (600) 7781 <| zz_let (va_up h n (some (.inl (1, 600, .inl (fun _ => 0))))) fun h1 => (zp_V h1 a0 10 1 (.ref (n))).bind fun h2 => zz_bud (2) 26 (696) 7781 <| zz_let (va_up h2 (n + 1) (some (.inl (1, 96, .inl (fun _ => 0))))) fun h3 => (zp_V h3 a0 10 5 (.ref (n + 1))).bind fun h4 => zz_bud (3) 26 (712) 7781 <| zz_let (va_up h4 (n + 2) (some (.inl (1, 16, .inl (fun _ => 0))))) fun h5 => (zp_V h5 a0 10 6 (.ref (n + 2))).bind fun h6 => zz_bud (4) 26 (1192) 7781 <| zz_let (va_up h6 (n + 3) (some (.inl (1, 480, .inl (fun _ => 0))))) fun h7 => (zp_V h7 a0 10 8 (.ref (n + 3))).bind fun h8 => zz_bud (5) 26 (1216) 7781 <| zz_let (va_up h8 (n + 4) (some (.inl (1, 24, .inl (fun _ => 0))))) fun h9 => (zp_V h9 a0 10 9 (.ref (n + 4))).bind fun h10 => zz_bud (6) 26 (1246) 7781 <| zz_let (va_up h10 (n + 5) (some (.inl (1, 30, .inl (fun _ => 0))))) fun h11 => (zp_V h11 a0 10 11 (.ref (n + 5))).bind fun h12 => zz_bud (7) 26 (1276) 7781 <| zz_let (va_up h12 (n + 6) (some (.inl (1, 30, .inl (fun _ => 0))))) fun h13 => (zp_V h13 a0 10 12 (.ref (n + 6))).bind fun h14 => zz_bud (8) 26 (1306) 7781 <| zz_let (va_up h14 (n + 7) (some (.inl (1, 30, .inl (fun _ => 0))))) fun h15 => (zp_V h15 a0 10 13 (.ref (n + 7))).bind fun h16 => zz_bud (9) 26 (1336) 7781 <| zz_let (va_up h16 (n + 8) (some (.inl (1, 30, .inl (fun _ => 0))))) fun h17 => (zp_V h17 a0 10 14 (.ref (n + 8))).bind fun h18 => zz_bud (10) 26 (1366) 7781 <| zz_let (va_up h18 (n + 9) (some (.inl (1, 30, .inl (fun _ => 0))))) fun h19 => (zp_V h19 a0 10 15 (.ref (n + 9))).bind fun h20 => zz_bud (11) 26 (1396) 7781 <| zz_let (va_up h20 (n + 10) (some (.inl (1, 30, .inl (fun _ => 0))))) fun h21 => (zp_V h21 a0 10 16 (.ref (n + 10))).bind fun h22 => zz_bud (12) 26 (1426) 7781 <| zz_let (va_up h22 (n + 11) (some (.inl (1, 30, .inl (fun _ => 0))))) fun h23 => (zp_V h23 a0 10 17 (.ref (n + 11))).bind fun h24 => zz_bud (13) 26 (1456) 7781 <| zz_let (va_up h24 (n + 12) (some (.inl (1, 30, .inl (fun _ => 0))))) fun h25 => (zp_V h25 a0 10 18 (.ref (n + 12))).bind fun h26 => zz_bud (14) 26 (1486) 7781 <| zz_let (va_up h26 (n + 13) (some (.inl (1, 30, .inl (fun _ => 0))))) fun h27 => (zp_V h27 a0 10 19 (.ref (n + 13))).bind fun h28 => zz_bud (15) 26 (1516) 7781 <| zz_let (va_up h28 (n + 14) (some (.inl (1, 30, .inl (fun _ => 0))))) fun h29 => (zp_V h29 a0 10 20 (.ref (n + 14))).bind fun h30 => zz_bud (16) 26 (1541) 7781 <| zz_let (va_up h30 (n + 15) (some (.inl (1, 25, .inl (fun _ => 0))))) fun h31 => (zp_V h31 a0 10 21 (.ref (n + 15))).bind fun h32 => zz_bud (17) 26 (1545) 7781 <| zz_let (va_up h32 (n + 16) (some (.inl (1, 4, .inl (fun _ => 0))))) fun h33 => (zp_V h33 a0 10 22 (.ref (n + 16))).bind fun h34 => zz_bud (18) 26 (1549) 7781 <| zz_let (va_up h34 (n + 17) (some (.inl (1, 4, .inl (fun _ => 0))))) fun h35 => (zp_V h35 a0 10 23 (.ref (n + 17))).bind fun h36 => zz_bud (19) 26 (1553) 7781 <| zz_let (va_up h36 (n + 18) (some (.inl (1, 4, .inl (fun _ => 0))))) fun h37 => (zp_V h37 a0 10 24 (.ref (n + 18))).bind fun h38 => (zp_V h38 a0 10 27 (.int ((1 : Int32)))).bind fun h39 => zz_bud (20) 26 (1625) 7781 <| zz_let (va_up h39 (n + 19) (some (.inl (1, 72, .inl (fun _ => 0))))) fun h40 => (zp_V h40 a0 10 28 (.ref (n + 19))).bind fun h41 => zz_bud (21) 26 (1631) 7781 <| zz_let (va_up h41 (n + 20) (some (.inl (2, 6, .inl (fun _ => 0))))) fun h42 => (zp_V h42 a0 10 29 (.ref (n + 20))).bind fun h43 => zz_bud (22) 26 (7631) 7781 <| zz_let (va_up h43 (n + 21) (some (.inl (1, 6000, .inl (fun _ => 0))))) fun h44 => (zp_V h44 a0 10 31 (.ref (n + 21))).bind fun h45 => zz_bud (23) 26 (7641) 7781 <| zz_let (va_up h45 (n + 22) (some (.inl (1, 10, .inl (fun _ => 0))))) fun h46 => (zp_V h46 a0 10 32 (.ref (n + 22))).bind fun h47 => zz_bud (24) 26 (7681) 7781 <| zz_let (va_up h47 (n + 23) (some (.inl (1, 40, .inl (fun _ => 0))))) fun h48 => (zp_V h48 a0 10 33 (.ref (n + 23))).bind fun h49 => zz_bud (25) 26 (7721) 7781 <| zz_let (va_up h49 (n + 24) (some (.inl (1, 40, .inl (fun _ => 0))))) fun h50 => (zp_V h50 a0 10 34 (.ref (n + 24))).bind fun h51 => zz_bud (26) 26 (7781) 7781 <| zz_let (va_up h51 (n + 25) (some (.inl (1, 60, .inl (fun _ => 0))))) fun h52 => (zp_V h52 a0 10 38 (.ref (n + 25))).bind fun h53 => (zp_V h53 a0 10 3 (.int (a1))).bind fun h54 => zz_bud (26) 26 (7781) 7781 <| zz_isO h54 a0 10 <| (f_X12_begin h54 a0).bind fun h55 => zz_bud (26) 26 (7781) 7781 <| some ((h55, n + 26))
abbrev rm_X12_init : Room := { frames := 1, cells := 26, slots := 7781, locals := 21 }
set_option maxRecDepth 100000 in
set_option maxHeartbeats 4000000 in
theorem c_X12_init {l : Launch} {D : va_G} {dA : Nat → ClassId} {A : Nat → Prop} {h : ZH} {n : Nat} (a0 : Nat) (a1 : Int32) {hx : ZH} {nx : Nat} (hf : f_X12_init h n a0 a1 = some (hx, nx)) : Met l yX12_init (zz_ws yX12_init cX12_init 2 none) rm_X12_init (zz_P D dA A h n [.ref (a0), .int (a1)]) (zz_Q D dA A (none) hx nx) 26 7781 A := by
  refine zz_met (by decide) (Nat.le_of_ble_eq_true rfl) ?_
  intro p e s m args below meth c ls S K hret hlk hnm hl Z
  replace hl : lv_has ls 2 [(0, .ref (a0)), (1, .int (a1))] := hl
  obtain ⟨K0, hR0, hk⟩ : ∃ K0 : (ZH × Nat) → Prop, (∀ x, K0 x → x = (hx, nx)) ∧ K0 (hx, nx) := ⟨fun x => x = (hx, nx), fun _ h => h, rfl⟩
  have hv := hf
  unfold f_X12_init at hv
  clear hf
  obtain ⟨x, hxx⟩ : ∃ x, x = (hx, nx) := ⟨_, rfl⟩
  rw [← hxx] at hv hk
  have ⟨H, hH⟩ : ∃ H, H = s.heap := ⟨_, rfl⟩
  have ⟨locs, hlo⟩ : ∃ q : List Loc, q = [] := ⟨_, rfl⟩
  have Z : zz_B D dA A h n s.heap H locs := by rw [hH, hlo]; exact Z
  have key : zz_W p l e rm_X12_init s m args below meth c D dA A (none) hx nx 26 7781 H locs 0 0 0 ls [] := by
    clear hH hlo hxx
    refine lv_aload_n S.1 S.2.1 dX12_init_0 rfl (lv_at hl 0 rfl) ?_
    refine W.objInit S.1 S.2.1 S.2.2.2.1 (S.2.2.2.2 _ gl_X12_7) (S.2.2.2.2 _ gi_obj) (S.2.2.2.2 _ gc_obj) rfl (by rw [S.2.2.1]; exact hl.1) rfl dX12_init_1 (by decide) (Nat.le_of_ble_eq_true rfl) ?_
    show W _ _ _ _ _ _ _ _ _ _ _ _ _ _ _ (F0 m 4 ls [])
    refine lv_aload_n S.1 S.2.1 dX12_init_4 rfl (lv_at hl 0 rfl) ?_
    refine lv_sipush (v := (600 : Int32)) S.1 S.2.1 dX12_init_5 (by decide) ?_
    obtain ⟨hbd, hv⟩ := zz_bud_s hv
    refine zz_newa (atype := .int) (a0 := fun N => (N, .inl (fun _ => 0))) S K Z (by decide) hv ga_int rfl (fun h => h) (fun _ _ => rfl) (by decide) (by decide) hbd.1 hbd.2 dX12_init_8 (fun h1 H hv Z => ?_)
    show W _ _ _ _ _ _ _ _ _ _ _ _ 1 600 _ (F0 m 10 ls [.ref (n), .ref (a0)])
    refine zz_putF S K Z hv zc_10 (by decide) gf_X12_13 rfl hnm rfl rfl rfl dX12_init_10 (fun h2 H locs hv Z => ?_)
    refine lv_aload_n S.1 S.2.1 dX12_init_13 rfl (lv_at hl 0 rfl) ?_
    refine lv_bipush (v := (96 : Int32)) S.1 S.2.1 dX12_init_14 (by decide) ?_
    obtain ⟨hbd, hv⟩ := zz_bud_s hv
    refine zz_newa (atype := .int) (a0 := fun N => (N, .inl (fun _ => 0))) S K Z (by decide) hv ga_int rfl (fun h => h) (fun _ _ => rfl) (by decide) (by decide) hbd.1 hbd.2 dX12_init_16 (fun h3 H hv Z => ?_)
    show W _ _ _ _ _ _ _ _ _ _ _ _ 2 696 _ (F0 m 18 ls [.ref (n + 1), .ref (a0)])
    refine zz_putF S K Z hv zc_10 (by decide) gf_X12_17 rfl hnm rfl rfl rfl dX12_init_18 (fun h4 H locs hv Z => ?_)
    refine lv_aload_n S.1 S.2.1 dX12_init_21 rfl (lv_at hl 0 rfl) ?_
    refine lv_bipush (v := (16 : Int32)) S.1 S.2.1 dX12_init_22 (by decide) ?_
    obtain ⟨hbd, hv⟩ := zz_bud_s hv
    refine zz_newa (atype := .int) (a0 := fun N => (N, .inl (fun _ => 0))) S K Z (by decide) hv ga_int rfl (fun h => h) (fun _ _ => rfl) (by decide) (by decide) hbd.1 hbd.2 dX12_init_24 (fun h5 H hv Z => ?_)
    show W _ _ _ _ _ _ _ _ _ _ _ _ 3 712 _ (F0 m 26 ls [.ref (n + 2), .ref (a0)])
    refine zz_putF S K Z hv zc_10 (by decide) gf_X12_20 rfl hnm rfl rfl rfl dX12_init_26 (fun h6 H locs hv Z => ?_)
    refine lv_aload_n S.1 S.2.1 dX12_init_29 rfl (lv_at hl 0 rfl) ?_
    refine lv_sipush (v := (480 : Int32)) S.1 S.2.1 dX12_init_30 (by decide) ?_
    obtain ⟨hbd, hv⟩ := zz_bud_s hv
    refine zz_newa (atype := .int) (a0 := fun N => (N, .inl (fun _ => 0))) S K Z (by decide) hv ga_int rfl (fun h => h) (fun _ _ => rfl) (by decide) (by decide) hbd.1 hbd.2 dX12_init_33 (fun h7 H hv Z => ?_)
    show W _ _ _ _ _ _ _ _ _ _ _ _ 4 1192 _ (F0 m 35 ls [.ref (n + 3), .ref (a0)])
    refine zz_putF S K Z hv zc_10 (by decide) gf_X12_23 rfl hnm rfl rfl rfl dX12_init_35 (fun h8 H locs hv Z => ?_)
    refine lv_aload_n S.1 S.2.1 dX12_init_38 rfl (lv_at hl 0 rfl) ?_
    refine lv_bipush (v := (24 : Int32)) S.1 S.2.1 dX12_init_39 (by decide) ?_
    obtain ⟨hbd, hv⟩ := zz_bud_s hv
    refine zz_newa (atype := .int) (a0 := fun N => (N, .inl (fun _ => 0))) S K Z (by decide) hv ga_int rfl (fun h => h) (fun _ _ => rfl) (by decide) (by decide) hbd.1 hbd.2 dX12_init_41 (fun h9 H hv Z => ?_)
    show W _ _ _ _ _ _ _ _ _ _ _ _ 5 1216 _ (F0 m 43 ls [.ref (n + 4), .ref (a0)])
    refine zz_putF S K Z hv zc_10 (by decide) gf_X12_26 rfl hnm rfl rfl rfl dX12_init_43 (fun h10 H locs hv Z => ?_)
    refine lv_aload_n S.1 S.2.1 dX12_init_46 rfl (lv_at hl 0 rfl) ?_
    refine lv_bipush (v := (30 : Int32)) S.1 S.2.1 dX12_init_47 (by decide) ?_
    obtain ⟨hbd, hv⟩ := zz_bud_s hv
    refine zz_newa (atype := .int) (a0 := fun N => (N, .inl (fun _ => 0))) S K Z (by decide) hv ga_int rfl (fun h => h) (fun _ _ => rfl) (by decide) (by decide) hbd.1 hbd.2 dX12_init_49 (fun h11 H hv Z => ?_)
    show W _ _ _ _ _ _ _ _ _ _ _ _ 6 1246 _ (F0 m 51 ls [.ref (n + 5), .ref (a0)])
    refine zz_putF S K Z hv zc_10 (by decide) gf_X12_29 rfl hnm rfl rfl rfl dX12_init_51 (fun h12 H locs hv Z => ?_)
    refine lv_aload_n S.1 S.2.1 dX12_init_54 rfl (lv_at hl 0 rfl) ?_
    refine lv_bipush (v := (30 : Int32)) S.1 S.2.1 dX12_init_55 (by decide) ?_
    obtain ⟨hbd, hv⟩ := zz_bud_s hv
    refine zz_newa (atype := .int) (a0 := fun N => (N, .inl (fun _ => 0))) S K Z (by decide) hv ga_int rfl (fun h => h) (fun _ _ => rfl) (by decide) (by decide) hbd.1 hbd.2 dX12_init_57 (fun h13 H hv Z => ?_)
    show W _ _ _ _ _ _ _ _ _ _ _ _ 7 1276 _ (F0 m 59 ls [.ref (n + 6), .ref (a0)])
    refine zz_putF S K Z hv zc_10 (by decide) gf_X12_32 rfl hnm rfl rfl rfl dX12_init_59 (fun h14 H locs hv Z => ?_)
    refine lv_aload_n S.1 S.2.1 dX12_init_62 rfl (lv_at hl 0 rfl) ?_
    refine lv_bipush (v := (30 : Int32)) S.1 S.2.1 dX12_init_63 (by decide) ?_
    obtain ⟨hbd, hv⟩ := zz_bud_s hv
    refine zz_newa (atype := .int) (a0 := fun N => (N, .inl (fun _ => 0))) S K Z (by decide) hv ga_int rfl (fun h => h) (fun _ _ => rfl) (by decide) (by decide) hbd.1 hbd.2 dX12_init_65 (fun h15 H hv Z => ?_)
    show W _ _ _ _ _ _ _ _ _ _ _ _ 8 1306 _ (F0 m 67 ls [.ref (n + 7), .ref (a0)])
    refine zz_putF S K Z hv zc_10 (by decide) gf_X12_35 rfl hnm rfl rfl rfl dX12_init_67 (fun h16 H locs hv Z => ?_)
    refine lv_aload_n S.1 S.2.1 dX12_init_70 rfl (lv_at hl 0 rfl) ?_
    refine lv_bipush (v := (30 : Int32)) S.1 S.2.1 dX12_init_71 (by decide) ?_
    obtain ⟨hbd, hv⟩ := zz_bud_s hv
    refine zz_newa (atype := .int) (a0 := fun N => (N, .inl (fun _ => 0))) S K Z (by decide) hv ga_int rfl (fun h => h) (fun _ _ => rfl) (by decide) (by decide) hbd.1 hbd.2 dX12_init_73 (fun h17 H hv Z => ?_)
    show W _ _ _ _ _ _ _ _ _ _ _ _ 9 1336 _ (F0 m 75 ls [.ref (n + 8), .ref (a0)])
    refine zz_putF S K Z hv zc_10 (by decide) gf_X12_38 rfl hnm rfl rfl rfl dX12_init_75 (fun h18 H locs hv Z => ?_)
    refine lv_aload_n S.1 S.2.1 dX12_init_78 rfl (lv_at hl 0 rfl) ?_
    refine lv_bipush (v := (30 : Int32)) S.1 S.2.1 dX12_init_79 (by decide) ?_
    obtain ⟨hbd, hv⟩ := zz_bud_s hv
    refine zz_newa (atype := .int) (a0 := fun N => (N, .inl (fun _ => 0))) S K Z (by decide) hv ga_int rfl (fun h => h) (fun _ _ => rfl) (by decide) (by decide) hbd.1 hbd.2 dX12_init_81 (fun h19 H hv Z => ?_)
    show W _ _ _ _ _ _ _ _ _ _ _ _ 10 1366 _ (F0 m 83 ls [.ref (n + 9), .ref (a0)])
    refine zz_putF S K Z hv zc_10 (by decide) gf_X12_41 rfl hnm rfl rfl rfl dX12_init_83 (fun h20 H locs hv Z => ?_)
    refine lv_aload_n S.1 S.2.1 dX12_init_86 rfl (lv_at hl 0 rfl) ?_
    refine lv_bipush (v := (30 : Int32)) S.1 S.2.1 dX12_init_87 (by decide) ?_
    obtain ⟨hbd, hv⟩ := zz_bud_s hv
    refine zz_newa (atype := .int) (a0 := fun N => (N, .inl (fun _ => 0))) S K Z (by decide) hv ga_int rfl (fun h => h) (fun _ _ => rfl) (by decide) (by decide) hbd.1 hbd.2 dX12_init_89 (fun h21 H hv Z => ?_)
    show W _ _ _ _ _ _ _ _ _ _ _ _ 11 1396 _ (F0 m 91 ls [.ref (n + 10), .ref (a0)])
    refine zz_putF S K Z hv zc_10 (by decide) gf_X12_44 rfl hnm rfl rfl rfl dX12_init_91 (fun h22 H locs hv Z => ?_)
    refine lv_aload_n S.1 S.2.1 dX12_init_94 rfl (lv_at hl 0 rfl) ?_
    refine lv_bipush (v := (30 : Int32)) S.1 S.2.1 dX12_init_95 (by decide) ?_
    obtain ⟨hbd, hv⟩ := zz_bud_s hv
    refine zz_newa (atype := .int) (a0 := fun N => (N, .inl (fun _ => 0))) S K Z (by decide) hv ga_int rfl (fun h => h) (fun _ _ => rfl) (by decide) (by decide) hbd.1 hbd.2 dX12_init_97 (fun h23 H hv Z => ?_)
    show W _ _ _ _ _ _ _ _ _ _ _ _ 12 1426 _ (F0 m 99 ls [.ref (n + 11), .ref (a0)])
    refine zz_putF S K Z hv zc_10 (by decide) gf_X12_47 rfl hnm rfl rfl rfl dX12_init_99 (fun h24 H locs hv Z => ?_)
    refine lv_aload_n S.1 S.2.1 dX12_init_102 rfl (lv_at hl 0 rfl) ?_
    refine lv_bipush (v := (30 : Int32)) S.1 S.2.1 dX12_init_103 (by decide) ?_
    obtain ⟨hbd, hv⟩ := zz_bud_s hv
    refine zz_newa (atype := .int) (a0 := fun N => (N, .inl (fun _ => 0))) S K Z (by decide) hv ga_int rfl (fun h => h) (fun _ _ => rfl) (by decide) (by decide) hbd.1 hbd.2 dX12_init_105 (fun h25 H hv Z => ?_)
    show W _ _ _ _ _ _ _ _ _ _ _ _ 13 1456 _ (F0 m 107 ls [.ref (n + 12), .ref (a0)])
    refine zz_putF S K Z hv zc_10 (by decide) gf_X12_50 rfl hnm rfl rfl rfl dX12_init_107 (fun h26 H locs hv Z => ?_)
    refine lv_aload_n S.1 S.2.1 dX12_init_110 rfl (lv_at hl 0 rfl) ?_
    refine lv_bipush (v := (30 : Int32)) S.1 S.2.1 dX12_init_111 (by decide) ?_
    obtain ⟨hbd, hv⟩ := zz_bud_s hv
    refine zz_newa (atype := .int) (a0 := fun N => (N, .inl (fun _ => 0))) S K Z (by decide) hv ga_int rfl (fun h => h) (fun _ _ => rfl) (by decide) (by decide) hbd.1 hbd.2 dX12_init_113 (fun h27 H hv Z => ?_)
    show W _ _ _ _ _ _ _ _ _ _ _ _ 14 1486 _ (F0 m 115 ls [.ref (n + 13), .ref (a0)])
    refine zz_putF S K Z hv zc_10 (by decide) gf_X12_53 rfl hnm rfl rfl rfl dX12_init_115 (fun h28 H locs hv Z => ?_)
    refine lv_aload_n S.1 S.2.1 dX12_init_118 rfl (lv_at hl 0 rfl) ?_
    refine lv_bipush (v := (30 : Int32)) S.1 S.2.1 dX12_init_119 (by decide) ?_
    obtain ⟨hbd, hv⟩ := zz_bud_s hv
    refine zz_newa (atype := .int) (a0 := fun N => (N, .inl (fun _ => 0))) S K Z (by decide) hv ga_int rfl (fun h => h) (fun _ _ => rfl) (by decide) (by decide) hbd.1 hbd.2 dX12_init_121 (fun h29 H hv Z => ?_)
    show W _ _ _ _ _ _ _ _ _ _ _ _ 15 1516 _ (F0 m 123 ls [.ref (n + 14), .ref (a0)])
    refine zz_putF S K Z hv zc_10 (by decide) gf_X12_56 rfl hnm rfl rfl rfl dX12_init_123 (fun h30 H locs hv Z => ?_)
    refine lv_aload_n S.1 S.2.1 dX12_init_126 rfl (lv_at hl 0 rfl) ?_
    refine lv_bipush (v := (25 : Int32)) S.1 S.2.1 dX12_init_127 (by decide) ?_
    obtain ⟨hbd, hv⟩ := zz_bud_s hv
    refine zz_newa (atype := .int) (a0 := fun N => (N, .inl (fun _ => 0))) S K Z (by decide) hv ga_int rfl (fun h => h) (fun _ _ => rfl) (by decide) (by decide) hbd.1 hbd.2 dX12_init_129 (fun h31 H hv Z => ?_)
    show W _ _ _ _ _ _ _ _ _ _ _ _ 16 1541 _ (F0 m 131 ls [.ref (n + 15), .ref (a0)])
    refine zz_putF S K Z hv zc_10 (by decide) gf_X12_59 rfl hnm rfl rfl rfl dX12_init_131 (fun h32 H locs hv Z => ?_)
    refine lv_aload_n S.1 S.2.1 dX12_init_134 rfl (lv_at hl 0 rfl) ?_
    refine lv_iconst (v := (4 : Int32)) S.1 S.2.1 dX12_init_135 (by decide) ?_
    obtain ⟨hbd, hv⟩ := zz_bud_s hv
    refine zz_newa (atype := .int) (a0 := fun N => (N, .inl (fun _ => 0))) S K Z (by decide) hv ga_int rfl (fun h => h) (fun _ _ => rfl) (by decide) (by decide) hbd.1 hbd.2 dX12_init_136 (fun h33 H hv Z => ?_)
    show W _ _ _ _ _ _ _ _ _ _ _ _ 17 1545 _ (F0 m 138 ls [.ref (n + 16), .ref (a0)])
    refine zz_putF S K Z hv zc_10 (by decide) gf_X12_62 rfl hnm rfl rfl rfl dX12_init_138 (fun h34 H locs hv Z => ?_)
    refine lv_aload_n S.1 S.2.1 dX12_init_141 rfl (lv_at hl 0 rfl) ?_
    refine lv_iconst (v := (4 : Int32)) S.1 S.2.1 dX12_init_142 (by decide) ?_
    obtain ⟨hbd, hv⟩ := zz_bud_s hv
    refine zz_newa (atype := .int) (a0 := fun N => (N, .inl (fun _ => 0))) S K Z (by decide) hv ga_int rfl (fun h => h) (fun _ _ => rfl) (by decide) (by decide) hbd.1 hbd.2 dX12_init_143 (fun h35 H hv Z => ?_)
    show W _ _ _ _ _ _ _ _ _ _ _ _ 18 1549 _ (F0 m 145 ls [.ref (n + 17), .ref (a0)])
    refine zz_putF S K Z hv zc_10 (by decide) gf_X12_65 rfl hnm rfl rfl rfl dX12_init_145 (fun h36 H locs hv Z => ?_)
    refine lv_aload_n S.1 S.2.1 dX12_init_148 rfl (lv_at hl 0 rfl) ?_
    refine lv_iconst (v := (4 : Int32)) S.1 S.2.1 dX12_init_149 (by decide) ?_
    obtain ⟨hbd, hv⟩ := zz_bud_s hv
    refine zz_newa (atype := .int) (a0 := fun N => (N, .inl (fun _ => 0))) S K Z (by decide) hv ga_int rfl (fun h => h) (fun _ _ => rfl) (by decide) (by decide) hbd.1 hbd.2 dX12_init_150 (fun h37 H hv Z => ?_)
    show W _ _ _ _ _ _ _ _ _ _ _ _ 19 1553 _ (F0 m 152 ls [.ref (n + 18), .ref (a0)])
    refine zz_putF S K Z hv zc_10 (by decide) gf_X12_68 rfl hnm rfl rfl rfl dX12_init_152 (fun h38 H locs hv Z => ?_)
    refine lv_aload_n S.1 S.2.1 dX12_init_155 rfl (lv_at hl 0 rfl) ?_
    refine lv_iconst (v := (1 : Int32)) S.1 S.2.1 dX12_init_156 (by decide) ?_
    refine zz_put S K Z hv zc_10 (by decide) gf_X12_71 rfl rfl rfl dX12_init_157 (fun h39 H locs hv Z => ?_)
    refine lv_aload_n S.1 S.2.1 dX12_init_160 rfl (lv_at hl 0 rfl) ?_
    refine lv_bipush (v := (72 : Int32)) S.1 S.2.1 dX12_init_161 (by decide) ?_
    obtain ⟨hbd, hv⟩ := zz_bud_s hv
    refine zz_newa (atype := .int) (a0 := fun N => (N, .inl (fun _ => 0))) S K Z (by decide) hv ga_int rfl (fun h => h) (fun _ _ => rfl) (by decide) (by decide) hbd.1 hbd.2 dX12_init_163 (fun h40 H hv Z => ?_)
    show W _ _ _ _ _ _ _ _ _ _ _ _ 20 1625 _ (F0 m 165 ls [.ref (n + 19), .ref (a0)])
    refine zz_putF S K Z hv zc_10 (by decide) gf_X12_75 rfl hnm rfl rfl rfl dX12_init_165 (fun h41 H locs hv Z => ?_)
    refine lv_aload_n S.1 S.2.1 dX12_init_168 rfl (lv_at hl 0 rfl) ?_
    refine lv_bipush (v := (6 : Int32)) S.1 S.2.1 dX12_init_169 (by decide) ?_
    obtain ⟨hbd, hv⟩ := zz_bud_s hv
    refine zz_newa (atype := .boolean) (a0 := fun N => (N, .inl (fun _ => 0))) S K Z (by decide) hv ga_boolean rfl (fun h => h) (fun _ _ => rfl) (by decide) (by decide) hbd.1 hbd.2 dX12_init_171 (fun h42 H hv Z => ?_)
    show W _ _ _ _ _ _ _ _ _ _ _ _ 21 1631 _ (F0 m 173 ls [.ref (n + 20), .ref (a0)])
    refine zz_putF S K Z hv zc_10 (by decide) gf_X12_78 rfl hnm rfl rfl rfl dX12_init_173 (fun h43 H locs hv Z => ?_)
    refine lv_aload_n S.1 S.2.1 dX12_init_176 rfl (lv_at hl 0 rfl) ?_
    refine lv_sipush (v := (6000 : Int32)) S.1 S.2.1 dX12_init_177 (by decide) ?_
    obtain ⟨hbd, hv⟩ := zz_bud_s hv
    refine zz_newa (atype := .int) (a0 := fun N => (N, .inl (fun _ => 0))) S K Z (by decide) hv ga_int rfl (fun h => h) (fun _ _ => rfl) (by decide) (by decide) hbd.1 hbd.2 dX12_init_180 (fun h44 H hv Z => ?_)
    show W _ _ _ _ _ _ _ _ _ _ _ _ 22 7631 _ (F0 m 182 ls [.ref (n + 21), .ref (a0)])
    refine zz_putF S K Z hv zc_10 (by decide) gf_X12_82 rfl hnm rfl rfl rfl dX12_init_182 (fun h45 H locs hv Z => ?_)
    refine lv_aload_n S.1 S.2.1 dX12_init_185 rfl (lv_at hl 0 rfl) ?_
    refine lv_bipush (v := (10 : Int32)) S.1 S.2.1 dX12_init_186 (by decide) ?_
    obtain ⟨hbd, hv⟩ := zz_bud_s hv
    refine zz_newa (atype := .int) (a0 := fun N => (N, .inl (fun _ => 0))) S K Z (by decide) hv ga_int rfl (fun h => h) (fun _ _ => rfl) (by decide) (by decide) hbd.1 hbd.2 dX12_init_188 (fun h46 H hv Z => ?_)
    show W _ _ _ _ _ _ _ _ _ _ _ _ 23 7641 _ (F0 m 190 ls [.ref (n + 22), .ref (a0)])
    refine zz_putF S K Z hv zc_10 (by decide) gf_X12_85 rfl hnm rfl rfl rfl dX12_init_190 (fun h47 H locs hv Z => ?_)
    refine lv_aload_n S.1 S.2.1 dX12_init_193 rfl (lv_at hl 0 rfl) ?_
    refine lv_bipush (v := (40 : Int32)) S.1 S.2.1 dX12_init_194 (by decide) ?_
    obtain ⟨hbd, hv⟩ := zz_bud_s hv
    refine zz_newa (atype := .int) (a0 := fun N => (N, .inl (fun _ => 0))) S K Z (by decide) hv ga_int rfl (fun h => h) (fun _ _ => rfl) (by decide) (by decide) hbd.1 hbd.2 dX12_init_196 (fun h48 H hv Z => ?_)
    show W _ _ _ _ _ _ _ _ _ _ _ _ 24 7681 _ (F0 m 198 ls [.ref (n + 23), .ref (a0)])
    refine zz_putF S K Z hv zc_10 (by decide) gf_X12_88 rfl hnm rfl rfl rfl dX12_init_198 (fun h49 H locs hv Z => ?_)
    refine lv_aload_n S.1 S.2.1 dX12_init_201 rfl (lv_at hl 0 rfl) ?_
    refine lv_bipush (v := (40 : Int32)) S.1 S.2.1 dX12_init_202 (by decide) ?_
    obtain ⟨hbd, hv⟩ := zz_bud_s hv
    refine zz_newa (atype := .int) (a0 := fun N => (N, .inl (fun _ => 0))) S K Z (by decide) hv ga_int rfl (fun h => h) (fun _ _ => rfl) (by decide) (by decide) hbd.1 hbd.2 dX12_init_204 (fun h50 H hv Z => ?_)
    show W _ _ _ _ _ _ _ _ _ _ _ _ 25 7721 _ (F0 m 206 ls [.ref (n + 24), .ref (a0)])
    refine zz_putF S K Z hv zc_10 (by decide) gf_X12_91 rfl hnm rfl rfl rfl dX12_init_206 (fun h51 H locs hv Z => ?_)
    refine lv_aload_n S.1 S.2.1 dX12_init_209 rfl (lv_at hl 0 rfl) ?_
    refine lv_bipush (v := (60 : Int32)) S.1 S.2.1 dX12_init_210 (by decide) ?_
    obtain ⟨hbd, hv⟩ := zz_bud_s hv
    refine zz_newa (atype := .int) (a0 := fun N => (N, .inl (fun _ => 0))) S K Z (by decide) hv ga_int rfl (fun h => h) (fun _ _ => rfl) (by decide) (by decide) hbd.1 hbd.2 dX12_init_212 (fun h52 H hv Z => ?_)
    show W _ _ _ _ _ _ _ _ _ _ _ _ 26 7781 _ (F0 m 214 ls [.ref (n + 25), .ref (a0)])
    refine zz_putF S K Z hv zc_10 (by decide) gf_X12_94 rfl hnm rfl rfl rfl dX12_init_214 (fun h53 H locs hv Z => ?_)
    refine lv_aload_n S.1 S.2.1 dX12_init_217 rfl (lv_at hl 0 rfl) ?_
    refine lv_iload_n S.1 S.2.1 dX12_init_218 rfl (lv_at hl 1 rfl) ?_
    refine zz_put S K Z hv zc_10 (by decide) gf_X12_97 rfl rfl rfl dX12_init_219 (fun h54 H locs hv Z => ?_)
    refine lv_aload_n S.1 S.2.1 dX12_init_222 rfl (lv_at hl 0 rfl) ?_
    obtain ⟨hbd, hv⟩ := zz_bud_s hv
    obtain ⟨hci, hv⟩ := zz_isO_s hv
    obtain ⟨h55, hq, hv⟩ := zz_bd hv
    refine zz_V [] S K Z hci zc_10 rfl (c_X12_begin a0 hq) ⟨rfl, rfl⟩ gm_X12_begin gmv_X12_begin gl_X12_100 ⟨by decide, by decide⟩ rfl hl.1 rfl (Nat.le_of_ble_eq_true rfl) dX12_init_223 hbd (fun H locs Z => ?_)
    show W _ _ _ _ _ _ _ _ _ _ _ _ 26 7781 _ (F0 m 226 ls [])
    obtain ⟨hbd, hv⟩ := zz_bud_s hv
    replace hk := zz_fin hv hk
    obtain ⟨rfl, rfl⟩ := Prod.mk.inj (hR0 _ hk)
    exact zz_vret S Z hret hlk dX12_init_226 hbd.1 hbd.2
  rw [hH, hlo] at key
  exact key

noncomputable def f_X12_in (h : ZH) (a0 : Int64) (a1 : Int64) (a2 : Int64) : Option (Int32) :=
  if (lg_cmp a0 a1) < 0 then (some ((0 : Int32))) else (if 0 < (lg_cmp a0 a2) then (some ((0 : Int32))) else (some ((1 : Int32))))
abbrev rm_X12_in : Room := { frames := 0, cells := 0, slots := 0, locals := 0 }
set_option maxRecDepth 100000 in
set_option maxHeartbeats 4000000 in
theorem c_X12_in {l : Launch} {D : va_G} {dA : Nat → ClassId} {A : Nat → Prop} {h : ZH} {n : Nat} (a0 : Int64) (a1 : Int64) (a2 : Int64) {r : Int32} (hf : f_X12_in h a0 a1 a2 = some r) : Met l yX12_in (zz_ws yX12_in cX12_in 6 (some .boolean)) rm_X12_in (zz_P D dA A h n [.long (a0), .long (a1), .long (a2)]) (zz_Q D dA A (some (.int r)) h n) 0 0 A := by
  refine zz_met (by decide) (Nat.le_of_ble_eq_true rfl) ?_
  intro p e s m args below meth c ls S K hret hlk hnm hl Z
  replace hl : lv_has ls 6 [(0, .long (a0)), (2, .long (a1)), (4, .long (a2))] := hl
  obtain ⟨K0, hR0, hk⟩ : ∃ K0 : (Int32) → Prop, (∀ x, K0 x → x = r) ∧ K0 r := ⟨fun x => x = r, fun _ h => h, rfl⟩
  have hv := hf
  unfold f_X12_in at hv
  clear hf
  obtain ⟨x, hxx⟩ : ∃ x, x = r := ⟨_, rfl⟩
  rw [← hxx] at hv hk
  have ⟨H, hH⟩ : ∃ H, H = s.heap := ⟨_, rfl⟩
  have ⟨locs, hlo⟩ : ∃ q : List Loc, q = [] := ⟨_, rfl⟩
  have Z : zz_B D dA A h n s.heap H locs := by rw [hH, hlo]; exact Z
  have key : zz_W p l e rm_X12_in s m args below meth c D dA A (some (.int r)) h n 0 0 H locs 0 0 0 ls [] := by
    clear hH hlo hxx
    refine lv_lload_n S.1 S.2.1 dX12_in_0 rfl (lv_at hl 0 rfl) ?_
    refine lv_lload_n S.1 S.2.1 dX12_in_1 rfl (lv_at hl 1 rfl) ?_
    refine W.lcmp S.1 S.2.1 dX12_in_2 ?_
    refine lv_if_lt (tgt := 17) S.1 S.2.1 dX12_in_3 (by decide) (fun hc => ?_) (fun hc => ?_)
    · replace hv := (if_pos hc).symm.trans hv
      refine lv_iconst (v := (0 : Int32)) S.1 S.2.1 dX12_in_17 (by decide) ?_
      replace hk := zz_fin hv hk
      obtain rfl := hR0 _ hk
      exact zz_zret S Z hret (by decide) hlk dX12_in_18 (Nat.le_refl _) (Nat.le_refl _)
    · replace hv := (if_neg hc).symm.trans hv
      refine lv_lload_n S.1 S.2.1 dX12_in_6 rfl (lv_at hl 0 rfl) ?_
      refine lv_lload S.1 S.2.1 dX12_in_7 (lv_at hl 2 rfl) ?_
      refine W.lcmp S.1 S.2.1 dX12_in_9 ?_
      refine lv_if_gt (tgt := 17) S.1 S.2.1 dX12_in_10 (by decide) (fun hc => ?_) (fun hc => ?_)
      · replace hv := (if_pos hc).symm.trans hv
        refine lv_iconst (v := (0 : Int32)) S.1 S.2.1 dX12_in_17 (by decide) ?_
        replace hk := zz_fin hv hk
        obtain rfl := hR0 _ hk
        exact zz_zret S Z hret (by decide) hlk dX12_in_18 (Nat.le_refl _) (Nat.le_refl _)
      · replace hv := (if_neg hc).symm.trans hv
        refine lv_iconst (v := (1 : Int32)) S.1 S.2.1 dX12_in_13 (by decide) ?_
        refine lv_goto (tgt := 18) S.1 S.2.1 dX12_in_14 (by decide) ?_
        replace hk := zz_fin hv hk
        obtain rfl := hR0 _ hk
        exact zz_zret S Z hret (by decide) hlk dX12_in_18 (Nat.le_refl _) (Nat.le_refl _)
  rw [hH, hlo] at key
  exact key

noncomputable def f_X12_feed_L40 (h : ZH) (a0 : Nat) (a1 : Int64) (a2 : Int32) (x4_5 : Int32) (h6 : ZH)  : Option ((Int32 × ZH) ⊕ (Int32 × ZH)) :=
  if x4_5 < 0 then (((zg_I h6 a0 10 2).bind fun v7 => some ((v7, h6))).map Sum.inr) else ((zg_R h6 a0 10 1).bind fun v8 => (zg_I h6 a0 10 2).bind fun v9 => (zs_I h6 v8 1 v9 (((a1 >>> (((8 : Int32) * x4_5).toInt64 &&& 63)) &&& (255 : Int64)).toInt32)).bind fun h10 => (zg_I h10 a0 10 2).bind fun v11 => (zp_V h10 a0 10 2 (.int (v11 + (1 : Int32)))).bind fun h12 => some (.inl (x4_5 + (-1 : Int32), h12)))
noncomputable def f_X12_feed (h : ZH) (a0 : Nat) (a1 : Int64) (a2 : Int32) : Option (Int32 × ZH) :=
  (zp_V h a0 10 0 (.int ((0 : Int32)))).bind fun h1 => (f_X12_in h1 (a2.toInt64) (1 : Int64) (8 : Int64)).bind fun v2 => if v2 = 0 then (some (((-3 : Int32), h1))) else ((zg_I h1 a0 10 2).bind fun v3 => if (v3 + a2) ≤ (600 : Int32) then (zz_let (a2 - (1 : Int32)) fun v4 => zz_loop (fun st : (Int32 × ZH) => f_X12_feed_L40 h a0 a1 a2 (st.1) (st.2)) (v4, h1)) else (some (((-5 : Int32), h1))))
abbrev rm_X12_feed : Room := { frames := 1, cells := 0, slots := 0, locals := 25 }
set_option maxRecDepth 100000 in
set_option maxHeartbeats 4000000 in
theorem c_X12_feed {l : Launch} {D : va_G} {dA : Nat → ClassId} {A : Nat → Prop} {h : ZH} {n : Nat} (a0 : Nat) (a1 : Int64) (a2 : Int32) {r : Int32} {hx : ZH} (hf : f_X12_feed h a0 a1 a2 = some (r, hx)) : Met l yX12_feed (zz_ws yX12_feed cX12_feed 5 (some .int)) rm_X12_feed (zz_P D dA A h n [.ref (a0), .long (a1), .int (a2)]) (zz_Q D dA A (some (.int r)) hx n) 0 0 A := by
  refine zz_met (by decide) (Nat.le_of_ble_eq_true rfl) ?_
  intro p e s m args below meth c ls S K hret hlk hnm hl Z
  replace hl : lv_has ls 5 [(0, .ref (a0)), (1, .long (a1)), (3, .int (a2))] := hl
  obtain ⟨K0, hR0, hk⟩ : ∃ K0 : (Int32 × ZH) → Prop, (∀ x, K0 x → x = (r, hx)) ∧ K0 (r, hx) := ⟨fun x => x = (r, hx), fun _ h => h, rfl⟩
  have L40 : ∀ (st : (Int32 × ZH)) (x : (Int32 × ZH)), zz_loop (fun st : (Int32 × ZH) => f_X12_feed_L40 h a0 a1 a2 (st.1) (st.2)) st = some x → K0 x → (fun st : (Int32 × ZH) => ∀ (H : Heap) (locs : List Loc) (ls : Array Slot), zz_B D dA A (st.2) n s.heap H locs → lv_has ls 5 [(0, .ref (a0)), (1, .long (a1)), (4, .int ((st.1)))] → zz_W p l e rm_X12_feed s m args below meth c D dA A (some (.int r)) hx n 0 0 H locs 0 0 40 ls []) st := by
    refine zz_loop_go (K := K0) ?_
    intro K1 hP1 hR1
    rintro ⟨x4_5, h6⟩ x hv hk H locs ls Z hl
    replace hv : f_X12_feed_L40 h a0 a1 a2 x4_5 h6 = some x := hv
    unfold f_X12_feed_L40 at hv
    replace hl : lv_has ls 5 [(0, .ref (a0)), (1, .long (a1)), (4, .int (x4_5))] := hl
    replace Z : zz_B D dA A h6 n s.heap H locs := Z
    show zz_W p l e rm_X12_feed s m args below meth c D dA A (some (.int r)) hx n 0 0 H locs 0 0 40 ls []
    refine lv_iload S.1 S.2.1 dX12_feed_40 (lv_at hl 2 rfl) ?_
    refine lv_if_lt (tgt := 82) S.1 S.2.1 dX12_feed_42 (by decide) (fun hc => ?_) (fun hc => ?_)
    · replace hv := (if_pos hc).symm.trans hv
      obtain ⟨_, hv, hk⟩ := zz_mapk hv hk
      replace hk := hR1 _ hk
      refine lv_aload_n S.1 S.2.1 dX12_feed_82 rfl (lv_at hl 0 rfl) ?_
      refine zz_gI S K Z hv zc_10 (by decide) gf_X12_109 dX12_feed_83 (fun v7 hv => ?_)
      replace hk := zz_fin hv hk
      obtain ⟨rfl, rfl⟩ := Prod.mk.inj (hR0 _ hk)
      exact zz_iret S Z hret hlk dX12_feed_86 (Nat.le_refl _) (Nat.le_refl _)
    · replace hv := (if_neg hc).symm.trans hv
      refine lv_aload_n S.1 S.2.1 dX12_feed_45 rfl (lv_at hl 0 rfl) ?_
      refine zz_gR S K Z hv zc_10 (by decide) gf_X12_13 dX12_feed_46 (fun v8 hv => ?_)
      refine lv_aload_n S.1 S.2.1 dX12_feed_49 rfl (lv_at hl 0 rfl) ?_
      refine zz_gI S K Z hv zc_10 (by decide) gf_X12_109 dX12_feed_50 (fun v9 hv => ?_)
      refine lv_lload_n S.1 S.2.1 dX12_feed_53 rfl (lv_at hl 1 rfl) ?_
      refine lv_bipush (v := (8 : Int32)) S.1 S.2.1 dX12_feed_54 (by decide) ?_
      refine lv_iload S.1 S.2.1 dX12_feed_56 (lv_at hl 2 rfl) ?_
      refine lv_imul S.1 S.2.1 dX12_feed_58 ?_
      refine lv_lshr S.1 S.2.1 dX12_feed_59 rfl ?_
      refine lv_ldc2 (v := (255 : Int64)) S.1 S.2.1 S.2.2.2.1 (S.2.2.2.2 _ gk_X12_112) dX12_feed_60 ?_
      refine lv_land S.1 S.2.1 dX12_feed_63 ?_
      refine lv_l2i S.1 S.2.1 dX12_feed_64 rfl ?_
      refine zz_iast S K Z hv dX12_feed_65 (fun h10 H locs hv Z => ?_)
      refine lv_aload_n S.1 S.2.1 dX12_feed_66 rfl (lv_at hl 0 rfl) ?_
      refine lv_dup S.1 S.2.1 dX12_feed_67 rfl ?_
      refine zz_gI S K Z hv zc_10 (by decide) gf_X12_109 dX12_feed_68 (fun v11 hv => ?_)
      refine lv_iconst (v := (1 : Int32)) S.1 S.2.1 dX12_feed_71 (by decide) ?_
      refine lv_iadd S.1 S.2.1 dX12_feed_72 ?_
      refine zz_put S K Z hv zc_10 (by decide) gf_X12_109 rfl rfl rfl dX12_feed_73 (fun h12 H locs hv Z => ?_)
      refine lv_iinc (v := x4_5 + (-1 : Int32)) (lv' := [(4, .int (x4_5 + (-1 : Int32))), (0, .ref (a0)), (1, .long (a1))]) S.1 S.2.1 dX12_feed_76 hl (k := 2) rfl rfl (by decide) rfl (fun ls hl => ?_)
      refine lv_goto (tgt := 40) S.1 S.2.1 dX12_feed_79 (by decide) ?_
      replace hk := zz_fin hv hk
      exact hP1 _ hk H locs ls Z (lv_sub hl [1, 2, 0] rfl)
  have hv := hf
  unfold f_X12_feed at hv
  clear hf
  obtain ⟨x, hxx⟩ : ∃ x, x = (r, hx) := ⟨_, rfl⟩
  rw [← hxx] at hv hk
  have ⟨H, hH⟩ : ∃ H, H = s.heap := ⟨_, rfl⟩
  have ⟨locs, hlo⟩ : ∃ q : List Loc, q = [] := ⟨_, rfl⟩
  have Z : zz_B D dA A h n s.heap H locs := by rw [hH, hlo]; exact Z
  have key : zz_W p l e rm_X12_feed s m args below meth c D dA A (some (.int r)) hx n 0 0 H locs 0 0 0 ls [] := by
    clear hH hlo hxx
    refine lv_aload_n S.1 S.2.1 dX12_feed_0 rfl (lv_at hl 0 rfl) ?_
    refine lv_iconst (v := (0 : Int32)) S.1 S.2.1 dX12_feed_1 (by decide) ?_
    refine zz_put S K Z hv zc_10 (by decide) gf_X12_1 rfl rfl rfl dX12_feed_2 (fun h1 H locs hv Z => ?_)
    refine lv_iload_n S.1 S.2.1 dX12_feed_5 rfl (lv_at hl 2 rfl) ?_
    refine lv_i2l S.1 S.2.1 dX12_feed_6 rfl ?_
    refine lv_lconst (v := (1 : Int64)) S.1 S.2.1 dX12_feed_7 (by decide) ?_
    refine lv_ldc2 (v := (8 : Int64)) S.1 S.2.1 S.2.2.2.1 (S.2.2.2.2 _ gk_X12_103) dX12_feed_8 ?_
    obtain ⟨v2, hq, hv⟩ := zz_bd hv
    refine zz_S [.long (a2.toInt64), .long ((1 : Int64)), .long ((8 : Int64))] S K Z (c_X12_in (a2.toInt64) (1 : Int64) (8 : Int64) hq) ⟨rfl, rfl⟩ gm_X12_in gs_X12_in gl_X12_105 ⟨by decide, by decide⟩ rfl hl.1 rfl (Nat.le_of_ble_eq_true rfl) dX12_feed_11 ⟨Nat.zero_le _, Nat.zero_le _⟩ (fun H locs Z => ?_)
    show W _ _ _ _ _ _ _ _ _ _ _ _ 0 0 _ (F0 m 14 ls [.int (v2)])
    refine lv_if_ne (tgt := 20) S.1 S.2.1 dX12_feed_14 (by decide) (fun hc => ?_) (fun hc => ?_)
    · replace hv := (if_neg hc).symm.trans hv
      refine lv_aload_n S.1 S.2.1 dX12_feed_20 rfl (lv_at hl 0 rfl) ?_
      refine zz_gI S K Z hv zc_10 (by decide) gf_X12_109 dX12_feed_21 (fun v3 hv => ?_)
      refine lv_iload_n S.1 S.2.1 dX12_feed_24 rfl (lv_at hl 2 rfl) ?_
      refine lv_iadd S.1 S.2.1 dX12_feed_25 ?_
      refine lv_sipush (v := (600 : Int32)) S.1 S.2.1 dX12_feed_26 (by decide) ?_
      refine lv_icmp_le (tgt := 35) S.1 S.2.1 dX12_feed_29 (by decide) (fun hc => ?_) (fun hc => ?_)
      · replace hv := (if_pos hc).symm.trans hv
        refine lv_iload_n S.1 S.2.1 dX12_feed_35 rfl (lv_at hl 2 rfl) ?_
        refine lv_iconst (v := (1 : Int32)) S.1 S.2.1 dX12_feed_36 (by decide) ?_
        refine lv_isub S.1 S.2.1 dX12_feed_37 ?_
        refine zz_lt hv (G := fun w => W _ _ _ _ _ _ _ _ _ _ _ _ _ _ _ (F0 _ _ _ (.int w :: _))) (fun v4 hv => ?_)
        refine lv_istore (lv' := [(4, .int (v4)), (0, .ref (a0)), (1, .long (a1)), (3, .int (a2))]) S.1 S.2.1 dX12_feed_38 hl (by decide) rfl (fun ls hl => ?_)
        exact L40  (v4, h1) _ hv hk H locs ls Z (lv_sub hl [1, 2, 0] rfl)
      · replace hv := (if_neg hc).symm.trans hv
        refine lv_bipush (v := (-5 : Int32)) S.1 S.2.1 dX12_feed_32 (by decide) ?_
        replace hk := zz_fin hv hk
        obtain ⟨rfl, rfl⟩ := Prod.mk.inj (hR0 _ hk)
        exact zz_iret S Z hret hlk dX12_feed_34 (Nat.le_refl _) (Nat.le_refl _)
    · replace hv := (if_pos hc).symm.trans hv
      refine lv_bipush (v := (-3 : Int32)) S.1 S.2.1 dX12_feed_17 (by decide) ?_
      replace hk := zz_fin hv hk
      obtain ⟨rfl, rfl⟩ := Prod.mk.inj (hR0 _ hk)
      exact zz_iret S Z hret hlk dX12_feed_19 (Nat.le_refl _) (Nat.le_refl _)
  rw [hH, hlo] at key
  exact key

noncomputable def f_X12_isLetter (h : ZH) (a0 : Int32) : Option (Int32) :=
  (f_X12_in h (a0.toInt64) (97 : Int64) (122 : Int64)).bind fun v1 => zz_ok (v1 = 0 ∨ v1 = 1) <| some (v1)
abbrev rm_X12_isLetter : Room := { frames := 1, cells := 0, slots := 0, locals := 25 }
set_option maxRecDepth 100000 in
set_option maxHeartbeats 4000000 in
theorem c_X12_isLetter {l : Launch} {D : va_G} {dA : Nat → ClassId} {A : Nat → Prop} {h : ZH} {n : Nat} (a0 : Int32) {r : Int32} (hf : f_X12_isLetter h a0 = some r) : Met l yX12_isLetter (zz_ws yX12_isLetter cX12_isLetter 1 (some .boolean)) rm_X12_isLetter (zz_P D dA A h n [.int (a0)]) (zz_Q D dA A (some (.int r)) h n) 0 0 A := by
  refine zz_met (by decide) (Nat.le_of_ble_eq_true rfl) ?_
  intro p e s m args below meth c ls S K hret hlk hnm hl Z
  replace hl : lv_has ls 1 [(0, .int (a0))] := hl
  obtain ⟨K0, hR0, hk⟩ : ∃ K0 : (Int32) → Prop, (∀ x, K0 x → x = r) ∧ K0 r := ⟨fun x => x = r, fun _ h => h, rfl⟩
  have hv := hf
  unfold f_X12_isLetter at hv
  clear hf
  obtain ⟨x, hxx⟩ : ∃ x, x = r := ⟨_, rfl⟩
  rw [← hxx] at hv hk
  have ⟨H, hH⟩ : ∃ H, H = s.heap := ⟨_, rfl⟩
  have ⟨locs, hlo⟩ : ∃ q : List Loc, q = [] := ⟨_, rfl⟩
  have Z : zz_B D dA A h n s.heap H locs := by rw [hH, hlo]; exact Z
  have key : zz_W p l e rm_X12_isLetter s m args below meth c D dA A (some (.int r)) h n 0 0 H locs 0 0 0 ls [] := by
    clear hH hlo hxx
    refine lv_iload_n S.1 S.2.1 dX12_isLetter_0 rfl (lv_at hl 0 rfl) ?_
    refine lv_i2l S.1 S.2.1 dX12_isLetter_1 rfl ?_
    refine lv_ldc2 (v := (97 : Int64)) S.1 S.2.1 S.2.2.2.1 (S.2.2.2.2 _ gk_X12_114) dX12_isLetter_2 ?_
    refine lv_ldc2 (v := (122 : Int64)) S.1 S.2.1 S.2.2.2.1 (S.2.2.2.2 _ gk_X12_116) dX12_isLetter_5 ?_
    obtain ⟨v1, hq, hv⟩ := zz_bd hv
    refine zz_S [.long (a0.toInt64), .long ((97 : Int64)), .long ((122 : Int64))] S K Z (c_X12_in (a0.toInt64) (97 : Int64) (122 : Int64) hq) ⟨rfl, rfl⟩ gm_X12_in gs_X12_in gl_X12_105 ⟨by decide, by decide⟩ rfl hl.1 rfl (Nat.le_of_ble_eq_true rfl) dX12_isLetter_8 ⟨Nat.zero_le _, Nat.zero_le _⟩ (fun H locs Z => ?_)
    show W _ _ _ _ _ _ _ _ _ _ _ _ 0 0 _ (F0 m 11 ls [.int (v1)])
    obtain ⟨hok, hv⟩ := zz_ok_s hv
    replace hk := zz_fin hv hk
    obtain rfl := hR0 _ hk
    exact zz_zret S Z hret hok hlk dX12_isLetter_11 (Nat.le_refl _) (Nat.le_refl _)
  rw [hH, hlo] at key
  exact key

noncomputable def f_X12_isSign (h : ZH) (a0 : Int32) : Option (Int32) :=
  (f_X12_in h (a0.toInt64) (32 : Int64) (126 : Int64)).bind fun v1 => zz_ok (v1 = 0 ∨ v1 = 1) <| some (v1)
abbrev rm_X12_isSign : Room := { frames := 1, cells := 0, slots := 0, locals := 25 }
set_option maxRecDepth 100000 in
set_option maxHeartbeats 4000000 in
theorem c_X12_isSign {l : Launch} {D : va_G} {dA : Nat → ClassId} {A : Nat → Prop} {h : ZH} {n : Nat} (a0 : Int32) {r : Int32} (hf : f_X12_isSign h a0 = some r) : Met l yX12_isSign (zz_ws yX12_isSign cX12_isSign 1 (some .boolean)) rm_X12_isSign (zz_P D dA A h n [.int (a0)]) (zz_Q D dA A (some (.int r)) h n) 0 0 A := by
  refine zz_met (by decide) (Nat.le_of_ble_eq_true rfl) ?_
  intro p e s m args below meth c ls S K hret hlk hnm hl Z
  replace hl : lv_has ls 1 [(0, .int (a0))] := hl
  obtain ⟨K0, hR0, hk⟩ : ∃ K0 : (Int32) → Prop, (∀ x, K0 x → x = r) ∧ K0 r := ⟨fun x => x = r, fun _ h => h, rfl⟩
  have hv := hf
  unfold f_X12_isSign at hv
  clear hf
  obtain ⟨x, hxx⟩ : ∃ x, x = r := ⟨_, rfl⟩
  rw [← hxx] at hv hk
  have ⟨H, hH⟩ : ∃ H, H = s.heap := ⟨_, rfl⟩
  have ⟨locs, hlo⟩ : ∃ q : List Loc, q = [] := ⟨_, rfl⟩
  have Z : zz_B D dA A h n s.heap H locs := by rw [hH, hlo]; exact Z
  have key : zz_W p l e rm_X12_isSign s m args below meth c D dA A (some (.int r)) h n 0 0 H locs 0 0 0 ls [] := by
    clear hH hlo hxx
    refine lv_iload_n S.1 S.2.1 dX12_isSign_0 rfl (lv_at hl 0 rfl) ?_
    refine lv_i2l S.1 S.2.1 dX12_isSign_1 rfl ?_
    refine lv_ldc2 (v := (32 : Int64)) S.1 S.2.1 S.2.2.2.1 (S.2.2.2.2 _ gk_X12_118) dX12_isSign_2 ?_
    refine lv_ldc2 (v := (126 : Int64)) S.1 S.2.1 S.2.2.2.1 (S.2.2.2.2 _ gk_X12_120) dX12_isSign_5 ?_
    obtain ⟨v1, hq, hv⟩ := zz_bd hv
    refine zz_S [.long (a0.toInt64), .long ((32 : Int64)), .long ((126 : Int64))] S K Z (c_X12_in (a0.toInt64) (32 : Int64) (126 : Int64) hq) ⟨rfl, rfl⟩ gm_X12_in gs_X12_in gl_X12_105 ⟨by decide, by decide⟩ rfl hl.1 rfl (Nat.le_of_ble_eq_true rfl) dX12_isSign_8 ⟨Nat.zero_le _, Nat.zero_le _⟩ (fun H locs Z => ?_)
    show W _ _ _ _ _ _ _ _ _ _ _ _ 0 0 _ (F0 m 11 ls [.int (v1)])
    obtain ⟨hok, hv⟩ := zz_ok_s hv
    replace hk := zz_fin hv hk
    obtain rfl := hR0 _ hk
    exact zz_zret S Z hret hok hlk dX12_isSign_11 (Nat.le_refl _) (Nat.le_refl _)
  rw [hH, hlo] at key
  exact key

noncomputable def f_X12_wordAt_J79 (h : ZH) (a0 : Nat) (a1 : Nat) (a2 : Int32) (a3 : Int32) (x4_10 : Int32) (x5_11 : Int32) : Option ((Int32) ⊕ (Int32)) :=
  if x5_11 = 0 then (some (.inl (x4_10 + (1 : Int32)))) else ((some (x4_10)).map Sum.inr)
noncomputable def f_X12_wordAt_J71 (h : ZH) (a0 : Nat) (a1 : Nat) (a2 : Int32) (a3 : Int32) (y4_9 : Int32) (x6_15 : Int32) (s16 : Int32) : Option ((Int32 × Int32) ⊕ ((Int32) ⊕ (Int32))) :=
  some (.inl (s16, x6_15 + (1 : Int32)))
noncomputable def f_X12_wordAt_L33 (h : ZH) (a0 : Nat) (a1 : Nat) (a2 : Int32) (a3 : Int32) (y4_9 : Int32) (x5_7 : Int32) (x6_8 : Int32)  : Option ((Int32 × Int32) ⊕ ((Int32) ⊕ (Int32))) :=
  if a3 ≤ x6_8 then ((f_X12_wordAt_J79 h a0 a1 a2 a3 y4_9 x5_7).map Sum.inr) else (if x5_7 = 0 then ((f_X12_wordAt_J79 h a0 a1 a2 a3 y4_9 x5_7).map Sum.inr) else ((zg_R h a0 10 5).bind fun v12 => (zl_I h v12 1 (((6 : Int32) * y4_9) + x6_8)).bind fun v13 => (zl_I h a1 1 (a2 + x6_8)).bind fun v14 => if v13 = v14 then (f_X12_wordAt_J71 h a0 a1 a2 a3 y4_9 x6_8 (1 : Int32)) else (f_X12_wordAt_J71 h a0 a1 a2 a3 y4_9 x6_8 (0 : Int32))))
noncomputable def f_X12_wordAt_J28 (h : ZH) (a0 : Nat) (a1 : Nat) (a2 : Int32) (a3 : Int32) (x4_5 : Int32) (s6 : Int32) : Option ((Int32) ⊕ (Int32)) :=
  zz_loop (fun st : (Int32 × Int32) => f_X12_wordAt_L33 h a0 a1 a2 a3 x4_5 (st.1) (st.2)) (s6, (0 : Int32))
noncomputable def f_X12_wordAt_L3 (h : ZH) (a0 : Nat) (a1 : Nat) (a2 : Int32) (a3 : Int32) (x4_1 : Int32)  : Option ((Int32) ⊕ (Int32)) :=
  (zg_I h a0 10 4).bind fun v2 => if v2 ≤ x4_1 then ((some ((-1 : Int32))).map Sum.inr) else ((zg_R h a0 10 6).bind fun v3 => (zl_I h v3 1 x4_1).bind fun v4 => if v4 = a3 then (f_X12_wordAt_J28 h a0 a1 a2 a3 x4_1 (1 : Int32)) else (f_X12_wordAt_J28 h a0 a1 a2 a3 x4_1 (0 : Int32)))
noncomputable def f_X12_wordAt (h : ZH) (a0 : Nat) (a1 : Nat) (a2 : Int32) (a3 : Int32) : Option (Int32) :=
  zz_loop (fun st : (Int32) => f_X12_wordAt_L3 h a0 a1 a2 a3 (st)) ((0 : Int32))
abbrev rm_X12_wordAt : Room := { frames := 0, cells := 0, slots := 0, locals := 0 }
set_option maxRecDepth 100000 in
set_option maxHeartbeats 4000000 in
theorem c_X12_wordAt {l : Launch} {D : va_G} {dA : Nat → ClassId} {A : Nat → Prop} {h : ZH} {n : Nat} (a0 : Nat) (a1 : Nat) (a2 : Int32) (a3 : Int32) {r : Int32} (hf : f_X12_wordAt h a0 a1 a2 a3 = some r) : Met l yX12_wordAt (zz_ws yX12_wordAt cX12_wordAt 7 (some .int)) rm_X12_wordAt (zz_P D dA A h n [.ref (a0), .ref (a1), .int (a2), .int (a3)]) (zz_Q D dA A (some (.int r)) h n) 0 0 A := by
  refine zz_met (by decide) (Nat.le_of_ble_eq_true rfl) ?_
  intro p e s m args below meth c ls S K hret hlk hnm hl Z
  replace hl : lv_has ls 7 [(0, .ref (a0)), (1, .ref (a1)), (2, .int (a2)), (3, .int (a3))] := hl
  obtain ⟨K0, hR0, hk⟩ : ∃ K0 : (Int32) → Prop, (∀ x, K0 x → x = r) ∧ K0 r := ⟨fun x => x = r, fun _ h => h, rfl⟩
  have L3 : ∀ (st : (Int32)) (x : (Int32)), zz_loop (fun st : (Int32) => f_X12_wordAt_L3 h a0 a1 a2 a3 (st)) st = some x → K0 x → (fun st : (Int32) => ∀ (H : Heap) (locs : List Loc) (ls : Array Slot), zz_B D dA A h n s.heap H locs → lv_has ls 7 [(0, .ref (a0)), (1, .ref (a1)), (2, .int (a2)), (3, .int (a3)), (4, .int ((st)))] → zz_W p l e rm_X12_wordAt s m args below meth c D dA A (some (.int r)) h n 0 0 H locs 0 0 3 ls []) st := by
    refine zz_loop_go (K := K0) ?_
    intro K1 hP1 hR1
    have J79 : ∀ (x4_10 : Int32) (x5_11 : Int32) (x : ((Int32) ⊕ (Int32))), f_X12_wordAt_J79 h a0 a1 a2 a3 x4_10 x5_11 = some x → K1 x → ∀ (H : Heap) (locs : List Loc) (ls : Array Slot), zz_B D dA A h n s.heap H locs → lv_has ls 7 [(0, .ref (a0)), (1, .ref (a1)), (2, .int (a2)), (3, .int (a3)), (4, .int (x4_10)), (5, .int (x5_11))] → zz_W p l e rm_X12_wordAt s m args below meth c D dA A (some (.int r)) h n 0 0 H locs 0 0 79 ls [] := by
      intro x4_10 x5_11 x hv hk H locs ls Z hl
      unfold f_X12_wordAt_J79 at hv
      refine lv_iload S.1 S.2.1 dX12_wordAt_79 (lv_at hl 5 rfl) ?_
      refine lv_if_eq (tgt := 87) S.1 S.2.1 dX12_wordAt_81 (by decide) (fun hc => ?_) (fun hc => ?_)
      · replace hv := (if_pos hc).symm.trans hv
        refine lv_iinc (v := x4_10 + (1 : Int32)) (lv' := [(4, .int (x4_10 + (1 : Int32))), (0, .ref (a0)), (1, .ref (a1)), (2, .int (a2)), (3, .int (a3)), (5, .int (x5_11))]) S.1 S.2.1 dX12_wordAt_87 hl (k := 4) rfl rfl (by decide) rfl (fun ls hl => ?_)
        refine lv_goto (tgt := 3) S.1 S.2.1 dX12_wordAt_90 (by decide) ?_
        replace hk := zz_fin hv hk
        exact hP1 _ hk H locs ls Z (lv_sub hl [1, 2, 3, 4, 0] rfl)
      · replace hv := (if_neg hc).symm.trans hv
        obtain ⟨_, hv, hk⟩ := zz_mapk hv hk
        replace hk := hR1 _ hk
        refine lv_iload S.1 S.2.1 dX12_wordAt_84 (lv_at hl 4 rfl) ?_
        replace hk := zz_fin hv hk
        obtain rfl := hR0 _ hk
        exact zz_iret S Z hret hlk dX12_wordAt_86 (Nat.le_refl _) (Nat.le_refl _)
    have L33 : ∀ (y4_9 : Int32) (st : (Int32 × Int32)) (x : ((Int32) ⊕ (Int32))), zz_loop (fun st : (Int32 × Int32) => f_X12_wordAt_L33 h a0 a1 a2 a3 y4_9 (st.1) (st.2)) st = some x → K1 x → (fun st : (Int32 × Int32) => ∀ (H : Heap) (locs : List Loc) (ls : Array Slot), zz_B D dA A h n s.heap H locs → lv_has ls 7 [(0, .ref (a0)), (1, .ref (a1)), (2, .int (a2)), (3, .int (a3)), (4, .int (y4_9)), (5, .int ((st.1))), (6, .int ((st.2)))] → zz_W p l e rm_X12_wordAt s m args below meth c D dA A (some (.int r)) h n 0 0 H locs 0 0 33 ls []) st := by
      intro y4_9
      refine zz_loop_go (K := K1) ?_
      intro K2 hP2 hR2
      have J71 : ∀ (x6_15 : Int32) (s16 : Int32) (x : ((Int32 × Int32) ⊕ ((Int32) ⊕ (Int32)))), f_X12_wordAt_J71 h a0 a1 a2 a3 y4_9 x6_15 s16 = some x → K2 x → ∀ (H : Heap) (locs : List Loc) (ls : Array Slot), zz_B D dA A h n s.heap H locs → lv_has ls 7 [(0, .ref (a0)), (1, .ref (a1)), (2, .int (a2)), (3, .int (a3)), (4, .int (y4_9)), (6, .int (x6_15))] → zz_W p l e rm_X12_wordAt s m args below meth c D dA A (some (.int r)) h n 0 0 H locs 0 0 71 ls [.int (s16)] := by
        intro x6_15 s16 x hv hk H locs ls Z hl
        unfold f_X12_wordAt_J71 at hv
        refine lv_istore (lv' := [(5, .int (s16)), (0, .ref (a0)), (1, .ref (a1)), (2, .int (a2)), (3, .int (a3)), (4, .int (y4_9)), (6, .int (x6_15))]) S.1 S.2.1 dX12_wordAt_71 hl (by decide) rfl (fun ls hl => ?_)
        refine lv_iinc (v := x6_15 + (1 : Int32)) (lv' := [(6, .int (x6_15 + (1 : Int32))), (5, .int (s16)), (0, .ref (a0)), (1, .ref (a1)), (2, .int (a2)), (3, .int (a3)), (4, .int (y4_9))]) S.1 S.2.1 dX12_wordAt_73 hl (k := 6) rfl rfl (by decide) rfl (fun ls hl => ?_)
        refine lv_goto (tgt := 33) S.1 S.2.1 dX12_wordAt_76 (by decide) ?_
        replace hk := zz_fin hv hk
        exact hP2 _ hk H locs ls Z (lv_sub hl [2, 3, 4, 5, 6, 1, 0] rfl)
      rintro ⟨x5_7, x6_8⟩ x hv hk H locs ls Z hl
      replace hv : f_X12_wordAt_L33 h a0 a1 a2 a3 y4_9 x5_7 x6_8 = some x := hv
      unfold f_X12_wordAt_L33 at hv
      replace hl : lv_has ls 7 [(0, .ref (a0)), (1, .ref (a1)), (2, .int (a2)), (3, .int (a3)), (4, .int (y4_9)), (5, .int (x5_7)), (6, .int (x6_8))] := hl
      replace Z : zz_B D dA A h n s.heap H locs := Z
      show zz_W p l e rm_X12_wordAt s m args below meth c D dA A (some (.int r)) h n 0 0 H locs 0 0 33 ls []
      refine lv_iload S.1 S.2.1 dX12_wordAt_33 (lv_at hl 6 rfl) ?_
      refine lv_iload_n S.1 S.2.1 dX12_wordAt_35 rfl (lv_at hl 3 rfl) ?_
      refine lv_icmp_ge (tgt := 79) S.1 S.2.1 dX12_wordAt_36 (by decide) (fun hc => ?_) (fun hc => ?_)
      · replace hv := (if_pos hc).symm.trans hv
        obtain ⟨_, hv, hk⟩ := zz_mapk hv hk
        replace hk := hR2 _ hk
        exact J79 y4_9 x5_7 _ hv hk H locs ls Z (lv_sub hl [0, 1, 2, 3, 4, 5] rfl)
      · replace hv := (if_neg hc).symm.trans hv
        refine lv_iload S.1 S.2.1 dX12_wordAt_39 (lv_at hl 5 rfl) ?_
        refine lv_if_eq (tgt := 79) S.1 S.2.1 dX12_wordAt_41 (by decide) (fun hc => ?_) (fun hc => ?_)
        · replace hv := (if_pos hc).symm.trans hv
          obtain ⟨_, hv, hk⟩ := zz_mapk hv hk
          replace hk := hR2 _ hk
          exact J79 y4_9 x5_7 _ hv hk H locs ls Z (lv_sub hl [0, 1, 2, 3, 4, 5] rfl)
        · replace hv := (if_neg hc).symm.trans hv
          refine lv_aload_n S.1 S.2.1 dX12_wordAt_44 rfl (lv_at hl 0 rfl) ?_
          refine zz_gR S K Z hv zc_10 (by decide) gf_X12_17 dX12_wordAt_45 (fun v12 hv => ?_)
          refine lv_bipush (v := (6 : Int32)) S.1 S.2.1 dX12_wordAt_48 (by decide) ?_
          refine lv_iload S.1 S.2.1 dX12_wordAt_50 (lv_at hl 4 rfl) ?_
          refine lv_imul S.1 S.2.1 dX12_wordAt_52 ?_
          refine lv_iload S.1 S.2.1 dX12_wordAt_53 (lv_at hl 6 rfl) ?_
          refine lv_iadd S.1 S.2.1 dX12_wordAt_55 ?_
          refine zz_iald S K Z hv dX12_wordAt_56 (fun v13 hv => ?_)
          refine lv_aload_n S.1 S.2.1 dX12_wordAt_57 rfl (lv_at hl 1 rfl) ?_
          refine lv_iload_n S.1 S.2.1 dX12_wordAt_58 rfl (lv_at hl 2 rfl) ?_
          refine lv_iload S.1 S.2.1 dX12_wordAt_59 (lv_at hl 6 rfl) ?_
          refine lv_iadd S.1 S.2.1 dX12_wordAt_61 ?_
          refine zz_iald S K Z hv dX12_wordAt_62 (fun v14 hv => ?_)
          refine lv_icmp_ne (tgt := 70) S.1 S.2.1 dX12_wordAt_63 (by decide) (fun hc => ?_) (fun hc => ?_)
          · replace hv := (if_neg hc).symm.trans hv
            refine lv_iconst (v := (0 : Int32)) S.1 S.2.1 dX12_wordAt_70 (by decide) ?_
            exact J71 x6_8 (0 : Int32) _ hv hk H locs ls Z (lv_sub hl [0, 1, 2, 3, 4, 6] rfl)
          · replace hv := (if_pos hc).symm.trans hv
            refine lv_iconst (v := (1 : Int32)) S.1 S.2.1 dX12_wordAt_66 (by decide) ?_
            refine lv_goto (tgt := 71) S.1 S.2.1 dX12_wordAt_67 (by decide) ?_
            exact J71 x6_8 (1 : Int32) _ hv hk H locs ls Z (lv_sub hl [0, 1, 2, 3, 4, 6] rfl)
    have J28 : ∀ (x4_5 : Int32) (s6 : Int32) (x : ((Int32) ⊕ (Int32))), f_X12_wordAt_J28 h a0 a1 a2 a3 x4_5 s6 = some x → K1 x → ∀ (H : Heap) (locs : List Loc) (ls : Array Slot), zz_B D dA A h n s.heap H locs → lv_has ls 7 [(0, .ref (a0)), (1, .ref (a1)), (2, .int (a2)), (3, .int (a3)), (4, .int (x4_5))] → zz_W p l e rm_X12_wordAt s m args below meth c D dA A (some (.int r)) h n 0 0 H locs 0 0 28 ls [.int (s6)] := by
      intro x4_5 s6 x hv hk H locs ls Z hl
      unfold f_X12_wordAt_J28 at hv
      refine lv_istore (lv' := [(5, .int (s6)), (0, .ref (a0)), (1, .ref (a1)), (2, .int (a2)), (3, .int (a3)), (4, .int (x4_5))]) S.1 S.2.1 dX12_wordAt_28 hl (by decide) rfl (fun ls hl => ?_)
      refine lv_iconst (v := (0 : Int32)) S.1 S.2.1 dX12_wordAt_30 (by decide) ?_
      refine lv_istore (lv' := [(6, .int ((0 : Int32))), (5, .int (s6)), (0, .ref (a0)), (1, .ref (a1)), (2, .int (a2)), (3, .int (a3)), (4, .int (x4_5))]) S.1 S.2.1 dX12_wordAt_31 hl (by decide) rfl (fun ls hl => ?_)
      exact L33 x4_5 (s6, (0 : Int32)) _ hv hk H locs ls Z (lv_sub hl [2, 3, 4, 5, 6, 1, 0] rfl)
    rintro x4_1 x hv hk H locs ls Z hl
    replace hv : f_X12_wordAt_L3 h a0 a1 a2 a3 x4_1 = some x := hv
    unfold f_X12_wordAt_L3 at hv
    replace hl : lv_has ls 7 [(0, .ref (a0)), (1, .ref (a1)), (2, .int (a2)), (3, .int (a3)), (4, .int (x4_1))] := hl
    replace Z : zz_B D dA A h n s.heap H locs := Z
    show zz_W p l e rm_X12_wordAt s m args below meth c D dA A (some (.int r)) h n 0 0 H locs 0 0 3 ls []
    refine lv_iload S.1 S.2.1 dX12_wordAt_3 (lv_at hl 4 rfl) ?_
    refine lv_aload_n S.1 S.2.1 dX12_wordAt_5 rfl (lv_at hl 0 rfl) ?_
    refine zz_gI S K Z hv zc_10 (by decide) gf_X12_122 dX12_wordAt_6 (fun v2 hv => ?_)
    refine lv_icmp_ge (tgt := 93) S.1 S.2.1 dX12_wordAt_9 (by decide) (fun hc => ?_) (fun hc => ?_)
    · replace hv := (if_pos hc).symm.trans hv
      obtain ⟨_, hv, hk⟩ := zz_mapk hv hk
      replace hk := hR1 _ hk
      refine lv_iconst (v := (-1 : Int32)) S.1 S.2.1 dX12_wordAt_93 (by decide) ?_
      replace hk := zz_fin hv hk
      obtain rfl := hR0 _ hk
      exact zz_iret S Z hret hlk dX12_wordAt_94 (Nat.le_refl _) (Nat.le_refl _)
    · replace hv := (if_neg hc).symm.trans hv
      refine lv_aload_n S.1 S.2.1 dX12_wordAt_12 rfl (lv_at hl 0 rfl) ?_
      refine zz_gR S K Z hv zc_10 (by decide) gf_X12_20 dX12_wordAt_13 (fun v3 hv => ?_)
      refine lv_iload S.1 S.2.1 dX12_wordAt_16 (lv_at hl 4 rfl) ?_
      refine zz_iald S K Z hv dX12_wordAt_18 (fun v4 hv => ?_)
      refine lv_iload_n S.1 S.2.1 dX12_wordAt_19 rfl (lv_at hl 3 rfl) ?_
      refine lv_icmp_ne (tgt := 27) S.1 S.2.1 dX12_wordAt_20 (by decide) (fun hc => ?_) (fun hc => ?_)
      · replace hv := (if_neg hc).symm.trans hv
        refine lv_iconst (v := (0 : Int32)) S.1 S.2.1 dX12_wordAt_27 (by decide) ?_
        exact J28 x4_1 (0 : Int32) _ hv hk H locs ls Z (lv_sub hl [0, 1, 2, 3, 4] rfl)
      · replace hv := (if_pos hc).symm.trans hv
        refine lv_iconst (v := (1 : Int32)) S.1 S.2.1 dX12_wordAt_23 (by decide) ?_
        refine lv_goto (tgt := 28) S.1 S.2.1 dX12_wordAt_24 (by decide) ?_
        exact J28 x4_1 (1 : Int32) _ hv hk H locs ls Z (lv_sub hl [0, 1, 2, 3, 4] rfl)
  have hv := hf
  unfold f_X12_wordAt at hv
  clear hf
  obtain ⟨x, hxx⟩ : ∃ x, x = r := ⟨_, rfl⟩
  rw [← hxx] at hv hk
  have ⟨H, hH⟩ : ∃ H, H = s.heap := ⟨_, rfl⟩
  have ⟨locs, hlo⟩ : ∃ q : List Loc, q = [] := ⟨_, rfl⟩
  have Z : zz_B D dA A h n s.heap H locs := by rw [hH, hlo]; exact Z
  have key : zz_W p l e rm_X12_wordAt s m args below meth c D dA A (some (.int r)) h n 0 0 H locs 0 0 0 ls [] := by
    clear hH hlo hxx
    refine lv_iconst (v := (0 : Int32)) S.1 S.2.1 dX12_wordAt_0 (by decide) ?_
    refine lv_istore (lv' := [(4, .int ((0 : Int32))), (0, .ref (a0)), (1, .ref (a1)), (2, .int (a2)), (3, .int (a3))]) S.1 S.2.1 dX12_wordAt_1 hl (by decide) rfl (fun ls hl => ?_)
    exact L3  ((0 : Int32)) _ hv hk H locs ls Z (lv_sub hl [1, 2, 3, 4, 0] rfl)
  rw [hH, hlo] at key
  exact key
