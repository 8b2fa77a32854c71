noncomputable def f_X5_fits_J94 (h : ZH) (a0 : Nat) (a1 : Int32) (a2 : Int32) (a3 : Nat) (a4 : Int32) (y5_6 : Int32) (y6_7 : Int32) (x7_13 : Int32) (x9_14 : Int32) : Option ((Int32 × Int32) ⊕ (Int32)) :=
  some (.inl (x7_13, x9_14))
noncomputable def f_X5_fits_L29 (h : ZH) (a0 : Nat) (a1 : Int32) (a2 : Int32) (a3 : Nat) (a4 : Int32) (y5_6 : Int32) (y6_7 : Int32) (x7_4 : Int32) (x8_5 : Int32)  : Option ((Int32 × Int32) ⊕ (Int32)) :=
  if a2 ≤ x8_5 then ((if ((x7_4 >>> (y5_6 &&& 31)) &&& (1 : Int32)) = 0 then (some ((0 : Int32))) else (some ((1 : Int32)))).map Sum.inr) else ((f_X5_partEnd h a0 x8_5 a2).bind fun v8 => zz_let ((if v8 < (x8_5 + (1 : Int32)) then (x8_5 + (1 : Int32)) else v8)) fun v9 => zz_isO h a0 0 <| (f_X0_at h a0 x8_5).bind fun v10 => if v10 = (42 : Int32) then (zz_let ((x7_4 ||| (-x7_4)) &&& y6_7) fun v15 => f_X5_fits_J94 h a0 a1 a2 a3 a4 y5_6 y6_7 v15 v9) else ((f_X5_oneSignFurther h a0 x8_5 v9 a3 a4 x7_4).bind fun v11 => zz_let (v11 &&& y6_7) fun v12 => f_X5_fits_J94 h a0 a1 a2 a3 a4 y5_6 y6_7 v12 v9))
noncomputable def f_X5_fits (h : ZH) (a0 : Nat) (a1 : Int32) (a2 : Int32) (a3 : Nat) (a4 : Int32) : Option (Int32) :=
  zz_isO h a3 8 <| (f_X10_textLength h a3 a4).bind fun v1 => zz_let ((if (20 : Int32) < v1 then (20 : Int32) else v1)) fun v2 => zz_let (((1 : Int32) <<< ((v2 + (1 : Int32)) &&& 31)) - (1 : Int32)) fun v3 => zz_loop (fun st : (Int32 × Int32) => f_X5_fits_L29 h a0 a1 a2 a3 a4 v2 v3 (st.1) (st.2)) ((1 : Int32), a1)
abbrev rm_X5_fits : Room := { frames := 4, cells := 0, slots := 0, locals := 93 }
set_option maxRecDepth 100000 in
set_option maxHeartbeats 4000000 in
theorem c_X5_fits {l : Launch} {D : va_G} {dA : Nat → ClassId} {A : Nat → Prop} {h : ZH} {n : Nat} (a0 : Nat) (a1 : Int32) (a2 : Int32) (a3 : Nat) (a4 : Int32) {r : Int32} (hf : f_X5_fits h a0 a1 a2 a3 a4 = some r) : Met l yX5_fits (zz_ws yX5_fits cX5_fits 10 (some .boolean)) rm_X5_fits (zz_P D dA A h n [.ref (a0), .int (a1), .int (a2), .ref (a3), .int (a4)]) (zz_Q D dA A (some (.int r)) h n) 0 0 A := by
  refine zz_met (by decide) (Nat.le_of_ble_eq_true rfl) ?_
  intro p e s m args below meth c ls S K hret hlk hnm hl Z
  replace hl : lv_has ls 10 [(0, .ref (a0)), (1, .int (a1)), (2, .int (a2)), (3, .ref (a3)), (4, .int (a4))] := hl
  obtain ⟨K0, hR0, hk⟩ : ∃ K0 : (Int32) → Prop, (∀ x, K0 x → x = r) ∧ K0 r := ⟨fun x => x = r, fun _ h => h, rfl⟩
  have L29 : ∀ (y5_6 : Int32) (y6_7 : Int32) (st : (Int32 × Int32)) (x : (Int32)), zz_loop (fun st : (Int32 × Int32) => f_X5_fits_L29 h a0 a1 a2 a3 a4 y5_6 y6_7 (st.1) (st.2)) st = some x → K0 x → (fun st : (Int32 × Int32) => ∀ (H : Heap) (locs : List Loc) (ls : Array Slot), zz_B D dA A h n s.heap H locs → lv_has ls 10 [(0, .ref (a0)), (2, .int (a2)), (3, .ref (a3)), (4, .int (a4)), (5, .int (y5_6)), (6, .int (y6_7)), (7, .int ((st.1))), (8, .int ((st.2)))] → zz_W p l e rm_X5_fits s m args below meth c D dA A (some (.int r)) h n 0 0 H locs 0 0 29 ls []) st := by
    intro y5_6 y6_7
    refine zz_loop_go (K := K0) ?_
    intro K1 hP1 hR1
    have J94 : ∀ (x7_13 : Int32) (x9_14 : Int32) (x : ((Int32 × Int32) ⊕ (Int32))), f_X5_fits_J94 h a0 a1 a2 a3 a4 y5_6 y6_7 x7_13 x9_14 = some x → K1 x → ∀ (H : Heap) (locs : List Loc) (ls : Array Slot), zz_B D dA A h n s.heap H locs → lv_has ls 10 [(0, .ref (a0)), (2, .int (a2)), (3, .ref (a3)), (4, .int (a4)), (5, .int (y5_6)), (6, .int (y6_7)), (7, .int (x7_13)), (9, .int (x9_14))] → zz_W p l e rm_X5_fits s m args below meth c D dA A (some (.int r)) h n 0 0 H locs 0 0 94 ls [] := by
      intro x7_13 x9_14 x hv hk H locs ls Z hl
      unfold f_X5_fits_J94 at hv
      refine lv_iload S.1 S.2.1 dX5_fits_94 (lv_at hl 7 rfl) ?_
      refine lv_istore (lv' := [(8, .int (x9_14)), (0, .ref (a0)), (2, .int (a2)), (3, .ref (a3)), (4, .int (a4)), (5, .int (y5_6)), (6, .int (y6_7)), (7, .int (x7_13)), (9, .int (x9_14))]) S.1 S.2.1 dX5_fits_96 hl (by decide) rfl (fun ls hl => ?_)
      refine lv_goto (tgt := 29) S.1 S.2.1 dX5_fits_98 (by decide) ?_
      replace hk := zz_fin hv hk
      exact hP1 _ hk H locs ls Z (lv_sub hl [1, 2, 3, 4, 5, 6, 7, 0] rfl)
    rintro ⟨x7_4, x8_5⟩ x hv hk H locs ls Z hl
    replace hv : f_X5_fits_L29 h a0 a1 a2 a3 a4 y5_6 y6_7 x7_4 x8_5 = some x := hv
    unfold f_X5_fits_L29 at hv
    replace hl : lv_has ls 10 [(0, .ref (a0)), (2, .int (a2)), (3, .ref (a3)), (4, .int (a4)), (5, .int (y5_6)), (6, .int (y6_7)), (7, .int (x7_4)), (8, .int (x8_5))] := hl
    replace Z : zz_B D dA A h n s.heap H locs := Z
    show zz_W p l e rm_X5_fits s m args below meth c D dA A (some (.int r)) h n 0 0 H locs 0 0 29 ls []
    refine lv_iload S.1 S.2.1 dX5_fits_29 (lv_at hl 7 rfl) ?_
    refine lv_iload_n S.1 S.2.1 dX5_fits_31 rfl (lv_at hl 1 rfl) ?_
    refine lv_icmp_ge (tgt := 101) S.1 S.2.1 dX5_fits_32 (by decide) (fun hc => ?_) (fun hc => ?_)
    · replace hv := (if_pos hc).symm.trans hv
      obtain ⟨_, hv, hk⟩ := zz_mapk hv hk
      replace hk := hR1 _ hk
      refine lv_iload S.1 S.2.1 dX5_fits_101 (lv_at hl 6 rfl) ?_
      refine lv_iload S.1 S.2.1 dX5_fits_103 (lv_at hl 4 rfl) ?_
      refine lv_ishr S.1 S.2.1 dX5_fits_105 ?_
      refine lv_iconst (v := (1 : Int32)) S.1 S.2.1 dX5_fits_106 (by decide) ?_
      refine lv_iand S.1 S.2.1 dX5_fits_107 ?_
      refine lv_if_eq (tgt := 115) S.1 S.2.1 dX5_fits_108 (by decide) (fun hc => ?_) (fun hc => ?_)
      · replace hv := (if_pos hc).symm.trans hv
        refine lv_iconst (v := (0 : Int32)) S.1 S.2.1 dX5_fits_115 (by decide) ?_
        replace hk := zz_fin hv hk
        obtain rfl := hR0 _ hk
        exact zz_zret S Z hret (by decide) hlk dX5_fits_116 (Nat.le_refl _) (Nat.le_refl _)
      · replace hv := (if_neg hc).symm.trans hv
        refine lv_iconst (v := (1 : Int32)) S.1 S.2.1 dX5_fits_111 (by decide) ?_
        refine lv_goto (tgt := 116) S.1 S.2.1 dX5_fits_112 (by decide) ?_
        replace hk := zz_fin hv hk
        obtain rfl := hR0 _ hk
        exact zz_zret S Z hret (by decide) hlk dX5_fits_116 (Nat.le_refl _) (Nat.le_refl _)
    · replace hv := (if_neg hc).symm.trans hv
      refine lv_aload_n S.1 S.2.1 dX5_fits_35 rfl (lv_at hl 0 rfl) ?_
      refine lv_iload S.1 S.2.1 dX5_fits_36 (lv_at hl 7 rfl) ?_
      refine lv_iload_n S.1 S.2.1 dX5_fits_38 rfl (lv_at hl 1 rfl) ?_
      obtain ⟨v8, hq, hv⟩ := zz_bd hv
      refine zz_S [.ref (a0), .int (x8_5), .int (a2)] S K Z (c_X5_partEnd a0 x8_5 a2 hq) ⟨rfl, rfl⟩ gm_X5_partEnd gs_X5_partEnd gl_X5_21 ⟨by decide, by decide⟩ rfl hl.1 rfl (Nat.le_of_ble_eq_true rfl) dX5_fits_39 ⟨Nat.zero_le _, Nat.zero_le _⟩ (fun H locs Z => ?_)
      show W _ _ _ _ _ _ _ _ _ _ _ _ 0 0 _ (F0 m 42 ls [.int (v8)])
      refine lv_iload S.1 S.2.1 dX5_fits_42 (lv_at hl 7 rfl) ?_
      refine lv_iconst (v := (1 : Int32)) S.1 S.2.1 dX5_fits_44 (by decide) ?_
      refine lv_iadd S.1 S.2.1 dX5_fits_45 ?_
      refine va_mmax S.1 S.2.1 (S.2.2.1.trans hl.1.symm) S.2.2.2.1 (S.2.2.2.2 _ gl_X5_27) (S.2.2.2.2 _ gs_Mmax) (S.2.2.2.2 _ gt_J9) (S.2.2.2.2 _ gc_Mmax) (by decide) (Nat.le_of_ble_eq_true rfl) (Nat.zero_le _) (Nat.zero_le _) dX5_fits_46 ?_
      refine zz_lt hv (G := fun w => W _ _ _ _ _ _ _ _ _ _ _ _ _ _ _ (F0 _ _ _ (.int w :: _))) (fun v9 hv => ?_)
      refine lv_istore (lv' := [(9, .int (v9)), (0, .ref (a0)), (2, .int (a2)), (3, .ref (a3)), (4, .int (a4)), (5, .int (y5_6)), (6, .int (y6_7)), (7, .int (x7_4)), (8, .int (x8_5))]) S.1 S.2.1 dX5_fits_49 hl (by decide) rfl (fun ls hl => ?_)
      refine lv_aload_n S.1 S.2.1 dX5_fits_51 rfl (lv_at hl 1 rfl) ?_
      refine lv_iload S.1 S.2.1 dX5_fits_52 (lv_at hl 8 rfl) ?_
      obtain ⟨hci, hv⟩ := zz_isO_s hv
      obtain ⟨v10, hq, hv⟩ := zz_bd hv
      refine zz_V [.int (x8_5)] S K Z hci zc_0 rfl (c_X0_at a0 x8_5 hq) ⟨rfl, rfl⟩ gm_X0_at gmv_X0_at gl_X5_30 ⟨by decide, by decide⟩ rfl hl.1 rfl (Nat.le_of_ble_eq_true rfl) dX5_fits_54 ⟨Nat.zero_le _, Nat.zero_le _⟩ (fun H locs Z => ?_)
      show W _ _ _ _ _ _ _ _ _ _ _ _ 0 0 _ (F0 m 57 ls [.int (v10)])
      refine lv_bipush (v := (42 : Int32)) S.1 S.2.1 dX5_fits_57 (by decide) ?_
      refine lv_icmp_ne (tgt := 76) S.1 S.2.1 dX5_fits_59 (by decide) (fun hc => ?_) (fun hc => ?_)
      · replace hv := (if_neg hc).symm.trans hv
        refine lv_aload_n S.1 S.2.1 dX5_fits_76 rfl (lv_at hl 1 rfl) ?_
        refine lv_iload S.1 S.2.1 dX5_fits_77 (lv_at hl 8 rfl) ?_
        refine lv_iload S.1 S.2.1 dX5_fits_79 (lv_at hl 0 rfl) ?_
        refine lv_aload_n S.1 S.2.1 dX5_fits_81 rfl (lv_at hl 3 rfl) ?_
        refine lv_iload S.1 S.2.1 dX5_fits_82 (lv_at hl 4 rfl) ?_
        refine lv_iload S.1 S.2.1 dX5_fits_84 (lv_at hl 7 rfl) ?_
        obtain ⟨v11, hq, hv⟩ := zz_bd hv
        refine zz_S [.ref (a0), .int (x8_5), .int (v9), .ref (a3), .int (a4), .int (x7_4)] S K Z (c_X5_oneSignFurther a0 x8_5 v9 a3 a4 x7_4 hq) ⟨rfl, rfl⟩ gm_X5_oneSignFurther gs_X5_oneSignFurther gl_X5_35 ⟨by decide, by decide⟩ rfl hl.1 rfl (Nat.le_of_ble_eq_true rfl) dX5_fits_86 ⟨Nat.zero_le _, Nat.zero_le _⟩ (fun H locs Z => ?_)
        show W _ _ _ _ _ _ _ _ _ _ _ _ 0 0 _ (F0 m 89 ls [.int (v11)])
        refine lv_iload S.1 S.2.1 dX5_fits_89 (lv_at hl 6 rfl) ?_
        refine lv_iand S.1 S.2.1 dX5_fits_91 ?_
        refine zz_lt hv (G := fun w => W _ _ _ _ _ _ _ _ _ _ _ _ _ _ _ (F0 _ _ _ (.int w :: _))) (fun v12 hv => ?_)
        refine lv_istore (lv' := [(7, .int (v12)), (9, .int (v9)), (0, .ref (a0)), (2, .int (a2)), (3, .ref (a3)), (4, .int (a4)), (5, .int (y5_6)), (6, .int (y6_7)), (8, .int (x8_5))]) S.1 S.2.1 dX5_fits_92 hl (by decide) rfl (fun ls hl => ?_)
        exact J94 v12 v9 _ hv hk H locs ls Z (lv_sub hl [2, 3, 4, 5, 6, 7, 0, 1] rfl)
      · replace hv := (if_pos hc).symm.trans hv
        refine lv_iload S.1 S.2.1 dX5_fits_62 (lv_at hl 7 rfl) ?_
        refine lv_iload S.1 S.2.1 dX5_fits_64 (lv_at hl 7 rfl) ?_
        refine lv_ineg S.1 S.2.1 dX5_fits_66 ?_
        refine lv_ior S.1 S.2.1 dX5_fits_67 ?_
        refine lv_iload S.1 S.2.1 dX5_fits_68 (lv_at hl 6 rfl) ?_
        refine lv_iand S.1 S.2.1 dX5_fits_70 ?_
        refine zz_lt hv (G := fun w => W _ _ _ _ _ _ _ _ _ _ _ _ _ _ _ (F0 _ _ _ (.int w :: _))) (fun v15 hv => ?_)
        refine lv_istore (lv' := [(7, .int (v15)), (9, .int (v9)), (0, .ref (a0)), (2, .int (a2)), (3, .ref (a3)), (4, .int (a4)), (5, .int (y5_6)), (6, .int (y6_7)), (8, .int (x8_5))]) S.1 S.2.1 dX5_fits_71 hl (by decide) rfl (fun ls hl => ?_)
        refine lv_goto (tgt := 94) S.1 S.2.1 dX5_fits_73 (by decide) ?_
        exact J94 v15 v9 _ hv hk H locs ls Z (lv_sub hl [2, 3, 4, 5, 6, 7, 0, 1] rfl)
  have hv := hf
  unfold f_X5_fits at hv
  clear hf
  obtain ⟨x, hxx⟩ : ∃ x, x = r := ⟨_, rfl⟩
  rw [← hxx] at hv hk
  have ⟨H, hH⟩ : ∃ H, H = s.heap := ⟨_, rfl⟩
  have ⟨locs, hlo⟩ : ∃ q : List Loc, q = [] := ⟨_, rfl⟩
  have Z : zz_B D dA A h n s.heap H locs := by rw [hH, hlo]; exact Z
  have key : zz_W p l e rm_X5_fits s m args below meth c D dA A (some (.int r)) h n 0 0 H locs 0 0 0 ls [] := by
    clear hH hlo hxx
    refine lv_aload_n S.1 S.2.1 dX5_fits_0 rfl (lv_at hl 3 rfl) ?_
    refine lv_iload S.1 S.2.1 dX5_fits_1 (lv_at hl 4 rfl) ?_
    obtain ⟨hci, hv⟩ := zz_isO_s hv
    obtain ⟨v1, hq, hv⟩ := zz_bd hv
    refine zz_V [.int (a4)] S K Z hci zc_8 rfl (c_X10_textLength a3 a4 hq) ⟨rfl, rfl⟩ gm_X10_textLength gmv_X10_textLength gl_X5_9 ⟨by decide, by decide⟩ rfl hl.1 rfl (Nat.le_of_ble_eq_true rfl) dX5_fits_3 ⟨Nat.zero_le _, Nat.zero_le _⟩ (fun H locs Z => ?_)
    show W _ _ _ _ _ _ _ _ _ _ _ _ 0 0 _ (F0 m 6 ls [.int (v1)])
    refine lv_bipush (v := (20 : Int32)) S.1 S.2.1 dX5_fits_6 (by decide) ?_
    refine va_mmin S.1 S.2.1 (S.2.2.1.trans hl.1.symm) S.2.2.2.1 (S.2.2.2.2 _ gl_X5_15) (S.2.2.2.2 _ gs_Mmin) (S.2.2.2.2 _ gt_J9) (S.2.2.2.2 _ gc_Mmin) (by decide) (Nat.le_of_ble_eq_true rfl) (Nat.zero_le _) (Nat.zero_le _) dX5_fits_8 ?_
    refine zz_lt hv (G := fun w => W _ _ _ _ _ _ _ _ _ _ _ _ _ _ _ (F0 _ _ _ (.int w :: _))) (fun v2 hv => ?_)
    refine lv_istore (lv' := [(5, .int (v2)), (0, .ref (a0)), (1, .int (a1)), (2, .int (a2)), (3, .ref (a3)), (4, .int (a4))]) S.1 S.2.1 dX5_fits_11 hl (by decide) rfl (fun ls hl => ?_)
    refine lv_iconst (v := (1 : Int32)) S.1 S.2.1 dX5_fits_13 (by decide) ?_
    refine lv_iload S.1 S.2.1 dX5_fits_14 (lv_at hl 0 rfl) ?_
    refine lv_iconst (v := (1 : Int32)) S.1 S.2.1 dX5_fits_16 (by decide) ?_
    refine lv_iadd S.1 S.2.1 dX5_fits_17 ?_
    refine lv_ishl S.1 S.2.1 dX5_fits_18 ?_
    refine lv_iconst (v := (1 : Int32)) S.1 S.2.1 dX5_fits_19 (by decide) ?_
    refine lv_isub S.1 S.2.1 dX5_fits_20 ?_
    refine zz_lt hv (G := fun w => W _ _ _ _ _ _ _ _ _ _ _ _ _ _ _ (F0 _ _ _ (.int w :: _))) (fun v3 hv => ?_)
    refine lv_istore (lv' := [(6, .int (v3)), (5, .int (v2)), (0, .ref (a0)), (1, .int (a1)), (2, .int (a2)), (3, .ref (a3)), (4, .int (a4))]) S.1 S.2.1 dX5_fits_21 hl (by decide) rfl (fun ls hl => ?_)
    refine lv_iconst (v := (1 : Int32)) S.1 S.2.1 dX5_fits_23 (by decide) ?_
    refine lv_istore (lv' := [(7, .int ((1 : Int32))), (6, .int (v3)), (5, .int (v2)), (0, .ref (a0)), (1, .int (a1)), (2, .int (a2)), (3, .ref (a3)), (4, .int (a4))]) S.1 S.2.1 dX5_fits_24 hl (by decide) rfl (fun ls hl => ?_)
    refine lv_iload_n S.1 S.2.1 dX5_fits_26 rfl (lv_at hl 4 rfl) ?_
    refine lv_istore (lv' := [(8, .int (a1)), (7, .int ((1 : Int32))), (6, .int (v3)), (5, .int (v2)), (0, .ref (a0)), (1, .int (a1)), (2, .int (a2)), (3, .ref (a3)), (4, .int (a4))]) S.1 S.2.1 dX5_fits_27 hl (by decide) rfl (fun ls hl => ?_)
    exact L29 v2 v3 ((1 : Int32), a1) _ hv hk H locs ls Z (lv_sub hl [4, 6, 7, 8, 3, 2, 1, 0] rfl)
  rw [hH, hlo] at key
  exact key

noncomputable def f_X7_numberAt_L32 (h : ZH) (a0 : Nat) (a1 : Int32) (a2 : Int32) (y3_8 : Int32) (x4_6 : Int32) (x5_7 : Int32)  : Option ((Int32 × Int32) ⊕ (Int32)) :=
  if a2 ≤ x5_7 then ((if y3_8 = 0 then (some (x4_6)) else (some (-x4_6))).map Sum.inr) else (zz_isO h a0 0 <| (f_X0_at h a0 x5_7).bind fun v9 => zz_let (((x4_6 * (10 : Int32)) + v9) - (48 : Int32)) fun v10 => some (.inl (v10, x5_7 + (1 : Int32))))
noncomputable def f_X7_numberAt_J30 (h : ZH) (a0 : Nat) (a1 : Int32) (a2 : Int32) (x3_3 : Int32) (x4_4 : Int32) (s5 : Int32) : Option (Int32) :=
  zz_loop (fun st : (Int32 × Int32) => f_X7_numberAt_L32 h a0 a1 a2 x3_3 (st.1) (st.2)) (x4_4, s5)
noncomputable def f_X7_numberAt_J15 (h : ZH) (a0 : Nat) (a1 : Int32) (a2 : Int32) (s2 : Int32) : Option (Int32) :=
  if s2 = 0 then (f_X7_numberAt_J30 h a0 a1 a2 s2 (0 : Int32) a1) else (f_X7_numberAt_J30 h a0 a1 a2 s2 (0 : Int32) (a1 + (1 : Int32)))
noncomputable def f_X7_numberAt (h : ZH) (a0 : Nat) (a1 : Int32) (a2 : Int32) : Option (Int32) :=
  zz_isO h a0 0 <| (f_X0_at h a0 a1).bind fun v1 => if v1 = (45 : Int32) then (f_X7_numberAt_J15 h a0 a1 a2 (1 : Int32)) else (f_X7_numberAt_J15 h a0 a1 a2 (0 : Int32))
abbrev rm_X7_numberAt : Room := { frames := 1, cells := 0, slots := 0, locals := 21 }
set_option maxRecDepth 100000 in
set_option maxHeartbeats 4000000 in
theorem c_X7_numberAt {l : Launch} {D : va_G} {dA : Nat → ClassId} {A : Nat → Prop} {h : ZH} {n : Nat} (a0 : Nat) (a1 : Int32) (a2 : Int32) {r : Int32} (hf : f_X7_numberAt h a0 a1 a2 = some r) : Met l yX7_numberAt (zz_ws yX7_numberAt cX7_numberAt 6 (some .int)) rm_X7_numberAt (zz_P D dA A h n [.ref (a0), .int (a1), .int (a2)]) (zz_Q D dA A (some (.int r)) h n) 0 0 A := by
  refine zz_met (by decide) (Nat.le_of_ble_eq_true rfl) ?_
  intro p e s m args below meth c ls S K hret hlk hnm hl Z
  replace hl : lv_has ls 6 [(0, .ref (a0)), (1, .int (a1)), (2, .int (a2))] := hl
  obtain ⟨K0, hR0, hk⟩ : ∃ K0 : (Int32) → Prop, (∀ x, K0 x → x = r) ∧ K0 r := ⟨fun x => x = r, fun _ h => h, rfl⟩
  have L32 : ∀ (y3_8 : Int32) (st : (Int32 × Int32)) (x : (Int32)), zz_loop (fun st : (Int32 × Int32) => f_X7_numberAt_L32 h a0 a1 a2 y3_8 (st.1) (st.2)) st = some x → K0 x → (fun st : (Int32 × Int32) => ∀ (H : Heap) (locs : List Loc) (ls : Array Slot), zz_B D dA A h n s.heap H locs → lv_has ls 6 [(0, .ref (a0)), (2, .int (a2)), (3, .int (y3_8)), (4, .int ((st.1))), (5, .int ((st.2)))] → zz_W p l e rm_X7_numberAt s m args below meth c D dA A (some (.int r)) h n 0 0 H locs 0 0 32 ls []) st := by
    intro y3_8
    refine zz_loop_go (K := K0) ?_
    intro K1 hP1 hR1
    rintro ⟨x4_6, x5_7⟩ x hv hk H locs ls Z hl
    replace hv : f_X7_numberAt_L32 h a0 a1 a2 y3_8 x4_6 x5_7 = some x := hv
    unfold f_X7_numberAt_L32 at hv
    replace hl : lv_has ls 6 [(0, .ref (a0)), (2, .int (a2)), (3, .int (y3_8)), (4, .int (x4_6)), (5, .int (x5_7))] := hl
    replace Z : zz_B D dA A h n s.heap H locs := Z
    show zz_W p l e rm_X7_numberAt s m args below meth c D dA A (some (.int r)) h n 0 0 H locs 0 0 32 ls []
    refine lv_iload S.1 S.2.1 dX7_numberAt_32 (lv_at hl 4 rfl) ?_
    refine lv_iload_n S.1 S.2.1 dX7_numberAt_34 rfl (lv_at hl 1 rfl) ?_
    refine lv_icmp_ge (tgt := 61) S.1 S.2.1 dX7_numberAt_35 (by decide) (fun hc => ?_) (fun hc => ?_)
    · replace hv := (if_pos hc).symm.trans hv
      obtain ⟨_, hv, hk⟩ := zz_mapk hv hk
      replace hk := hR1 _ hk
      refine lv_iload_n S.1 S.2.1 dX7_numberAt_61 rfl (lv_at hl 2 rfl) ?_
      refine lv_if_eq (tgt := 71) S.1 S.2.1 dX7_numberAt_62 (by decide) (fun hc => ?_) (fun hc => ?_)
      · replace hv := (if_pos hc).symm.trans hv
        refine lv_iload S.1 S.2.1 dX7_numberAt_71 (lv_at hl 3 rfl) ?_
        replace hk := zz_fin hv hk
        obtain rfl := hR0 _ hk
        exact zz_iret S Z hret hlk dX7_numberAt_73 (Nat.le_refl _) (Nat.le_refl _)
      · replace hv := (if_neg hc).symm.trans hv
        refine lv_iload S.1 S.2.1 dX7_numberAt_65 (lv_at hl 3 rfl) ?_
        refine lv_ineg S.1 S.2.1 dX7_numberAt_67 ?_
        refine lv_goto (tgt := 73) S.1 S.2.1 dX7_numberAt_68 (by decide) ?_
        replace hk := zz_fin hv hk
        obtain rfl := hR0 _ hk
        exact zz_iret S Z hret hlk dX7_numberAt_73 (Nat.le_refl _) (Nat.le_refl _)
    · replace hv := (if_neg hc).symm.trans hv
      refine lv_iload S.1 S.2.1 dX7_numberAt_38 (lv_at hl 3 rfl) ?_
      refine lv_bipush (v := (10 : Int32)) S.1 S.2.1 dX7_numberAt_40 (by decide) ?_
      refine lv_imul S.1 S.2.1 dX7_numberAt_42 ?_
      refine lv_aload_n S.1 S.2.1 dX7_numberAt_43 rfl (lv_at hl 0 rfl) ?_
      refine lv_iload S.1 S.2.1 dX7_numberAt_44 (lv_at hl 4 rfl) ?_
      obtain ⟨hci, hv⟩ := zz_isO_s hv
      obtain ⟨v9, hq, hv⟩ := zz_bd hv
      refine zz_V [.int (x5_7)] S K Z hci zc_0 rfl (c_X0_at a0 x5_7 hq) ⟨rfl, rfl⟩ gm_X0_at gmv_X0_at gl_X7_60 ⟨by decide, by decide⟩ rfl hl.1 rfl (Nat.le_of_ble_eq_true rfl) dX7_numberAt_46 ⟨Nat.zero_le _, Nat.zero_le _⟩ (fun H locs Z => ?_)
      show W _ _ _ _ _ _ _ _ _ _ _ _ 0 0 _ (F0 m 49 ls [.int (v9), .int (x4_6 * (10 : Int32))])
      refine lv_iadd S.1 S.2.1 dX7_numberAt_49 ?_
      refine lv_bipush (v := (48 : Int32)) S.1 S.2.1 dX7_numberAt_50 (by decide) ?_
      refine lv_isub S.1 S.2.1 dX7_numberAt_52 ?_
      refine zz_lt hv (G := fun w => W _ _ _ _ _ _ _ _ _ _ _ _ _ _ _ (F0 _ _ _ (.int w :: _))) (fun v10 hv => ?_)
      refine lv_istore (lv' := [(4, .int (v10)), (0, .ref (a0)), (2, .int (a2)), (3, .int (y3_8)), (5, .int (x5_7))]) S.1 S.2.1 dX7_numberAt_53 hl (by decide) rfl (fun ls hl => ?_)
      refine lv_iinc (v := x5_7 + (1 : Int32)) (lv' := [(5, .int (x5_7 + (1 : Int32))), (4, .int (v10)), (0, .ref (a0)), (2, .int (a2)), (3, .int (y3_8))]) S.1 S.2.1 dX7_numberAt_55 hl (k := 4) rfl rfl (by decide) rfl (fun ls hl => ?_)
      refine lv_goto (tgt := 32) S.1 S.2.1 dX7_numberAt_58 (by decide) ?_
      replace hk := zz_fin hv hk
      exact hP1 _ hk H locs ls Z (lv_sub hl [2, 3, 4, 1, 0] rfl)
  have J30 : ∀ (x3_3 : Int32) (x4_4 : Int32) (s5 : Int32) (x : (Int32)), f_X7_numberAt_J30 h a0 a1 a2 x3_3 x4_4 s5 = some x → K0 x → ∀ (H : Heap) (locs : List Loc) (ls : Array Slot), zz_B D dA A h n s.heap H locs → lv_has ls 6 [(0, .ref (a0)), (2, .int (a2)), (3, .int (x3_3)), (4, .int (x4_4))] → zz_W p l e rm_X7_numberAt s m args below meth c D dA A (some (.int r)) h n 0 0 H locs 0 0 30 ls [.int (s5)] := by
    intro x3_3 x4_4 s5 x hv hk H locs ls Z hl
    unfold f_X7_numberAt_J30 at hv
    refine lv_istore (lv' := [(5, .int (s5)), (0, .ref (a0)), (2, .int (a2)), (3, .int (x3_3)), (4, .int (x4_4))]) S.1 S.2.1 dX7_numberAt_30 hl (by decide) rfl (fun ls hl => ?_)
    exact L32 x3_3 (x4_4, s5) _ hv hk H locs ls Z (lv_sub hl [1, 2, 3, 4, 0] rfl)
  have J15 : ∀ (s2 : Int32) (x : (Int32)), f_X7_numberAt_J15 h a0 a1 a2 s2 = some x → K0 x → ∀ (H : Heap) (locs : List Loc) (ls : Array Slot), zz_B D dA A h n s.heap H locs → lv_has ls 6 [(0, .ref (a0)), (1, .int (a1)), (2, .int (a2))] → zz_W p l e rm_X7_numberAt s m args below meth c D dA A (some (.int r)) h n 0 0 H locs 0 0 15 ls [.int (s2)] := by
    intro s2 x hv hk H locs ls Z hl
    unfold f_X7_numberAt_J15 at hv
    refine lv_istore_n (lv' := [(3, .int (s2)), (0, .ref (a0)), (1, .int (a1)), (2, .int (a2))]) S.1 S.2.1 dX7_numberAt_15 rfl hl (by decide) rfl (fun ls hl => ?_)
    refine lv_iconst (v := (0 : Int32)) S.1 S.2.1 dX7_numberAt_16 (by decide) ?_
    refine lv_istore (lv' := [(4, .int ((0 : Int32))), (3, .int (s2)), (0, .ref (a0)), (1, .int (a1)), (2, .int (a2))]) S.1 S.2.1 dX7_numberAt_17 hl (by decide) rfl (fun ls hl => ?_)
    refine lv_iload_n S.1 S.2.1 dX7_numberAt_19 rfl (lv_at hl 1 rfl) ?_
    refine lv_if_eq (tgt := 29) S.1 S.2.1 dX7_numberAt_20 (by decide) (fun hc => ?_) (fun hc => ?_)
    · replace hv := (if_pos hc).symm.trans hv
      refine lv_iload_n S.1 S.2.1 dX7_numberAt_29 rfl (lv_at hl 3 rfl) ?_
      exact J30 s2 (0 : Int32) a1 _ hv hk H locs ls Z (lv_sub hl [2, 4, 1, 0] rfl)
    · replace hv := (if_neg hc).symm.trans hv
      refine lv_iload_n S.1 S.2.1 dX7_numberAt_23 rfl (lv_at hl 3 rfl) ?_
      refine lv_iconst (v := (1 : Int32)) S.1 S.2.1 dX7_numberAt_24 (by decide) ?_
      refine lv_iadd S.1 S.2.1 dX7_numberAt_25 ?_
      refine lv_goto (tgt := 30) S.1 S.2.1 dX7_numberAt_26 (by decide) ?_
      exact J30 s2 (0 : Int32) (a1 + (1 : Int32)) _ hv hk H locs ls Z (lv_sub hl [2, 4, 1, 0] rfl)
  have hv := hf
  unfold f_X7_numberAt at hv
  clear hf
  obtain ⟨x, hxx⟩ : ∃ x, x = r := ⟨_, rfl⟩
  rw [← hxx] at hv hk
  have ⟨H, hH⟩ : ∃ H, H = s.heap := ⟨_, rfl⟩
  have ⟨locs, hlo⟩ : ∃ q : List Loc, q = [] := ⟨_, rfl⟩
  have Z : zz_B D dA A h n s.heap H locs := by rw [hH, hlo]; exact Z
  have key : zz_W p l e rm_X7_numberAt s m args below meth c D dA A (some (.int r)) h n 0 0 H locs 0 0 0 ls [] := by
    clear hH hlo hxx
    refine lv_aload_n S.1 S.2.1 dX7_numberAt_0 rfl (lv_at hl 0 rfl) ?_
    refine lv_iload_n S.1 S.2.1 dX7_numberAt_1 rfl (lv_at hl 1 rfl) ?_
    obtain ⟨hci, hv⟩ := zz_isO_s hv
    obtain ⟨v1, hq, hv⟩ := zz_bd hv
    refine zz_V [.int (a1)] S K Z hci zc_0 rfl (c_X0_at a0 a1 hq) ⟨rfl, rfl⟩ gm_X0_at gmv_X0_at gl_X7_60 ⟨by decide, by decide⟩ rfl hl.1 rfl (Nat.le_of_ble_eq_true rfl) dX7_numberAt_2 ⟨Nat.zero_le _, Nat.zero_le _⟩ (fun H locs Z => ?_)
    show W _ _ _ _ _ _ _ _ _ _ _ _ 0 0 _ (F0 m 5 ls [.int (v1)])
    refine lv_bipush (v := (45 : Int32)) S.1 S.2.1 dX7_numberAt_5 (by decide) ?_
    refine lv_icmp_ne (tgt := 14) S.1 S.2.1 dX7_numberAt_7 (by decide) (fun hc => ?_) (fun hc => ?_)
    · replace hv := (if_neg hc).symm.trans hv
      refine lv_iconst (v := (0 : Int32)) S.1 S.2.1 dX7_numberAt_14 (by decide) ?_
      exact J15 (0 : Int32) _ hv hk H locs ls Z (lv_sub hl [0, 1, 2] rfl)
    · replace hv := (if_pos hc).symm.trans hv
      refine lv_iconst (v := (1 : Int32)) S.1 S.2.1 dX7_numberAt_10 (by decide) ?_
      refine lv_goto (tgt := 15) S.1 S.2.1 dX7_numberAt_11 (by decide) ?_
      exact J15 (1 : Int32) _ hv hk H locs ls Z (lv_sub hl [0, 1, 2] rfl)
  rw [hH, hlo] at key
  exact key

noncomputable def f_X4_become_L2 (h : ZH) (a0 : Nat) (a1 : Nat) (x2_1 : Int32) (h2 : ZH)  : Option ((Int32 × ZH) ⊕ (ZH)) :=
  (zg_R h2 a0 3 0).bind fun v3 => (zl_N h2 v3 1).bind fun v4 => if v4 ≤ x2_1 then (((zg_I h2 a1 3 1).bind fun v5 => (zp_V h2 a0 3 1 (.int (v5))).bind fun h6 => (zg_I h6 a1 3 2).bind fun v7 => (zp_V h6 a0 3 2 (.int (v7))).bind fun h8 => (zg_I h8 a1 3 3).bind fun v9 => (zp_V h8 a0 3 3 (.int (v9))).bind fun h10 => (zg_I h10 a1 3 4).bind fun v11 => (zp_V h10 a0 3 4 (.int (v11))).bind fun h12 => some (h12)).map Sum.inr) else ((zg_R h2 a0 3 0).bind fun v13 => zz_isO h2 a1 3 <| (f_X4_flag h2 a1 x2_1).bind fun v14 => (zs_I h2 v13 1 x2_1 v14).bind fun h15 => some (.inl (x2_1 + (1 : Int32), h15)))
noncomputable def f_X4_become (h : ZH) (a0 : Nat) (a1 : Nat) : Option (ZH) :=
  zz_loop (fun st : (Int32 × ZH) => f_X4_become_L2 h a0 a1 (st.1) (st.2)) ((0 : Int32), h)
abbrev rm_X4_become : Room := { frames := 1, cells := 0, slots := 0, locals := 21 }
set_option maxRecDepth 100000 in
set_option maxHeartbeats 4000000 in
theorem c_X4_become {l : Launch} {D : va_G} {dA : Nat → ClassId} {A : Nat → Prop} {h : ZH} {n : Nat} (a0 : Nat) (a1 : Nat) {hx : ZH} (hf : f_X4_become h a0 a1 = some hx) : Met l yX4_become (zz_ws yX4_become cX4_become 3 none) rm_X4_become (zz_P D dA A h n [.ref (a0), .ref (a1)]) (zz_Q D dA A (none) hx n) 0 0 A := by
  refine zz_met (by decide) (Nat.le_of_ble_eq_true rfl) ?_
  intro p e s m args below meth c ls S K hret hlk hnm hl Z
  replace hl : lv_has ls 3 [(0, .ref (a0)), (1, .ref (a1))] := hl
  obtain ⟨K0, hR0, hk⟩ : ∃ K0 : (ZH) → Prop, (∀ x, K0 x → x = hx) ∧ K0 hx := ⟨fun x => x = hx, fun _ h => h, rfl⟩
  have L2 : ∀ (st : (Int32 × ZH)) (x : (ZH)), zz_loop (fun st : (Int32 × ZH) => f_X4_become_L2 h a0 a1 (st.1) (st.2)) st = some x → K0 x → (fun st : (Int32 × ZH) => ∀ (H : Heap) (locs : List Loc) (ls : Array Slot), zz_B D dA A (st.2) n s.heap H locs → lv_has ls 3 [(0, .ref (a0)), (1, .ref (a1)), (2, .int ((st.1)))] → zz_W p l e rm_X4_become s m args below meth c D dA A (none) hx n 0 0 H locs 0 0 2 ls []) st := by
    refine zz_loop_go (K := K0) ?_
    intro K1 hP1 hR1
    rintro ⟨x2_1, h2⟩ x hv hk H locs ls Z hl
    replace hv : f_X4_become_L2 h a0 a1 x2_1 h2 = some x := hv
    unfold f_X4_become_L2 at hv
    replace hl : lv_has ls 3 [(0, .ref (a0)), (1, .ref (a1)), (2, .int (x2_1))] := hl
    replace Z : zz_B D dA A h2 n s.heap H locs := Z
    show zz_W p l e rm_X4_become s m args below meth c D dA A (none) hx n 0 0 H locs 0 0 2 ls []
    refine lv_iload_n S.1 S.2.1 dX4_become_2 rfl (lv_at hl 2 rfl) ?_
    refine lv_aload_n S.1 S.2.1 dX4_become_3 rfl (lv_at hl 0 rfl) ?_
    refine zz_gR S K Z hv zc_3 (by decide) gf_X4_9 dX4_become_4 (fun v3 hv => ?_)
    refine zz_alen S K Z hv rfl dX4_become_7 (fun v4 hv => ?_)
    refine lv_icmp_ge (tgt := 28) S.1 S.2.1 dX4_become_8 (by decide) (fun hc => ?_) (fun hc => ?_)
    · replace hv := (if_pos hc).symm.trans hv
      obtain ⟨_, hv, hk⟩ := zz_mapk hv hk
      replace hk := hR1 _ hk
      refine lv_aload_n S.1 S.2.1 dX4_become_28 rfl (lv_at hl 0 rfl) ?_
      refine lv_aload_n S.1 S.2.1 dX4_become_29 rfl (lv_at hl 1 rfl) ?_
      refine zz_gI S K Z hv zc_3 (by decide) gf_X4_19 dX4_become_30 (fun v5 hv => ?_)
      refine zz_put S K Z hv zc_3 (by decide) gf_X4_19 rfl rfl rfl dX4_become_33 (fun h6 H locs hv Z => ?_)
      refine lv_aload_n S.1 S.2.1 dX4_become_36 rfl (lv_at hl 0 rfl) ?_
      refine lv_aload_n S.1 S.2.1 dX4_become_37 rfl (lv_at hl 1 rfl) ?_
      refine zz_gI S K Z hv zc_3 (by decide) gf_X4_22 dX4_become_38 (fun v7 hv => ?_)
      refine zz_put S K Z hv zc_3 (by decide) gf_X4_22 rfl rfl rfl dX4_become_41 (fun h8 H locs hv Z => ?_)
      refine lv_aload_n S.1 S.2.1 dX4_become_44 rfl (lv_at hl 0 rfl) ?_
      refine lv_aload_n S.1 S.2.1 dX4_become_45 rfl (lv_at hl 1 rfl) ?_
      refine zz_gI S K Z hv zc_3 (by decide) gf_X4_25 dX4_become_46 (fun v9 hv => ?_)
      refine zz_put S K Z hv zc_3 (by decide) gf_X4_25 rfl rfl rfl dX4_become_49 (fun h10 H locs hv Z => ?_)
      refine lv_aload_n S.1 S.2.1 dX4_become_52 rfl (lv_at hl 0 rfl) ?_
      refine lv_aload_n S.1 S.2.1 dX4_become_53 rfl (lv_at hl 1 rfl) ?_
      refine zz_gI S K Z hv zc_3 (by decide) gf_X4_15 dX4_become_54 (fun v11 hv => ?_)
      refine zz_put S K Z hv zc_3 (by decide) gf_X4_15 rfl rfl rfl dX4_become_57 (fun h12 H locs hv Z => ?_)
      replace hk := zz_fin hv hk
      obtain rfl := hR0 _ hk
      exact zz_vret S Z hret hlk dX4_become_60 (Nat.le_refl _) (Nat.le_refl _)
    · replace hv := (if_neg hc).symm.trans hv
      refine lv_aload_n S.1 S.2.1 dX4_become_11 rfl (lv_at hl 0 rfl) ?_
      refine zz_gR S K Z hv zc_3 (by decide) gf_X4_9 dX4_become_12 (fun v13 hv => ?_)
      refine lv_iload_n S.1 S.2.1 dX4_become_15 rfl (lv_at hl 2 rfl) ?_
      refine lv_aload_n S.1 S.2.1 dX4_become_16 rfl (lv_at hl 1 rfl) ?_
      refine lv_iload_n S.1 S.2.1 dX4_become_17 rfl (lv_at hl 2 rfl) ?_
      obtain ⟨hci, hv⟩ := zz_isO_s hv
      obtain ⟨v14, hq, hv⟩ := zz_bd hv
      refine zz_V [.int (x2_1)] S K Z hci zc_3 rfl (c_X4_flag a1 x2_1 hq) ⟨rfl, rfl⟩ gm_X4_flag gmv_X4_flag gl_X4_28 ⟨by decide, by decide⟩ rfl hl.1 rfl (Nat.le_of_ble_eq_true rfl) dX4_become_18 ⟨Nat.zero_le _, Nat.zero_le _⟩ (fun H locs Z => ?_)
      show W _ _ _ _ _ _ _ _ _ _ _ _ 0 0 _ (F0 m 21 ls [.int (v14), .int (x2_1), .ref (v13)])
      refine zz_iast S K Z hv dX4_become_21 (fun h15 H locs hv Z => ?_)
      refine lv_iinc (v := x2_1 + (1 : Int32)) (lv' := [(2, .int (x2_1 + (1 : Int32))), (0, .ref (a0)), (1, .ref (a1))]) S.1 S.2.1 dX4_become_22 hl (k := 2) rfl rfl (by decide) rfl (fun ls hl => ?_)
      refine lv_goto (tgt := 2) S.1 S.2.1 dX4_become_25 (by decide) ?_
      replace hk := zz_fin hv hk
      exact hP1 _ hk H locs ls Z (lv_sub hl [1, 2, 0] rfl)
  have hv := hf
  unfold f_X4_become at hv
  clear hf
  obtain ⟨x, hxx⟩ : ∃ x, x = hx := ⟨_, rfl⟩
  rw [← hxx] at hv hk
  have ⟨H, hH⟩ : ∃ H, H = s.heap := ⟨_, rfl⟩
  have ⟨locs, hlo⟩ : ∃ q : List Loc, q = [] := ⟨_, rfl⟩
  have Z : zz_B D dA A h n s.heap H locs := by rw [hH, hlo]; exact Z
  have key : zz_W p l e rm_X4_become s m args below meth c D dA A (none) hx n 0 0 H locs 0 0 0 ls [] := by
    clear hH hlo hxx
    refine lv_iconst (v := (0 : Int32)) S.1 S.2.1 dX4_become_0 (by decide) ?_
    refine lv_istore_n (lv' := [(2, .int ((0 : Int32))), (0, .ref (a0)), (1, .ref (a1))]) S.1 S.2.1 dX4_become_1 rfl hl (by decide) rfl (fun ls hl => ?_)
    exact L2  ((0 : Int32), h) _ hv hk H locs ls Z (lv_sub hl [1, 2, 0] rfl)
  rw [hH, hlo] at key
  exact key

noncomputable def f_X7_keepPoint (h : ZH) (a0 : Nat) (a1 : Int32) : Option (Int32 × ZH) :=
  if a1 < 0 then (some (((0 : Int32), h))) else ((zg_R h a0 5 2).bind fun v1 => (zl_N h v1 6).bind fun v2 => if v2 ≤ a1 then (some (((0 : Int32), h))) else ((zg_R h a0 5 3).bind fun v3 => (zl_N h v3 2).bind fun v4 => if a1 < v4 then ((zg_R h a0 5 2).bind fun v5 => (zl_R h v5 6 a1).bind fun v6 => (zg_R h a0 5 1).bind fun v7 => (zg_R h v7 6 1).bind fun v8 => zz_isO h v6 3 <| (f_X4_become h v6 v8).bind fun h9 => (zg_R h9 a0 5 3).bind fun v10 => (zs_I h9 v10 2 a1 (vp_nar .boolean (1 : Int32))).bind fun h11 => some (((1 : Int32), h11))) else (some (((0 : Int32), h)))))
abbrev rm_X7_keepPoint : Room := { frames := 2, cells := 0, slots := 0, locals := 43 }
set_option maxRecDepth 100000 in
set_option maxHeartbeats 4000000 in
theorem c_X7_keepPoint {l : Launch} {D : va_G} {dA : Nat → ClassId} {A : Nat → Prop} {h : ZH} {n : Nat} (a0 : Nat) (a1 : Int32) {r : Int32} {hx : ZH} (hf : f_X7_keepPoint h a0 a1 = some (r, hx)) : Met l yX7_keepPoint (zz_ws yX7_keepPoint cX7_keepPoint 2 (some .boolean)) rm_X7_keepPoint (zz_P D dA A h n [.ref (a0), .int (a1)]) (zz_Q D dA A (some (.int r)) hx n) 0 0 A := by
  refine zz_met (by decide) (Nat.le_of_ble_eq_true rfl) ?_
  intro p e s m args below meth c ls S K hret hlk hnm hl Z
  replace hl : lv_has ls 2 [(0, .ref (a0)), (1, .int (a1))] := hl
  obtain ⟨K0, hR0, hk⟩ : ∃ K0 : (Int32 × ZH) → Prop, (∀ x, K0 x → x = (r, hx)) ∧ K0 (r, hx) := ⟨fun x => x = (r, hx), fun _ h => h, rfl⟩
  have hv := hf
  unfold f_X7_keepPoint at hv
  clear hf
  obtain ⟨x, hxx⟩ : ∃ x, x = (r, hx) := ⟨_, rfl⟩
  rw [← hxx] at hv hk
  have ⟨H, hH⟩ : ∃ H, H = s.heap := ⟨_, rfl⟩
  have ⟨locs, hlo⟩ : ∃ q : List Loc, q = [] := ⟨_, rfl⟩
  have Z : zz_B D dA A h n s.heap H locs := by rw [hH, hlo]; exact Z
  have key : zz_W p l e rm_X7_keepPoint s m args below meth c D dA A (some (.int r)) hx n 0 0 H locs 0 0 0 ls [] := by
    clear hH hlo hxx
    refine lv_iload_n S.1 S.2.1 dX7_keepPoint_0 rfl (lv_at hl 1 rfl) ?_
    refine lv_if_lt (tgt := 22) S.1 S.2.1 dX7_keepPoint_1 (by decide) (fun hc => ?_) (fun hc => ?_)
    · replace hv := (if_pos hc).symm.trans hv
      refine lv_iconst (v := (0 : Int32)) S.1 S.2.1 dX7_keepPoint_22 (by decide) ?_
      replace hk := zz_fin hv hk
      obtain ⟨rfl, rfl⟩ := Prod.mk.inj (hR0 _ hk)
      exact zz_zret S Z hret (by decide) hlk dX7_keepPoint_23 (Nat.le_refl _) (Nat.le_refl _)
    · replace hv := (if_neg hc).symm.trans hv
      refine lv_iload_n S.1 S.2.1 dX7_keepPoint_4 rfl (lv_at hl 1 rfl) ?_
      refine lv_aload_n S.1 S.2.1 dX7_keepPoint_5 rfl (lv_at hl 0 rfl) ?_
      refine zz_gR S K Z hv zc_5 (by decide) gf_X7_11 dX7_keepPoint_6 (fun v1 hv => ?_)
      refine zz_alen S K Z hv rfl dX7_keepPoint_9 (fun v2 hv => ?_)
      refine lv_icmp_ge (tgt := 22) S.1 S.2.1 dX7_keepPoint_10 (by decide) (fun hc => ?_) (fun hc => ?_)
      · replace hv := (if_pos hc).symm.trans hv
        refine lv_iconst (v := (0 : Int32)) S.1 S.2.1 dX7_keepPoint_22 (by decide) ?_
        replace hk := zz_fin hv hk
        obtain ⟨rfl, rfl⟩ := Prod.mk.inj (hR0 _ hk)
        exact zz_zret S Z hret (by decide) hlk dX7_keepPoint_23 (Nat.le_refl _) (Nat.le_refl _)
      · replace hv := (if_neg hc).symm.trans hv
        refine lv_iload_n S.1 S.2.1 dX7_keepPoint_13 rfl (lv_at hl 1 rfl) ?_
        refine lv_aload_n S.1 S.2.1 dX7_keepPoint_14 rfl (lv_at hl 0 rfl) ?_
        refine zz_gR S K Z hv zc_5 (by decide) gf_X7_17 dX7_keepPoint_15 (fun v3 hv => ?_)
        refine zz_alen S K Z hv rfl dX7_keepPoint_18 (fun v4 hv => ?_)
        refine lv_icmp_lt (tgt := 24) S.1 S.2.1 dX7_keepPoint_19 (by decide) (fun hc => ?_) (fun hc => ?_)
        · replace hv := (if_pos hc).symm.trans hv
          refine lv_aload_n S.1 S.2.1 dX7_keepPoint_24 rfl (lv_at hl 0 rfl) ?_
          refine zz_gR S K Z hv zc_5 (by decide) gf_X7_11 dX7_keepPoint_25 (fun v5 hv => ?_)
          refine lv_iload_n S.1 S.2.1 dX7_keepPoint_28 rfl (lv_at hl 1 rfl) ?_
          refine zz_aald S K Z hv rfl dX7_keepPoint_29 (fun v6 hv => ?_)
          refine lv_aload_n S.1 S.2.1 dX7_keepPoint_30 rfl (lv_at hl 0 rfl) ?_
          refine zz_gR S K Z hv zc_5 (by decide) gf_X7_32 dX7_keepPoint_31 (fun v7 hv => ?_)
          refine zz_gR S K Z hv zc_6 (by decide) gf_X7_75 dX7_keepPoint_34 (fun v8 hv => ?_)
          obtain ⟨hci, hv⟩ := zz_isO_s hv
          obtain ⟨h9, hq, hv⟩ := zz_bd hv
          refine zz_V [.ref (v8)] S K Z hci zc_3 rfl (c_X4_become v6 v8 hq) ⟨rfl, rfl⟩ gm_X4_become gmv_X4_become gl_X7_125 ⟨by decide, by decide⟩ rfl hl.1 rfl (Nat.le_of_ble_eq_true rfl) dX7_keepPoint_37 ⟨Nat.zero_le _, Nat.zero_le _⟩ (fun H locs Z => ?_)
          show W _ _ _ _ _ _ _ _ _ _ _ _ 0 0 _ (F0 m 40 ls [])
          refine lv_aload_n S.1 S.2.1 dX7_keepPoint_40 rfl (lv_at hl 0 rfl) ?_
          refine zz_gR S K Z hv zc_5 (by decide) gf_X7_17 dX7_keepPoint_41 (fun v10 hv => ?_)
          refine lv_iload_n S.1 S.2.1 dX7_keepPoint_44 rfl (lv_at hl 1 rfl) ?_
          refine lv_iconst (v := (1 : Int32)) S.1 S.2.1 dX7_keepPoint_45 (by decide) ?_
          refine zz_zast S K Z hv dX7_keepPoint_46 (fun h11 H locs hv Z => ?_)
          refine lv_iconst (v := (1 : Int32)) S.1 S.2.1 dX7_keepPoint_47 (by decide) ?_
          replace hk := zz_fin hv hk
          obtain ⟨rfl, rfl⟩ := Prod.mk.inj (hR0 _ hk)
          exact zz_zret S Z hret (by decide) hlk dX7_keepPoint_48 (Nat.le_refl _) (Nat.le_refl _)
        · replace hv := (if_neg hc).symm.trans hv
          refine lv_iconst (v := (0 : Int32)) S.1 S.2.1 dX7_keepPoint_22 (by decide) ?_
          replace hk := zz_fin hv hk
          obtain ⟨rfl, rfl⟩ := Prod.mk.inj (hR0 _ hk)
          exact zz_zret S Z hret (by decide) hlk dX7_keepPoint_23 (Nat.le_refl _) (Nat.le_refl _)
  rw [hH, hlo] at key
  exact key

noncomputable def f_X7_goBack (h : ZH) (a0 : Nat) (a1 : Int32) : Option (Int32 × ZH) :=
  if a1 < 0 then (some (((0 : Int32), h))) else ((zg_R h a0 5 2).bind fun v1 => (zl_N h v1 6).bind fun v2 => if v2 ≤ a1 then (some (((0 : Int32), h))) else ((zg_R h a0 5 3).bind fun v3 => (zl_N h v3 2).bind fun v4 => if v4 ≤ a1 then (some (((0 : Int32), h))) else ((zg_R h a0 5 3).bind fun v5 => (zl_I h v5 2 a1).bind fun v6 => if v6 = 0 then (some (((0 : Int32), h))) else ((zg_R h a0 5 1).bind fun v7 => (zg_R h v7 6 1).bind fun v8 => (zg_R h a0 5 2).bind fun v9 => (zl_R h v9 6 a1).bind fun v10 => zz_isO h v8 3 <| (f_X4_become h v8 v10).bind fun h11 => some (((1 : Int32), h11))))))
abbrev rm_X7_goBack : Room := { frames := 2, cells := 0, slots := 0, locals := 43 }
set_option maxRecDepth 100000 in
set_option maxHeartbeats 4000000 in
theorem c_X7_goBack {l : Launch} {D : va_G} {dA : Nat → ClassId} {A : Nat → Prop} {h : ZH} {n : Nat} (a0 : Nat) (a1 : Int32) {r : Int32} {hx : ZH} (hf : f_X7_goBack h a0 a1 = some (r, hx)) : Met l yX7_goBack (zz_ws yX7_goBack cX7_goBack 2 (some .boolean)) rm_X7_goBack (zz_P D dA A h n [.ref (a0), .int (a1)]) (zz_Q D dA A (some (.int r)) hx n) 0 0 A := by
  refine zz_met (by decide) (Nat.le_of_ble_eq_true rfl) ?_
  intro p e s m args below meth c ls S K hret hlk hnm hl Z
  replace hl : lv_has ls 2 [(0, .ref (a0)), (1, .int (a1))] := hl
  obtain ⟨K0, hR0, hk⟩ : ∃ K0 : (Int32 × ZH) → Prop, (∀ x, K0 x → x = (r, hx)) ∧ K0 (r, hx) := ⟨fun x => x = (r, hx), fun _ h => h, rfl⟩
  have hv := hf
  unfold f_X7_goBack at hv
  clear hf
  obtain ⟨x, hxx⟩ : ∃ x, x = (r, hx) := ⟨_, rfl⟩
  rw [← hxx] at hv hk
  have ⟨H, hH⟩ : ∃ H, H = s.heap := ⟨_, rfl⟩
  have ⟨locs, hlo⟩ : ∃ q : List Loc, q = [] := ⟨_, rfl⟩
  have Z : zz_B D dA A h n s.heap H locs := by rw [hH, hlo]; exact Z
  have key : zz_W p l e rm_X7_goBack s m args below meth c D dA A (some (.int r)) hx n 0 0 H locs 0 0 0 ls [] := by
    clear hH hlo hxx
    refine lv_iload_n S.1 S.2.1 dX7_goBack_0 rfl (lv_at hl 1 rfl) ?_
    refine lv_if_lt (tgt := 31) S.1 S.2.1 dX7_goBack_1 (by decide) (fun hc => ?_) (fun hc => ?_)
    · replace hv := (if_pos hc).symm.trans hv
      refine lv_iconst (v := (0 : Int32)) S.1 S.2.1 dX7_goBack_31 (by decide) ?_
      replace hk := zz_fin hv hk
      obtain ⟨rfl, rfl⟩ := Prod.mk.inj (hR0 _ hk)
      exact zz_zret S Z hret (by decide) hlk dX7_goBack_32 (Nat.le_refl _) (Nat.le_refl _)
    · replace hv := (if_neg hc).symm.trans hv
      refine lv_iload_n S.1 S.2.1 dX7_goBack_4 rfl (lv_at hl 1 rfl) ?_
      refine lv_aload_n S.1 S.2.1 dX7_goBack_5 rfl (lv_at hl 0 rfl) ?_
      refine zz_gR S K Z hv zc_5 (by decide) gf_X7_11 dX7_goBack_6 (fun v1 hv => ?_)
      refine zz_alen S K Z hv rfl dX7_goBack_9 (fun v2 hv => ?_)
      refine lv_icmp_ge (tgt := 31) S.1 S.2.1 dX7_goBack_10 (by decide) (fun hc => ?_) (fun hc => ?_)
      · replace hv := (if_pos hc).symm.trans hv
        refine lv_iconst (v := (0 : Int32)) S.1 S.2.1 dX7_goBack_31 (by decide) ?_
        replace hk := zz_fin hv hk
        obtain ⟨rfl, rfl⟩ := Prod.mk.inj (hR0 _ hk)
        exact zz_zret S Z hret (by decide) hlk dX7_goBack_32 (Nat.le_refl _) (Nat.le_refl _)
      · replace hv := (if_neg hc).symm.trans hv
        refine lv_iload_n S.1 S.2.1 dX7_goBack_13 rfl (lv_at hl 1 rfl) ?_
        refine lv_aload_n S.1 S.2.1 dX7_goBack_14 rfl (lv_at hl 0 rfl) ?_
        refine zz_gR S K Z hv zc_5 (by decide) gf_X7_17 dX7_goBack_15 (fun v3 hv => ?_)
        refine zz_alen S K Z hv rfl dX7_goBack_18 (fun v4 hv => ?_)
        refine lv_icmp_ge (tgt := 31) S.1 S.2.1 dX7_goBack_19 (by decide) (fun hc => ?_) (fun hc => ?_)
        · replace hv := (if_pos hc).symm.trans hv
          refine lv_iconst (v := (0 : Int32)) S.1 S.2.1 dX7_goBack_31 (by decide) ?_
          replace hk := zz_fin hv hk
          obtain ⟨rfl, rfl⟩ := Prod.mk.inj (hR0 _ hk)
          exact zz_zret S Z hret (by decide) hlk dX7_goBack_32 (Nat.le_refl _) (Nat.le_refl _)
        · replace hv := (if_neg hc).symm.trans hv
          refine lv_aload_n S.1 S.2.1 dX7_goBack_22 rfl (lv_at hl 0 rfl) ?_
          refine zz_gR S K Z hv zc_5 (by decide) gf_X7_17 dX7_goBack_23 (fun v5 hv => ?_)
          refine lv_iload_n S.1 S.2.1 dX7_goBack_26 rfl (lv_at hl 1 rfl) ?_
          refine zz_zald S K Z hv dX7_goBack_27 (fun v6 hv => ?_)
          refine lv_if_ne (tgt := 33) S.1 S.2.1 dX7_goBack_28 (by decide) (fun hc => ?_) (fun hc => ?_)
          · replace hv := (if_neg hc).symm.trans hv
            refine lv_aload_n S.1 S.2.1 dX7_goBack_33 rfl (lv_at hl 0 rfl) ?_
            refine zz_gR S K Z hv zc_5 (by decide) gf_X7_32 dX7_goBack_34 (fun v7 hv => ?_)
            refine zz_gR S K Z hv zc_6 (by decide) gf_X7_75 dX7_goBack_37 (fun v8 hv => ?_)
            refine lv_aload_n S.1 S.2.1 dX7_goBack_40 rfl (lv_at hl 0 rfl) ?_
            refine zz_gR S K Z hv zc_5 (by decide) gf_X7_11 dX7_goBack_41 (fun v9 hv => ?_)
            refine lv_iload_n S.1 S.2.1 dX7_goBack_44 rfl (lv_at hl 1 rfl) ?_
            refine zz_aald S K Z hv rfl dX7_goBack_45 (fun v10 hv => ?_)
            obtain ⟨hci, hv⟩ := zz_isO_s hv
            obtain ⟨h11, hq, hv⟩ := zz_bd hv
            refine zz_V [.ref (v10)] S K Z hci zc_3 rfl (c_X4_become v8 v10 hq) ⟨rfl, rfl⟩ gm_X4_become gmv_X4_become gl_X7_125 ⟨by decide, by decide⟩ rfl hl.1 rfl (Nat.le_of_ble_eq_true rfl) dX7_goBack_46 ⟨Nat.zero_le _, Nat.zero_le _⟩ (fun H locs Z => ?_)
            show W _ _ _ _ _ _ _ _ _ _ _ _ 0 0 _ (F0 m 49 ls [])
            refine lv_iconst (v := (1 : Int32)) S.1 S.2.1 dX7_goBack_49 (by decide) ?_
            replace hk := zz_fin hv hk
            obtain ⟨rfl, rfl⟩ := Prod.mk.inj (hR0 _ hk)
            exact zz_zret S Z hret (by decide) hlk dX7_goBack_50 (Nat.le_refl _) (Nat.le_refl _)
          · replace hv := (if_pos hc).symm.trans hv
            refine lv_iconst (v := (0 : Int32)) S.1 S.2.1 dX7_goBack_31 (by decide) ?_
            replace hk := zz_fin hv hk
            obtain ⟨rfl, rfl⟩ := Prod.mk.inj (hR0 _ hk)
            exact zz_zret S Z hret (by decide) hlk dX7_goBack_32 (Nat.le_refl _) (Nat.le_refl _)
  rw [hH, hlo] at key
  exact key

noncomputable def f_X7_comesOut (h : ZH) (a0 : Nat) (a1 : Nat) (a2 : Int32) (a3 : Int32) : Option (Int32 × ZH) :=
  zz_let (a2 + (2 : Int32)) fun v1 => zz_isO h a1 0 <| (f_X0_at h a1 v1).bind fun v2 => zz_let (v2 - (48 : Int32)) fun v3 => zz_isO h a1 0 <| (f_X0_at h a1 a2).bind fun v4 => if v4 = (33 : Int32) then ((zg_R h a0 5 1).bind fun v5 => (zg_R h v5 6 1).bind fun v6 => (zg_I h v6 3 3).bind fun v7 => if v7 = v3 then (some (((1 : Int32), h))) else (some (((0 : Int32), h)))) else (if v4 = (61 : Int32) then ((zg_R h a0 5 1).bind fun v8 => (zg_R h v8 6 1).bind fun v9 => (zg_I h v9 3 4).bind fun v10 => if v10 = (-2 : Int32) then (some (((0 : Int32), h))) else ((zg_R h a0 5 0).bind fun v11 => (zg_R h a0 5 1).bind fun v12 => (zg_R h v12 6 1).bind fun v13 => (zg_I h v13 3 4).bind fun v14 => (f_X5_fits h a1 v1 a3 v11 v14).bind fun v15 => if v15 = 0 then (some (((0 : Int32), h))) else (some (((1 : Int32), h))))) else (if v4 = (63 : Int32) then ((zg_R h a0 5 1).bind fun v16 => (zg_R h v16 6 1).bind fun v17 => zz_isO h v17 3 <| (f_X4_flag h v17 v3).bind fun v18 => (f_X7_numberAt h a1 (v1 + (2 : Int32)) a3).bind fun v19 => if v18 = v19 then (some (((1 : Int32), h))) else (some (((0 : Int32), h)))) else (if v4 = (64 : Int32) then ((zg_R h a0 5 1).bind fun v20 => (zg_R h v20 6 1).bind fun v21 => (zg_I h v21 3 1).bind fun v22 => if v22 = v3 then (some (((1 : Int32), h))) else (some (((0 : Int32), h)))) else (if v4 = (98 : Int32) then (zz_isO h a0 5 <| (f_X7_goBack h a0 v3).bind fun (v23, h24) => zz_ok (v23 = 0 ∨ v23 = 1) <| some ((v23, h24))) else (if v4 = (115 : Int32) then (zz_isO h a0 5 <| (f_X7_keepPoint h a0 v3).bind fun (v25, h26) => zz_ok (v25 = 0 ∨ v25 = 1) <| some ((v25, h26))) else (some (((1 : Int32), h))))))))
abbrev rm_X7_comesOut : Room := { frames := 5, cells := 0, slots := 0, locals := 122 }
set_option maxRecDepth 100000 in
set_option maxHeartbeats 4000000 in
theorem c_X7_comesOut {l : Launch} {D : va_G} {dA : Nat → ClassId} {A : Nat → Prop} {h : ZH} {n : Nat} (a0 : Nat) (a1 : Nat) (a2 : Int32) (a3 : Int32) {r : Int32} {hx : ZH} (hf : f_X7_comesOut h a0 a1 a2 a3 = some (r, hx)) : Met l yX7_comesOut (zz_ws yX7_comesOut cX7_comesOut 6 (some .boolean)) rm_X7_comesOut (zz_P D dA A h n [.ref (a0), .ref (a1), .int (a2), .int (a3)]) (zz_Q D dA A (some (.int r)) hx n) 0 0 A := by
  refine zz_met (by decide) (Nat.le_of_ble_eq_true rfl) ?_
  intro p e s m args below meth c ls S K hret hlk hnm hl Z
  replace hl : lv_has ls 6 [(0, .ref (a0)), (1, .ref (a1)), (2, .int (a2)), (3, .int (a3))] := hl
  obtain ⟨K0, hR0, hk⟩ : ∃ K0 : (Int32 × ZH) → Prop, (∀ x, K0 x → x = (r, hx)) ∧ K0 (r, hx) := ⟨fun x => x = (r, hx), fun _ h => h, rfl⟩
  have hv := hf
  unfold f_X7_comesOut at hv
  clear hf
  obtain ⟨x, hxx⟩ : ∃ x, x = (r, hx) := ⟨_, rfl⟩
  rw [← hxx] at hv hk
  have ⟨H, hH⟩ : ∃ H, H = s.heap := ⟨_, rfl⟩
  have ⟨locs, hlo⟩ : ∃ q : List Loc, q = [] := ⟨_, rfl⟩
  have Z : zz_B D dA A h n s.heap H locs := by rw [hH, hlo]; exact Z
  have key : zz_W p l e rm_X7_comesOut s m args below meth c D dA A (some (.int r)) hx n 0 0 H locs 0 0 0 ls [] := by
    clear hH hlo hxx
    refine lv_iload_n S.1 S.2.1 dX7_comesOut_0 rfl (lv_at hl 2 rfl) ?_
    refine lv_iconst (v := (2 : Int32)) S.1 S.2.1 dX7_comesOut_1 (by decide) ?_
    refine lv_iadd S.1 S.2.1 dX7_comesOut_2 ?_
    refine zz_lt hv (G := fun w => W _ _ _ _ _ _ _ _ _ _ _ _ _ _ _ (F0 _ _ _ (.int w :: _))) (fun v1 hv => ?_)
    refine lv_istore (lv' := [(4, .int (v1)), (0, .ref (a0)), (1, .ref (a1)), (2, .int (a2)), (3, .int (a3))]) S.1 S.2.1 dX7_comesOut_3 hl (by decide) rfl (fun ls hl => ?_)
    refine lv_aload_n S.1 S.2.1 dX7_comesOut_5 rfl (lv_at hl 2 rfl) ?_
    refine lv_iload S.1 S.2.1 dX7_comesOut_6 (lv_at hl 0 rfl) ?_
    obtain ⟨hci, hv⟩ := zz_isO_s hv
    obtain ⟨v2, hq, hv⟩ := zz_bd hv
    refine zz_V [.int (v1)] S K Z hci zc_0 rfl (c_X0_at a1 v1 hq) ⟨rfl, rfl⟩ gm_X0_at gmv_X0_at gl_X7_60 ⟨by decide, by decide⟩ rfl hl.1 rfl (Nat.le_of_ble_eq_true rfl) dX7_comesOut_8 ⟨Nat.zero_le _, Nat.zero_le _⟩ (fun H locs Z => ?_)
    show W _ _ _ _ _ _ _ _ _ _ _ _ 0 0 _ (F0 m 11 ls [.int (v2)])
    refine lv_bipush (v := (48 : Int32)) S.1 S.2.1 dX7_comesOut_11 (by decide) ?_
    refine lv_isub S.1 S.2.1 dX7_comesOut_13 ?_
    refine zz_lt hv (G := fun w => W _ _ _ _ _ _ _ _ _ _ _ _ _ _ _ (F0 _ _ _ (.int w :: _))) (fun v3 hv => ?_)
    refine lv_istore (lv' := [(5, .int (v3)), (4, .int (v1)), (0, .ref (a0)), (1, .ref (a1)), (2, .int (a2)), (3, .int (a3))]) S.1 S.2.1 dX7_comesOut_14 hl (by decide) rfl (fun ls hl => ?_)
    refine lv_aload_n S.1 S.2.1 dX7_comesOut_16 rfl (lv_at hl 3 rfl) ?_
    refine lv_iload_n S.1 S.2.1 dX7_comesOut_17 rfl (lv_at hl 4 rfl) ?_
    obtain ⟨hci, hv⟩ := zz_isO_s hv
    obtain ⟨v4, hq, hv⟩ := zz_bd hv
    refine zz_V [.int (a2)] S K Z hci zc_0 rfl (c_X0_at a1 a2 hq) ⟨rfl, rfl⟩ gm_X0_at gmv_X0_at gl_X7_60 ⟨by decide, by decide⟩ rfl hl.1 rfl (Nat.le_of_ble_eq_true rfl) dX7_comesOut_18 ⟨Nat.zero_le _, Nat.zero_le _⟩ (fun H locs Z => ?_)
    show W _ _ _ _ _ _ _ _ _ _ _ _ 0 0 _ (F0 m 21 ls [.int (v4)])
    by_cases hc33 : v4 = (33 : Int32)
    · replace hv := (if_pos hc33).symm.trans hv
      refine lv_lookup (tgt := 176) S.1 S.2.1 dX7_comesOut_21 (by decide) (by rw [hc33] <;> rfl) (by decide) ?_
      refine lv_aload_n S.1 S.2.1 dX7_comesOut_176 rfl (lv_at hl 2 rfl) ?_
      refine zz_gR S K Z hv zc_5 (by decide) gf_X7_32 dX7_comesOut_177 (fun v5 hv => ?_)
      refine zz_gR S K Z hv zc_6 (by decide) gf_X7_75 dX7_comesOut_180 (fun v6 hv => ?_)
      refine zz_gI S K Z hv zc_3 (by decide) gf_X7_98 dX7_comesOut_183 (fun v7 hv => ?_)
      refine lv_iload S.1 S.2.1 dX7_comesOut_186 (lv_at hl 0 rfl) ?_
      refine lv_icmp_ne (tgt := 195) S.1 S.2.1 dX7_comesOut_188 (by decide) (fun hc => ?_) (fun hc => ?_)
      · replace hv := (if_neg hc).symm.trans hv
        refine lv_iconst (v := (0 : Int32)) S.1 S.2.1 dX7_comesOut_195 (by decide) ?_
        replace hk := zz_fin hv hk
        obtain ⟨rfl, rfl⟩ := Prod.mk.inj (hR0 _ hk)
        exact zz_zret S Z hret (by decide) hlk dX7_comesOut_196 (Nat.le_refl _) (Nat.le_refl _)
      · replace hv := (if_pos hc).symm.trans hv
        refine lv_iconst (v := (1 : Int32)) S.1 S.2.1 dX7_comesOut_191 (by decide) ?_
        refine lv_goto (tgt := 196) S.1 S.2.1 dX7_comesOut_192 (by decide) ?_
        replace hk := zz_fin hv hk
        obtain ⟨rfl, rfl⟩ := Prod.mk.inj (hR0 _ hk)
        exact zz_zret S Z hret (by decide) hlk dX7_comesOut_196 (Nat.le_refl _) (Nat.le_refl _)
    · replace hv := (if_neg hc33).symm.trans hv
      by_cases hc61 : v4 = (61 : Int32)
      · replace hv := (if_pos hc61).symm.trans hv
        refine lv_lookup (tgt := 80) S.1 S.2.1 dX7_comesOut_21 (by decide) (by rw [hc61] <;> rfl) (by decide) ?_
        refine lv_aload_n S.1 S.2.1 dX7_comesOut_80 rfl (lv_at hl 2 rfl) ?_
        refine zz_gR S K Z hv zc_5 (by decide) gf_X7_32 dX7_comesOut_81 (fun v8 hv => ?_)
        refine zz_gR S K Z hv zc_6 (by decide) gf_X7_75 dX7_comesOut_84 (fun v9 hv => ?_)
        refine zz_gI S K Z hv zc_3 (by decide) gf_X7_79 dX7_comesOut_87 (fun v10 hv => ?_)
        refine lv_bipush (v := (-2 : Int32)) S.1 S.2.1 dX7_comesOut_90 (by decide) ?_
        refine lv_icmp_eq (tgt := 123) S.1 S.2.1 dX7_comesOut_92 (by decide) (fun hc => ?_) (fun hc => ?_)
        · replace hv := (if_pos hc).symm.trans hv
          refine lv_iconst (v := (0 : Int32)) S.1 S.2.1 dX7_comesOut_123 (by decide) ?_
          replace hk := zz_fin hv hk
          obtain ⟨rfl, rfl⟩ := Prod.mk.inj (hR0 _ hk)
          exact zz_zret S Z hret (by decide) hlk dX7_comesOut_124 (Nat.le_refl _) (Nat.le_refl _)
        · replace hv := (if_neg hc).symm.trans hv
          refine lv_aload_n S.1 S.2.1 dX7_comesOut_95 rfl (lv_at hl 3 rfl) ?_
          refine lv_iload S.1 S.2.1 dX7_comesOut_96 (lv_at hl 1 rfl) ?_
          refine lv_iload_n S.1 S.2.1 dX7_comesOut_98 rfl (lv_at hl 5 rfl) ?_
          refine lv_aload_n S.1 S.2.1 dX7_comesOut_99 rfl (lv_at hl 2 rfl) ?_
          refine zz_gR S K Z hv zc_5 (by decide) gf_X7_28 dX7_comesOut_100 (fun v11 hv => ?_)
          refine lv_aload_n S.1 S.2.1 dX7_comesOut_103 rfl (lv_at hl 2 rfl) ?_
          refine zz_gR S K Z hv zc_5 (by decide) gf_X7_32 dX7_comesOut_104 (fun v12 hv => ?_)
          refine zz_gR S K Z hv zc_6 (by decide) gf_X7_75 dX7_comesOut_107 (fun v13 hv => ?_)
          refine zz_gI S K Z hv zc_3 (by decide) gf_X7_79 dX7_comesOut_110 (fun v14 hv => ?_)
          obtain ⟨v15, hq, hv⟩ := zz_bd hv
          refine zz_S [.ref (a1), .int (v1), .int (a3), .ref (v11), .int (v14)] S K Z (c_X5_fits a1 v1 a3 v11 v14 hq) ⟨rfl, rfl⟩ gm_X5_fits gs_X5_fits gl_X7_82 ⟨by decide, by decide⟩ rfl hl.1 rfl (Nat.le_of_ble_eq_true rfl) dX7_comesOut_113 ⟨Nat.zero_le _, Nat.zero_le _⟩ (fun H locs Z => ?_)
          show W _ _ _ _ _ _ _ _ _ _ _ _ 0 0 _ (F0 m 116 ls [.int (v15)])
          refine lv_if_eq (tgt := 123) S.1 S.2.1 dX7_comesOut_116 (by decide) (fun hc => ?_) (fun hc => ?_)
          · replace hv := (if_pos hc).symm.trans hv
            refine lv_iconst (v := (0 : Int32)) S.1 S.2.1 dX7_comesOut_123 (by decide) ?_
            replace hk := zz_fin hv hk
            obtain ⟨rfl, rfl⟩ := Prod.mk.inj (hR0 _ hk)
            exact zz_zret S Z hret (by decide) hlk dX7_comesOut_124 (Nat.le_refl _) (Nat.le_refl _)
          · replace hv := (if_neg hc).symm.trans hv
            refine lv_iconst (v := (1 : Int32)) S.1 S.2.1 dX7_comesOut_119 (by decide) ?_
            refine lv_goto (tgt := 124) S.1 S.2.1 dX7_comesOut_120 (by decide) ?_
            replace hk := zz_fin hv hk
            obtain ⟨rfl, rfl⟩ := Prod.mk.inj (hR0 _ hk)
            exact zz_zret S Z hret (by decide) hlk dX7_comesOut_124 (Nat.le_refl _) (Nat.le_refl _)
      · replace hv := (if_neg hc61).symm.trans hv
        by_cases hc63 : v4 = (63 : Int32)
        · replace hv := (if_pos hc63).symm.trans hv
          refine lv_lookup (tgt := 125) S.1 S.2.1 dX7_comesOut_21 (by decide) (by rw [hc63] <;> rfl) (by decide) ?_
          refine lv_aload_n S.1 S.2.1 dX7_comesOut_125 rfl (lv_at hl 2 rfl) ?_
          refine zz_gR S K Z hv zc_5 (by decide) gf_X7_32 dX7_comesOut_126 (fun v16 hv => ?_)
          refine zz_gR S K Z hv zc_6 (by decide) gf_X7_75 dX7_comesOut_129 (fun v17 hv => ?_)
          refine lv_iload S.1 S.2.1 dX7_comesOut_132 (lv_at hl 0 rfl) ?_
          obtain ⟨hci, hv⟩ := zz_isO_s hv
          obtain ⟨v18, hq, hv⟩ := zz_bd hv
          refine zz_V [.int (v3)] S K Z hci zc_3 rfl (c_X4_flag v17 v3 hq) ⟨rfl, rfl⟩ gm_X4_flag gmv_X4_flag gl_X7_88 ⟨by decide, by decide⟩ rfl hl.1 rfl (Nat.le_of_ble_eq_true rfl) dX7_comesOut_134 ⟨Nat.zero_le _, Nat.zero_le _⟩ (fun H locs Z => ?_)
          show W _ _ _ _ _ _ _ _ _ _ _ _ 0 0 _ (F0 m 137 ls [.int (v18)])
          refine lv_aload_n S.1 S.2.1 dX7_comesOut_137 rfl (lv_at hl 3 rfl) ?_
          refine lv_iload S.1 S.2.1 dX7_comesOut_138 (lv_at hl 1 rfl) ?_
          refine lv_iconst (v := (2 : Int32)) S.1 S.2.1 dX7_comesOut_140 (by decide) ?_
          refine lv_iadd S.1 S.2.1 dX7_comesOut_141 ?_
          refine lv_iload_n S.1 S.2.1 dX7_comesOut_142 rfl (lv_at hl 5 rfl) ?_
          obtain ⟨v19, hq, hv⟩ := zz_bd hv
          refine zz_S [.ref (a1), .int (v1 + (2 : Int32)), .int (a3)] S K Z (c_X7_numberAt a1 (v1 + (2 : Int32)) a3 hq) ⟨rfl, rfl⟩ gm_X7_numberAt gs_X7_numberAt gl_X7_91 ⟨by decide, by decide⟩ rfl hl.1 rfl (Nat.le_of_ble_eq_true rfl) dX7_comesOut_143 ⟨Nat.zero_le _, Nat.zero_le _⟩ (fun H locs Z => ?_)
          show W _ _ _ _ _ _ _ _ _ _ _ _ 0 0 _ (F0 m 146 ls [.int (v19), .int (v18)])
          refine lv_icmp_ne (tgt := 153) S.1 S.2.1 dX7_comesOut_146 (by decide) (fun hc => ?_) (fun hc => ?_)
          · replace hv := (if_neg hc).symm.trans hv
            refine lv_iconst (v := (0 : Int32)) S.1 S.2.1 dX7_comesOut_153 (by decide) ?_
            replace hk := zz_fin hv hk
            obtain ⟨rfl, rfl⟩ := Prod.mk.inj (hR0 _ hk)
            exact zz_zret S Z hret (by decide) hlk dX7_comesOut_154 (Nat.le_refl _) (Nat.le_refl _)
          · replace hv := (if_pos hc).symm.trans hv
            refine lv_iconst (v := (1 : Int32)) S.1 S.2.1 dX7_comesOut_149 (by decide) ?_
            refine lv_goto (tgt := 154) S.1 S.2.1 dX7_comesOut_150 (by decide) ?_
            replace hk := zz_fin hv hk
            obtain ⟨rfl, rfl⟩ := Prod.mk.inj (hR0 _ hk)
            exact zz_zret S Z hret (by decide) hlk dX7_comesOut_154 (Nat.le_refl _) (Nat.le_refl _)
        · replace hv := (if_neg hc63).symm.trans hv
          by_cases hc64 : v4 = (64 : Int32)
          · replace hv := (if_pos hc64).symm.trans hv
            refine lv_lookup (tgt := 155) S.1 S.2.1 dX7_comesOut_21 (by decide) (by rw [hc64] <;> rfl) (by decide) ?_
            refine lv_aload_n S.1 S.2.1 dX7_comesOut_155 rfl (lv_at hl 2 rfl) ?_
            refine zz_gR S K Z hv zc_5 (by decide) gf_X7_32 dX7_comesOut_156 (fun v20 hv => ?_)
            refine zz_gR S K Z hv zc_6 (by decide) gf_X7_75 dX7_comesOut_159 (fun v21 hv => ?_)
            refine zz_gI S K Z hv zc_3 (by decide) gf_X7_95 dX7_comesOut_162 (fun v22 hv => ?_)
            refine lv_iload S.1 S.2.1 dX7_comesOut_165 (lv_at hl 0 rfl) ?_
            refine lv_icmp_ne (tgt := 174) S.1 S.2.1 dX7_comesOut_167 (by decide) (fun hc => ?_) (fun hc => ?_)
            · replace hv := (if_neg hc).symm.trans hv
              refine lv_iconst (v := (0 : Int32)) S.1 S.2.1 dX7_comesOut_174 (by decide) ?_
              replace hk := zz_fin hv hk
              obtain ⟨rfl, rfl⟩ := Prod.mk.inj (hR0 _ hk)
              exact zz_zret S Z hret (by decide) hlk dX7_comesOut_175 (Nat.le_refl _) (Nat.le_refl _)
            · replace hv := (if_pos hc).symm.trans hv
              refine lv_iconst (v := (1 : Int32)) S.1 S.2.1 dX7_comesOut_170 (by decide) ?_
              refine lv_goto (tgt := 175) S.1 S.2.1 dX7_comesOut_171 (by decide) ?_
              replace hk := zz_fin hv hk
              obtain ⟨rfl, rfl⟩ := Prod.mk.inj (hR0 _ hk)
              exact zz_zret S Z hret (by decide) hlk dX7_comesOut_175 (Nat.le_refl _) (Nat.le_refl _)
          · replace hv := (if_neg hc64).symm.trans hv
            by_cases hc98 : v4 = (98 : Int32)
            · replace hv := (if_pos hc98).symm.trans hv
              refine lv_lookup (tgt := 204) S.1 S.2.1 dX7_comesOut_21 (by decide) (by rw [hc98] <;> rfl) (by decide) ?_
              refine lv_aload_n S.1 S.2.1 dX7_comesOut_204 rfl (lv_at hl 2 rfl) ?_
              refine lv_iload S.1 S.2.1 dX7_comesOut_205 (lv_at hl 0 rfl) ?_
              obtain ⟨hci, hv⟩ := zz_isO_s hv
              obtain ⟨⟨v23, h24⟩, hq, hv⟩ := zz_bd hv
              refine zz_V [.int (v3)] S K Z hci zc_5 rfl (c_X7_goBack a0 v3 hq) ⟨rfl, rfl⟩ gm_X7_goBack gmv_X7_goBack gl_X7_105 ⟨by decide, by decide⟩ rfl hl.1 rfl (Nat.le_of_ble_eq_true rfl) dX7_comesOut_207 ⟨Nat.zero_le _, Nat.zero_le _⟩ (fun H locs Z => ?_)
              show W _ _ _ _ _ _ _ _ _ _ _ _ 0 0 _ (F0 m 210 ls [.int (v23)])
              obtain ⟨hok, hv⟩ := zz_ok_s hv
              replace hk := zz_fin hv hk
              obtain ⟨rfl, rfl⟩ := Prod.mk.inj (hR0 _ hk)
              exact zz_zret S Z hret hok hlk dX7_comesOut_210 (Nat.le_refl _) (Nat.le_refl _)
            · replace hv := (if_neg hc98).symm.trans hv
              by_cases hc115 : v4 = (115 : Int32)
              · replace hv := (if_pos hc115).symm.trans hv
                refine lv_lookup (tgt := 197) S.1 S.2.1 dX7_comesOut_21 (by decide) (by rw [hc115] <;> rfl) (by decide) ?_
                refine lv_aload_n S.1 S.2.1 dX7_comesOut_197 rfl (lv_at hl 2 rfl) ?_
                refine lv_iload S.1 S.2.1 dX7_comesOut_198 (lv_at hl 0 rfl) ?_
                obtain ⟨hci, hv⟩ := zz_isO_s hv
                obtain ⟨⟨v25, h26⟩, hq, hv⟩ := zz_bd hv
                refine zz_V [.int (v3)] S K Z hci zc_5 rfl (c_X7_keepPoint a0 v3 hq) ⟨rfl, rfl⟩ gm_X7_keepPoint gmv_X7_keepPoint gl_X7_101 ⟨by decide, by decide⟩ rfl hl.1 rfl (Nat.le_of_ble_eq_true rfl) dX7_comesOut_200 ⟨Nat.zero_le _, Nat.zero_le _⟩ (fun H locs Z => ?_)
                show W _ _ _ _ _ _ _ _ _ _ _ _ 0 0 _ (F0 m 203 ls [.int (v25)])
                obtain ⟨hok, hv⟩ := zz_ok_s hv
                replace hk := zz_fin hv hk
                obtain ⟨rfl, rfl⟩ := Prod.mk.inj (hR0 _ hk)
                exact zz_zret S Z hret hok hlk dX7_comesOut_203 (Nat.le_refl _) (Nat.le_refl _)
              · replace hv := (if_neg hc115).symm.trans hv
                refine lv_lookup (tgt := 211) S.1 S.2.1 dX7_comesOut_21 (by decide) ((lv_osw hc33 (by decide)).trans ((lv_osw hc61 (by decide)).trans ((lv_osw hc63 (by decide)).trans ((lv_osw hc64 (by decide)).trans ((lv_osw hc98 (by decide)).trans ((lv_osw hc115 (by decide)).trans (Op.lookupswitch.offset_nil _ _))))))) (by decide) ?_
                refine lv_iconst (v := (1 : Int32)) S.1 S.2.1 dX7_comesOut_211 (by decide) ?_
                replace hk := zz_fin hv hk
                obtain ⟨rfl, rfl⟩ := Prod.mk.inj (hR0 _ hk)
                exact zz_zret S Z hret (by decide) hlk dX7_comesOut_212 (Nat.le_refl _) (Nat.le_refl _)
  rw [hH, hlo] at key
  exact key

noncomputable def f_X7_noteFailed (h : ZH) (a0 : Nat) (a1 : Int32) : Option (ZH) :=
  (zg_I h a0 5 6).bind fun v1 => if v1 < 0 then (some (h)) else ((zg_I h a0 5 6).bind fun v2 => (zg_R h a0 5 4).bind fun v3 => (zl_N h v3 1).bind fun v4 => if v4 ≤ v2 then (some (h)) else ((zg_I h a0 5 6).bind fun v5 => (zg_R h a0 5 5).bind fun v6 => (zl_N h v6 1).bind fun v7 => if v5 < v7 then ((zg_R h a0 5 4).bind fun v8 => (zg_I h a0 5 6).bind fun v9 => (zs_I h v8 1 v9 a1).bind fun h10 => (zg_R h10 a0 5 5).bind fun v11 => (zg_I h10 a0 5 6).bind fun v12 => (zg_I h10 a0 5 7).bind fun v13 => (zs_I h10 v11 1 v12 v13).bind fun h14 => (zg_I h14 a0 5 6).bind fun v15 => (zp_V h14 a0 5 6 (.int (v15 + (1 : Int32)))).bind fun h16 => some (h16)) else (some (h))))
abbrev rm_X7_noteFailed : Room := { frames := 0, cells := 0, slots := 0, locals := 0 }
set_option maxRecDepth 100000 in
set_option maxHeartbeats 4000000 in
theorem c_X7_noteFailed {l : Launch} {D : va_G} {dA : Nat → ClassId} {A : Nat → Prop} {h : ZH} {n : Nat} (a0 : Nat) (a1 : Int32) {hx : ZH} (hf : f_X7_noteFailed h a0 a1 = some hx) : Met l yX7_noteFailed (zz_ws yX7_noteFailed cX7_noteFailed 2 none) rm_X7_noteFailed (zz_P D dA A h n [.ref (a0), .int (a1)]) (zz_Q D dA A (none) hx n) 0 0 A := by
  refine zz_met (by decide) (Nat.le_of_ble_eq_true rfl) ?_
  intro p e s m args below meth c ls S K hret hlk hnm hl Z
  replace hl : lv_has ls 2 [(0, .ref (a0)), (1, .int (a1))] := hl
  obtain ⟨K0, hR0, hk⟩ : ∃ K0 : (ZH) → Prop, (∀ x, K0 x → x = hx) ∧ K0 hx := ⟨fun x => x = hx, fun _ h => h, rfl⟩
  have hv := hf
  unfold f_X7_noteFailed at hv
  clear hf
  obtain ⟨x, hxx⟩ : ∃ x, x = hx := ⟨_, rfl⟩
  rw [← hxx] at hv hk
  have ⟨H, hH⟩ : ∃ H, H = s.heap := ⟨_, rfl⟩
  have ⟨locs, hlo⟩ : ∃ q : List Loc, q = [] := ⟨_, rfl⟩
  have Z : zz_B D dA A h n s.heap H locs := by rw [hH, hlo]; exact Z
  have key : zz_W p l e rm_X7_noteFailed s m args below meth c D dA A (none) hx n 0 0 H locs 0 0 0 ls [] := by
    clear hH hlo hxx
    refine lv_aload_n S.1 S.2.1 dX7_noteFailed_0 rfl (lv_at hl 0 rfl) ?_
    refine zz_gI S K Z hv zc_5 (by decide) gf_X7_42 dX7_noteFailed_1 (fun v1 hv => ?_)
    refine lv_if_lt (tgt := 31) S.1 S.2.1 dX7_noteFailed_4 (by decide) (fun hc => ?_) (fun hc => ?_)
    · replace hv := (if_pos hc).symm.trans hv
      replace hk := zz_fin hv hk
      obtain rfl := hR0 _ hk
      exact zz_vret S Z hret hlk dX7_noteFailed_31 (Nat.le_refl _) (Nat.le_refl _)
    · replace hv := (if_neg hc).symm.trans hv
      refine lv_aload_n S.1 S.2.1 dX7_noteFailed_7 rfl (lv_at hl 0 rfl) ?_
      refine zz_gI S K Z hv zc_5 (by decide) gf_X7_42 dX7_noteFailed_8 (fun v2 hv => ?_)
      refine lv_aload_n S.1 S.2.1 dX7_noteFailed_11 rfl (lv_at hl 0 rfl) ?_
      refine zz_gR S K Z hv zc_5 (by decide) gf_X7_21 dX7_noteFailed_12 (fun v3 hv => ?_)
      refine zz_alen S K Z hv rfl dX7_noteFailed_15 (fun v4 hv => ?_)
      refine lv_icmp_ge (tgt := 31) S.1 S.2.1 dX7_noteFailed_16 (by decide) (fun hc => ?_) (fun hc => ?_)
      · replace hv := (if_pos hc).symm.trans hv
        replace hk := zz_fin hv hk
        obtain rfl := hR0 _ hk
        exact zz_vret S Z hret hlk dX7_noteFailed_31 (Nat.le_refl _) (Nat.le_refl _)
      · replace hv := (if_neg hc).symm.trans hv
        refine lv_aload_n S.1 S.2.1 dX7_noteFailed_19 rfl (lv_at hl 0 rfl) ?_
        refine zz_gI S K Z hv zc_5 (by decide) gf_X7_42 dX7_noteFailed_20 (fun v5 hv => ?_)
        refine lv_aload_n S.1 S.2.1 dX7_noteFailed_23 rfl (lv_at hl 0 rfl) ?_
        refine zz_gR S K Z hv zc_5 (by decide) gf_X7_25 dX7_noteFailed_24 (fun v6 hv => ?_)
        refine zz_alen S K Z hv rfl dX7_noteFailed_27 (fun v7 hv => ?_)
        refine lv_icmp_lt (tgt := 32) S.1 S.2.1 dX7_noteFailed_28 (by decide) (fun hc => ?_) (fun hc => ?_)
        · replace hv := (if_pos hc).symm.trans hv
          refine lv_aload_n S.1 S.2.1 dX7_noteFailed_32 rfl (lv_at hl 0 rfl) ?_
          refine zz_gR S K Z hv zc_5 (by decide) gf_X7_21 dX7_noteFailed_33 (fun v8 hv => ?_)
          refine lv_aload_n S.1 S.2.1 dX7_noteFailed_36 rfl (lv_at hl 0 rfl) ?_
          refine zz_gI S K Z hv zc_5 (by decide) gf_X7_42 dX7_noteFailed_37 (fun v9 hv => ?_)
          refine lv_iload_n S.1 S.2.1 dX7_noteFailed_40 rfl (lv_at hl 1 rfl) ?_
          refine zz_iast S K Z hv dX7_noteFailed_41 (fun h10 H locs hv Z => ?_)
          refine lv_aload_n S.1 S.2.1 dX7_noteFailed_42 rfl (lv_at hl 0 rfl) ?_
          refine zz_gR S K Z hv zc_5 (by decide) gf_X7_25 dX7_noteFailed_43 (fun v11 hv => ?_)
          refine lv_aload_n S.1 S.2.1 dX7_noteFailed_46 rfl (lv_at hl 0 rfl) ?_
          refine zz_gI S K Z hv zc_5 (by decide) gf_X7_42 dX7_noteFailed_47 (fun v12 hv => ?_)
          refine lv_aload_n S.1 S.2.1 dX7_noteFailed_50 rfl (lv_at hl 0 rfl) ?_
          refine zz_gI S K Z hv zc_5 (by decide) gf_X7_46 dX7_noteFailed_51 (fun v13 hv => ?_)
          refine zz_iast S K Z hv dX7_noteFailed_54 (fun h14 H locs hv Z => ?_)
          refine lv_aload_n S.1 S.2.1 dX7_noteFailed_55 rfl (lv_at hl 0 rfl) ?_
          refine lv_dup S.1 S.2.1 dX7_noteFailed_56 rfl ?_
          refine zz_gI S K Z hv zc_5 (by decide) gf_X7_42 dX7_noteFailed_57 (fun v15 hv => ?_)
          refine lv_iconst (v := (1 : Int32)) S.1 S.2.1 dX7_noteFailed_60 (by decide) ?_
          refine lv_iadd S.1 S.2.1 dX7_noteFailed_61 ?_
          refine zz_put S K Z hv zc_5 (by decide) gf_X7_42 rfl rfl rfl dX7_noteFailed_62 (fun h16 H locs hv Z => ?_)
          replace hk := zz_fin hv hk
          obtain rfl := hR0 _ hk
          exact zz_vret S Z hret hlk dX7_noteFailed_65 (Nat.le_refl _) (Nat.le_refl _)
        · replace hv := (if_neg hc).symm.trans hv
          replace hk := zz_fin hv hk
          obtain rfl := hR0 _ hk
          exact zz_vret S Z hret hlk dX7_noteFailed_31 (Nat.le_refl _) (Nat.le_refl _)
  rw [hH, hlo] at key
  exact key

noncomputable def f_X7_runThrough_J128 (h : ZH) (a0 : Nat) (a1 : Nat) (h12 : ZH) : Option (Int32 × ZH) :=
  (zg_I h12 a0 5 6).bind fun v13 => some ((v13, h12))
noncomputable def f_X7_runThrough_J117 (h : ZH) (a0 : Nat) (a1 : Nat) (x3_24 : Int32) (x4_25 : Int32) (h26 : ZH) : Option ((Int32 × Int32 × ZH) ⊕ (Int32 × ZH)) :=
  zz_let (x4_25 + (1 : Int32)) fun v27 => some (.inl (v27, x3_24 + (1 : Int32), h26))
noncomputable def f_X7_runThrough_J105 (h : ZH) (a0 : Nat) (a1 : Nat) (x3_20 : Int32) (x4_21 : Int32) (s22 : Int32) (h23 : ZH) : Option ((Int32 × Int32 × ZH) ⊕ (Int32 × ZH)) :=
  if s22 = 0 then (zz_isO h23 a0 5 <| (f_X7_noteFailed h23 a0 x3_20).bind fun h28 => f_X7_runThrough_J117 h a0 a1 x3_20 x4_21 h28) else (f_X7_runThrough_J117 h a0 a1 x3_20 x4_21 h23)
noncomputable def f_X7_runThrough_L45 (h : ZH) (a0 : Nat) (a1 : Nat) (x2_9 : Int32) (x3_10 : Int32) (h11 : ZH)  : Option ((Int32 × Int32 × ZH) ⊕ (Int32 × ZH)) :=
  if (600 : Int32) < x3_10 then ((f_X7_runThrough_J128 h a0 a1 h11).map Sum.inr) else ((zg_I h11 a1 0 1).bind fun v14 => if v14 ≤ x2_9 then ((f_X7_runThrough_J128 h a0 a1 h11).map Sum.inr) else ((zg_I h11 a0 5 7).bind fun v15 => if v15 = 0 then ((f_X2_lineEnd h11 a1 x2_9).bind fun v16 => zz_isO h11 a1 0 <| (f_X0_at h11 a1 x2_9).bind fun v17 => if v17 = (62 : Int32) then (zz_isO h11 a0 5 <| (f_X7_saysAll h11 a0 a1 (x2_9 + (2 : Int32)) v16).bind fun (v29, h30) => f_X7_runThrough_J105 h a0 a1 x3_10 v16 v29 h30) else (zz_isO h11 a0 5 <| (f_X7_comesOut h11 a0 a1 x2_9 v16).bind fun (v18, h19) => f_X7_runThrough_J105 h a0 a1 x3_10 v16 v18 h19)) else ((f_X7_runThrough_J128 h a0 a1 h11).map Sum.inr)))
noncomputable def f_X7_runThrough_L9 (h : ZH) (a0 : Nat) (a1 : Nat) (x2_3 : Int32) (h4 : ZH)  : Option ((Int32 × ZH) ⊕ (Int32 × ZH)) :=
  (zg_R h4 a0 5 3).bind fun v5 => (zl_N h4 v5 2).bind fun v6 => if v6 ≤ x2_3 then (((zp_V h4 a0 5 6 (.int ((0 : Int32)))).bind fun h7 => (zp_V h7 a0 5 7 (.int ((0 : Int32)))).bind fun h8 => zz_loop (fun st : (Int32 × Int32 × ZH) => f_X7_runThrough_L45 h a0 a1 (st.1) (st.2.1) (st.2.2)) ((0 : Int32), (1 : Int32), h8)).map Sum.inr) else ((zg_R h4 a0 5 3).bind fun v31 => (zs_I h4 v31 2 x2_3 (vp_nar .boolean (0 : Int32))).bind fun h32 => some (.inl (x2_3 + (1 : Int32), h32)))
noncomputable def f_X7_runThrough (h : ZH) (a0 : Nat) (a1 : Nat) : Option (Int32 × ZH) :=
  (zg_R h a0 5 1).bind fun v1 => zz_isO h v1 6 <| (f_X8_begin h v1).bind fun h2 => zz_loop (fun st : (Int32 × ZH) => f_X7_runThrough_L9 h a0 a1 (st.1) (st.2)) ((0 : Int32), h2)
abbrev rm_X7_runThrough : Room := { frames := 6, cells := 0, slots := 0, locals := 147 }
set_option maxRecDepth 100000 in
set_option maxHeartbeats 4000000 in
theorem c_X7_runThrough {l : Launch} {D : va_G} {dA : Nat → ClassId} {A : Nat → Prop} {h : ZH} {n : Nat} (a0 : Nat) (a1 : Nat) {r : Int32} {hx : ZH} (hf : f_X7_runThrough h a0 a1 = some (r, hx)) : Met l yX7_runThrough (zz_ws yX7_runThrough cX7_runThrough 6 (some .int)) rm_X7_runThrough (zz_P D dA A h n [.ref (a0), .ref (a1)]) (zz_Q D dA A (some (.int r)) hx n) 0 0 A := by
  refine zz_met (by decide) (Nat.le_of_ble_eq_true rfl) ?_
  intro p e s m args below meth c ls S K hret hlk hnm hl Z
  replace hl : lv_has ls 6 [(0, .ref (a0)), (1, .ref (a1))] := hl
  obtain ⟨K0, hR0, hk⟩ : ∃ K0 : (Int32 × ZH) → Prop, (∀ x, K0 x → x = (r, hx)) ∧ K0 (r, hx) := ⟨fun x => x = (r, hx), fun _ h => h, rfl⟩
  have J128 : ∀ (h12 : ZH) (x : (Int32 × ZH)), f_X7_runThrough_J128 h a0 a1 h12 = some x → K0 x → ∀ (H : Heap) (locs : List Loc) (ls : Array Slot), zz_B D dA A h12 n s.heap H locs → lv_has ls 6 [(0, .ref (a0))] → zz_W p l e rm_X7_runThrough s m args below meth c D dA A (some (.int r)) hx n 0 0 H locs 0 0 128 ls [] := by
    intro h12 x hv hk H locs ls Z hl
    unfold f_X7_runThrough_J128 at hv
    refine lv_aload_n S.1 S.2.1 dX7_runThrough_128 rfl (lv_at hl 0 rfl) ?_
    refine zz_gI S K Z hv zc_5 (by decide) gf_X7_42 dX7_runThrough_129 (fun v13 hv => ?_)
    replace hk := zz_fin hv hk
    obtain ⟨rfl, rfl⟩ := Prod.mk.inj (hR0 _ hk)
    exact zz_iret S Z hret hlk dX7_runThrough_132 (Nat.le_refl _) (Nat.le_refl _)
  have L45 : ∀ (st : (Int32 × Int32 × ZH)) (x : (Int32 × ZH)), zz_loop (fun st : (Int32 × Int32 × ZH) => f_X7_runThrough_L45 h a0 a1 (st.1) (st.2.1) (st.2.2)) st = some x → K0 x → (fun st : (Int32 × Int32 × ZH) => ∀ (H : Heap) (locs : List Loc) (ls : Array Slot), zz_B D dA A (st.2.2) n s.heap H locs → lv_has ls 6 [(0, .ref (a0)), (1, .ref (a1)), (2, .int ((st.1))), (3, .int ((st.2.1)))] → zz_W p l e rm_X7_runThrough s m args below meth c D dA A (some (.int r)) hx n 0 0 H locs 0 0 45 ls []) st := by
    refine zz_loop_go (K := K0) ?_
    intro K1 hP1 hR1
    have J117 : ∀ (x3_24 : Int32) (x4_25 : Int32) (h26 : ZH) (x : ((Int32 × Int32 × ZH) ⊕ (Int32 × ZH))), f_X7_runThrough_J117 h a0 a1 x3_24 x4_25 h26 = some x → K1 x → ∀ (H : Heap) (locs : List Loc) (ls : Array Slot), zz_B D dA A h26 n s.heap H locs → lv_has ls 6 [(0, .ref (a0)), (1, .ref (a1)), (3, .int (x3_24)), (4, .int (x4_25))] → zz_W p l e rm_X7_runThrough s m args below meth c D dA A (some (.int r)) hx n 0 0 H locs 0 0 117 ls [] := by
      intro x3_24 x4_25 h26 x hv hk H locs ls Z hl
      unfold f_X7_runThrough_J117 at hv
      refine lv_iload S.1 S.2.1 dX7_runThrough_117 (lv_at hl 3 rfl) ?_
      refine lv_iconst (v := (1 : Int32)) S.1 S.2.1 dX7_runThrough_119 (by decide) ?_
      refine lv_iadd S.1 S.2.1 dX7_runThrough_120 ?_
      refine zz_lt hv (G := fun w => W _ _ _ _ _ _ _ _ _ _ _ _ _ _ _ (F0 _ _ _ (.int w :: _))) (fun v27 hv => ?_)
      refine lv_istore_n (lv' := [(2, .int (v27)), (0, .ref (a0)), (1, .ref (a1)), (3, .int (x3_24)), (4, .int (x4_25))]) S.1 S.2.1 dX7_runThrough_121 rfl hl (by decide) rfl (fun ls hl => ?_)
      refine lv_iinc (v := x3_24 + (1 : Int32)) (lv' := [(3, .int (x3_24 + (1 : Int32))), (2, .int (v27)), (0, .ref (a0)), (1, .ref (a1)), (4, .int (x4_25))]) S.1 S.2.1 dX7_runThrough_122 hl (k := 3) rfl rfl (by decide) rfl (fun ls hl => ?_)
      refine lv_goto (tgt := 45) S.1 S.2.1 dX7_runThrough_125 (by decide) ?_
      replace hk := zz_fin hv hk
      exact hP1 _ hk H locs ls Z (lv_sub hl [2, 3, 1, 0] rfl)
    have J105 : ∀ (x3_20 : Int32) (x4_21 : Int32) (s22 : Int32) (h23 : ZH) (x : ((Int32 × Int32 × ZH) ⊕ (Int32 × ZH))), f_X7_runThrough_J105 h a0 a1 x3_20 x4_21 s22 h23 = some x → K1 x → ∀ (H : Heap) (locs : List Loc) (ls : Array Slot), zz_B D dA A h23 n s.heap H locs → lv_has ls 6 [(0, .ref (a0)), (1, .ref (a1)), (3, .int (x3_20)), (4, .int (x4_21))] → zz_W p l e rm_X7_runThrough s m args below meth c D dA A (some (.int r)) hx n 0 0 H locs 0 0 105 ls [.int (s22)] := by
      intro x3_20 x4_21 s22 h23 x hv hk H locs ls Z hl
      unfold f_X7_runThrough_J105 at hv
      refine lv_istore (lv' := [(5, .int (s22)), (0, .ref (a0)), (1, .ref (a1)), (3, .int (x3_20)), (4, .int (x4_21))]) S.1 S.2.1 dX7_runThrough_105 hl (by decide) rfl (fun ls hl => ?_)
      refine lv_iload S.1 S.2.1 dX7_runThrough_107 (lv_at hl 0 rfl) ?_
      refine lv_if_ne (tgt := 117) S.1 S.2.1 dX7_runThrough_109 (by decide) (fun hc => ?_) (fun hc => ?_)
      · replace hv := (if_neg hc).symm.trans hv
        exact J117 x3_20 x4_21 h23 _ hv hk H locs ls Z (lv_sub hl [1, 2, 3, 4] rfl)
      · replace hv := (if_pos hc).symm.trans hv
        refine lv_aload_n S.1 S.2.1 dX7_runThrough_112 rfl (lv_at hl 1 rfl) ?_
        refine lv_iload_n S.1 S.2.1 dX7_runThrough_113 rfl (lv_at hl 3 rfl) ?_
        obtain ⟨hci, hv⟩ := zz_isO_s hv
        obtain ⟨h28, hq, hv⟩ := zz_bd hv
        refine zz_V [.int (x3_20)] S K Z hci zc_5 rfl (c_X7_noteFailed a0 x3_20 hq) ⟨rfl, rfl⟩ gm_X7_noteFailed gmv_X7_noteFailed gl_X7_71 ⟨by decide, by decide⟩ rfl hl.1 rfl (Nat.le_of_ble_eq_true rfl) dX7_runThrough_114 ⟨Nat.zero_le _, Nat.zero_le _⟩ (fun H locs Z => ?_)
        show W _ _ _ _ _ _ _ _ _ _ _ _ 0 0 _ (F0 m 117 ls [])
        exact J117 x3_20 x4_21 h28 _ hv hk H locs ls Z (lv_sub hl [1, 2, 3, 4] rfl)
    rintro ⟨x2_9, x3_10, h11⟩ x hv hk H locs ls Z hl
    replace hv : f_X7_runThrough_L45 h a0 a1 x2_9 x3_10 h11 = some x := hv
    unfold f_X7_runThrough_L45 at hv
    replace hl : lv_has ls 6 [(0, .ref (a0)), (1, .ref (a1)), (2, .int (x2_9)), (3, .int (x3_10))] := hl
    replace Z : zz_B D dA A h11 n s.heap H locs := Z
    show zz_W p l e rm_X7_runThrough s m args below meth c D dA A (some (.int r)) hx n 0 0 H locs 0 0 45 ls []
    refine lv_iload_n S.1 S.2.1 dX7_runThrough_45 rfl (lv_at hl 3 rfl) ?_
    refine lv_sipush (v := (600 : Int32)) S.1 S.2.1 dX7_runThrough_46 (by decide) ?_
    refine lv_icmp_gt (tgt := 128) S.1 S.2.1 dX7_runThrough_49 (by decide) (fun hc => ?_) (fun hc => ?_)
    · replace hv := (if_pos hc).symm.trans hv
      obtain ⟨_, hv, hk⟩ := zz_mapk hv hk
      replace hk := hR1 _ hk
      exact J128 h11 _ hv hk H locs ls Z (lv_sub hl [0] rfl)
    · replace hv := (if_neg hc).symm.trans hv
      refine lv_iload_n S.1 S.2.1 dX7_runThrough_52 rfl (lv_at hl 2 rfl) ?_
      refine lv_aload_n S.1 S.2.1 dX7_runThrough_53 rfl (lv_at hl 1 rfl) ?_
      refine zz_gI S K Z hv zc_0 (by decide) gf_X7_49 dX7_runThrough_54 (fun v14 hv => ?_)
      refine lv_icmp_ge (tgt := 128) S.1 S.2.1 dX7_runThrough_57 (by decide) (fun hc => ?_) (fun hc => ?_)
      · replace hv := (if_pos hc).symm.trans hv
        obtain ⟨_, hv, hk⟩ := zz_mapk hv hk
        replace hk := hR1 _ hk
        exact J128 h11 _ hv hk H locs ls Z (lv_sub hl [0] rfl)
      · replace hv := (if_neg hc).symm.trans hv
        refine lv_aload_n S.1 S.2.1 dX7_runThrough_60 rfl (lv_at hl 0 rfl) ?_
        refine zz_gI S K Z hv zc_5 (by decide) gf_X7_46 dX7_runThrough_61 (fun v15 hv => ?_)
        refine lv_if_ne (tgt := 128) S.1 S.2.1 dX7_runThrough_64 (by decide) (fun hc => ?_) (fun hc => ?_)
        · replace hv := (if_neg hc).symm.trans hv
          obtain ⟨_, hv, hk⟩ := zz_mapk hv hk
          replace hk := hR1 _ hk
          exact J128 h11 _ hv hk H locs ls Z (lv_sub hl [0] rfl)
        · replace hv := (if_pos hc).symm.trans hv
          refine lv_aload_n S.1 S.2.1 dX7_runThrough_67 rfl (lv_at hl 1 rfl) ?_
          refine lv_iload_n S.1 S.2.1 dX7_runThrough_68 rfl (lv_at hl 2 rfl) ?_
          obtain ⟨v16, hq, hv⟩ := zz_bd hv
          refine zz_S [.ref (a1), .int (x2_9)] S K Z (c_X2_lineEnd a1 x2_9 hq) ⟨rfl, rfl⟩ gm_X2_lineEnd gs_X2_lineEnd gl_X7_54 ⟨by decide, by decide⟩ rfl hl.1 rfl (Nat.le_of_ble_eq_true rfl) dX7_runThrough_69 ⟨Nat.zero_le _, Nat.zero_le _⟩ (fun H locs Z => ?_)
          show W _ _ _ _ _ _ _ _ _ _ _ _ 0 0 _ (F0 m 72 ls [.int (v16)])
          refine lv_istore (lv' := [(4, .int (v16)), (0, .ref (a0)), (1, .ref (a1)), (2, .int (x2_9)), (3, .int (x3_10))]) S.1 S.2.1 dX7_runThrough_72 hl (by decide) rfl (fun ls hl => ?_)
          refine lv_aload_n S.1 S.2.1 dX7_runThrough_74 rfl (lv_at hl 2 rfl) ?_
          refine lv_iload_n S.1 S.2.1 dX7_runThrough_75 rfl (lv_at hl 3 rfl) ?_
          obtain ⟨hci, hv⟩ := zz_isO_s hv
          obtain ⟨v17, hq, hv⟩ := zz_bd hv
          refine zz_V [.int (x2_9)] S K Z hci zc_0 rfl (c_X0_at a1 x2_9 hq) ⟨rfl, rfl⟩ gm_X0_at gmv_X0_at gl_X7_60 ⟨by decide, by decide⟩ rfl hl.1 rfl (Nat.le_of_ble_eq_true rfl) dX7_runThrough_76 ⟨Nat.zero_le _, Nat.zero_le _⟩ (fun H locs Z => ?_)
          show W _ _ _ _ _ _ _ _ _ _ _ _ 0 0 _ (F0 m 79 ls [.int (v17)])
          refine lv_bipush (v := (62 : Int32)) S.1 S.2.1 dX7_runThrough_79 (by decide) ?_
          refine lv_icmp_ne (tgt := 97) S.1 S.2.1 dX7_runThrough_81 (by decide) (fun hc => ?_) (fun hc => ?_)
          · replace hv := (if_neg hc).symm.trans hv
            refine lv_aload_n S.1 S.2.1 dX7_runThrough_97 rfl (lv_at hl 1 rfl) ?_
            refine lv_aload_n S.1 S.2.1 dX7_runThrough_98 rfl (lv_at hl 2 rfl) ?_
            refine lv_iload_n S.1 S.2.1 dX7_runThrough_99 rfl (lv_at hl 3 rfl) ?_
            refine lv_iload S.1 S.2.1 dX7_runThrough_100 (lv_at hl 0 rfl) ?_
            obtain ⟨hci, hv⟩ := zz_isO_s hv
            obtain ⟨⟨v18, h19⟩, hq, hv⟩ := zz_bd hv
            refine zz_V [.ref (a1), .int (x2_9), .int (v16)] S K Z hci zc_5 rfl (c_X7_comesOut a0 a1 x2_9 v16 hq) ⟨rfl, rfl⟩ gm_X7_comesOut gmv_X7_comesOut gl_X7_68 ⟨by decide, by decide⟩ rfl hl.1 rfl (Nat.le_of_ble_eq_true rfl) dX7_runThrough_102 ⟨Nat.zero_le _, Nat.zero_le _⟩ (fun H locs Z => ?_)
            show W _ _ _ _ _ _ _ _ _ _ _ _ 0 0 _ (F0 m 105 ls [.int (v18)])
            exact J105 x3_10 v16 v18 h19 _ hv hk H locs ls Z (lv_sub hl [1, 2, 4, 0] rfl)
          · replace hv := (if_pos hc).symm.trans hv
            refine lv_aload_n S.1 S.2.1 dX7_runThrough_84 rfl (lv_at hl 1 rfl) ?_
            refine lv_aload_n S.1 S.2.1 dX7_runThrough_85 rfl (lv_at hl 2 rfl) ?_
            refine lv_iload_n S.1 S.2.1 dX7_runThrough_86 rfl (lv_at hl 3 rfl) ?_
            refine lv_iconst (v := (2 : Int32)) S.1 S.2.1 dX7_runThrough_87 (by decide) ?_
            refine lv_iadd S.1 S.2.1 dX7_runThrough_88 ?_
            refine lv_iload S.1 S.2.1 dX7_runThrough_89 (lv_at hl 0 rfl) ?_
            obtain ⟨hci, hv⟩ := zz_isO_s hv
            obtain ⟨⟨v29, h30⟩, hq, hv⟩ := zz_bd hv
            refine zz_V [.ref (a1), .int (x2_9 + (2 : Int32)), .int (v16)] S K Z hci zc_5 rfl (c_X7_saysAll a0 a1 (x2_9 + (2 : Int32)) v16 hq) ⟨rfl, rfl⟩ gm_X7_saysAll gmv_X7_saysAll gl_X7_64 ⟨by decide, by decide⟩ rfl hl.1 rfl (Nat.le_of_ble_eq_true rfl) dX7_runThrough_91 ⟨Nat.zero_le _, Nat.zero_le _⟩ (fun H locs Z => ?_)
            show W _ _ _ _ _ _ _ _ _ _ _ _ 0 0 _ (F0 m 94 ls [.int (v29)])
            refine lv_goto (tgt := 105) S.1 S.2.1 dX7_runThrough_94 (by decide) ?_
            exact J105 x3_10 v16 v29 h30 _ hv hk H locs ls Z (lv_sub hl [1, 2, 4, 0] rfl)
  have L9 : ∀ (st : (Int32 × ZH)) (x : (Int32 × ZH)), zz_loop (fun st : (Int32 × ZH) => f_X7_runThrough_L9 h a0 a1 (st.1) (st.2)) st = some x → K0 x → (fun st : (Int32 × ZH) => ∀ (H : Heap) (locs : List Loc) (ls : Array Slot), zz_B D dA A (st.2) n s.heap H locs → lv_has ls 6 [(0, .ref (a0)), (1, .ref (a1)), (2, .int ((st.1)))] → zz_W p l e rm_X7_runThrough s m args below meth c D dA A (some (.int r)) hx n 0 0 H locs 0 0 9 ls []) st := by
    refine zz_loop_go (K := K0) ?_
    intro K1 hP1 hR1
    rintro ⟨x2_3, h4⟩ x hv hk H locs ls Z hl
    replace hv : f_X7_runThrough_L9 h a0 a1 x2_3 h4 = some x := hv
    unfold f_X7_runThrough_L9 at hv
    replace hl : lv_has ls 6 [(0, .ref (a0)), (1, .ref (a1)), (2, .int (x2_3))] := hl
    replace Z : zz_B D dA A h4 n s.heap H locs := Z
    show zz_W p l e rm_X7_runThrough s m args below meth c D dA A (some (.int r)) hx n 0 0 H locs 0 0 9 ls []
    refine lv_iload_n S.1 S.2.1 dX7_runThrough_9 rfl (lv_at hl 2 rfl) ?_
    refine lv_aload_n S.1 S.2.1 dX7_runThrough_10 rfl (lv_at hl 0 rfl) ?_
    refine zz_gR S K Z hv zc_5 (by decide) gf_X7_17 dX7_runThrough_11 (fun v5 hv => ?_)
    refine zz_alen S K Z hv rfl dX7_runThrough_14 (fun v6 hv => ?_)
    refine lv_icmp_ge (tgt := 31) S.1 S.2.1 dX7_runThrough_15 (by decide) (fun hc => ?_) (fun hc => ?_)
    · replace hv := (if_pos hc).symm.trans hv
      obtain ⟨_, hv, hk⟩ := zz_mapk hv hk
      replace hk := hR1 _ hk
      refine lv_aload_n S.1 S.2.1 dX7_runThrough_31 rfl (lv_at hl 0 rfl) ?_
      refine lv_iconst (v := (0 : Int32)) S.1 S.2.1 dX7_runThrough_32 (by decide) ?_
      refine zz_put S K Z hv zc_5 (by decide) gf_X7_42 rfl rfl rfl dX7_runThrough_33 (fun h7 H locs hv Z => ?_)
      refine lv_aload_n S.1 S.2.1 dX7_runThrough_36 rfl (lv_at hl 0 rfl) ?_
      refine lv_iconst (v := (0 : Int32)) S.1 S.2.1 dX7_runThrough_37 (by decide) ?_
      refine zz_put S K Z hv zc_5 (by decide) gf_X7_46 rfl rfl rfl dX7_runThrough_38 (fun h8 H locs hv Z => ?_)
      refine lv_iconst (v := (0 : Int32)) S.1 S.2.1 dX7_runThrough_41 (by decide) ?_
      refine lv_istore_n (lv' := [(2, .int ((0 : Int32))), (0, .ref (a0)), (1, .ref (a1))]) S.1 S.2.1 dX7_runThrough_42 rfl hl (by decide) rfl (fun ls hl => ?_)
      refine lv_iconst (v := (1 : Int32)) S.1 S.2.1 dX7_runThrough_43 (by decide) ?_
      refine lv_istore_n (lv' := [(3, .int ((1 : Int32))), (2, .int ((0 : Int32))), (0, .ref (a0)), (1, .ref (a1))]) S.1 S.2.1 dX7_runThrough_44 rfl hl (by decide) rfl (fun ls hl => ?_)
      exact L45  ((0 : Int32), (1 : Int32), h8) _ hv hk H locs ls Z (lv_sub hl [2, 3, 1, 0] rfl)
    · replace hv := (if_neg hc).symm.trans hv
      refine lv_aload_n S.1 S.2.1 dX7_runThrough_18 rfl (lv_at hl 0 rfl) ?_
      refine zz_gR S K Z hv zc_5 (by decide) gf_X7_17 dX7_runThrough_19 (fun v31 hv => ?_)
      refine lv_iload_n S.1 S.2.1 dX7_runThrough_22 rfl (lv_at hl 2 rfl) ?_
      refine lv_iconst (v := (0 : Int32)) S.1 S.2.1 dX7_runThrough_23 (by decide) ?_
      refine zz_zast S K Z hv dX7_runThrough_24 (fun h32 H locs hv Z => ?_)
      refine lv_iinc (v := x2_3 + (1 : Int32)) (lv' := [(2, .int (x2_3 + (1 : Int32))), (0, .ref (a0)), (1, .ref (a1))]) S.1 S.2.1 dX7_runThrough_25 hl (k := 2) rfl rfl (by decide) rfl (fun ls hl => ?_)
      refine lv_goto (tgt := 9) S.1 S.2.1 dX7_runThrough_28 (by decide) ?_
      replace hk := zz_fin hv hk
      exact hP1 _ hk H locs ls Z (lv_sub hl [1, 2, 0] rfl)
  have hv := hf
  unfold f_X7_runThrough at hv
  clear hf
  obtain ⟨x, hxx⟩ : ∃ x, x = (r, hx) := ⟨_, rfl⟩
  rw [← hxx] at hv hk
  have ⟨H, hH⟩ : ∃ H, H = s.heap := ⟨_, rfl⟩
  have ⟨locs, hlo⟩ : ∃ q : List Loc, q = [] := ⟨_, rfl⟩
  have Z : zz_B D dA A h n s.heap H locs := by rw [hH, hlo]; exact Z
  have key : zz_W p l e rm_X7_runThrough s m args below meth c D dA A (some (.int r)) hx n 0 0 H locs 0 0 0 ls [] := by
    clear hH hlo hxx
    refine lv_aload_n S.1 S.2.1 dX7_runThrough_0 rfl (lv_at hl 0 rfl) ?_
    refine zz_gR S K Z hv zc_5 (by decide) gf_X7_32 dX7_runThrough_1 (fun v1 hv => ?_)
    obtain ⟨hci, hv⟩ := zz_isO_s hv
    obtain ⟨h2, hq, hv⟩ := zz_bd hv
    refine zz_V [] S K Z hci zc_6 rfl (c_X8_begin v1 hq) ⟨rfl, rfl⟩ gm_X8_begin gmv_X8_begin gl_X7_37 ⟨by decide, by decide⟩ rfl hl.1 rfl (Nat.le_of_ble_eq_true rfl) dX7_runThrough_4 ⟨Nat.zero_le _, Nat.zero_le _⟩ (fun H locs Z => ?_)
    show W _ _ _ _ _ _ _ _ _ _ _ _ 0 0 _ (F0 m 7 ls [])
    refine lv_iconst (v := (0 : Int32)) S.1 S.2.1 dX7_runThrough_7 (by decide) ?_
    refine lv_istore_n (lv' := [(2, .int ((0 : Int32))), (0, .ref (a0)), (1, .ref (a1))]) S.1 S.2.1 dX7_runThrough_8 rfl hl (by decide) rfl (fun ls hl => ?_)
    exact L9  ((0 : Int32), h2) _ hv hk H locs ls Z (lv_sub hl [1, 2, 0] rfl)
  rw [hH, hlo] at key
  exact key

noncomputable def f_X11_run (h : ZH) (a0 : Nat) (a1 : Int32) : Option (Int32 × ZH) :=
  (zg_I h a0 9 6).bind fun v1 => (f_X11_inside h a1 (0 : Int32) (v1 - (1 : Int32))).bind fun v2 => if v2 = 0 then (some (((-2 : Int32), h))) else ((zg_R h a0 9 5).bind fun v3 => (zl_Q h v3 4 a1).bind fun v4 => zz_nr v4 (some (((-2 : Int32), h))) (fun v5 => (zg_R h a0 9 3).bind fun v6 => zz_isO h v6 5 <| (f_X7_runThrough h v6 v5).bind fun (v7, h8) => some ((v7, h8))))
abbrev rm_X11_run : Room := { frames := 7, cells := 0, slots := 0, locals := 172 }
set_option maxRecDepth 100000 in
set_option maxHeartbeats 4000000 in
theorem c_X11_run {l : Launch} {D : va_G} {dA : Nat → ClassId} {A : Nat → Prop} {h : ZH} {n : Nat} (a0 : Nat) (a1 : Int32) {r : Int32} {hx : ZH} (hf : f_X11_run h a0 a1 = some (r, hx)) : Met l yX11_run (zz_ws yX11_run cX11_run 3 (some .int)) rm_X11_run (zz_P D dA A h n [.ref (a0), .int (a1)]) (zz_Q D dA A (some (.int r)) hx n) 0 0 A := by
  refine zz_met (by decide) (Nat.le_of_ble_eq_true rfl) ?_
  intro p e s m args below meth c ls S K hret hlk hnm hl Z
  replace hl : lv_has ls 3 [(0, .ref (a0)), (1, .int (a1))] := hl
  obtain ⟨K0, hR0, hk⟩ : ∃ K0 : (Int32 × ZH) → Prop, (∀ x, K0 x → x = (r, hx)) ∧ K0 (r, hx) := ⟨fun x => x = (r, hx), fun _ h => h, rfl⟩
  have hv := hf
  unfold f_X11_run at hv
  clear hf
  obtain ⟨x, hxx⟩ : ∃ x, x = (r, hx) := ⟨_, rfl⟩
  rw [← hxx] at hv hk
  have ⟨H, hH⟩ : ∃ H, H = s.heap := ⟨_, rfl⟩
  have ⟨locs, hlo⟩ : ∃ q : List Loc, q = [] := ⟨_, rfl⟩
  have Z : zz_B D dA A h n s.heap H locs := by rw [hH, hlo]; exact Z
  have key : zz_W p l e rm_X11_run s m args below meth c D dA A (some (.int r)) hx n 0 0 H locs 0 0 0 ls [] := by
    clear hH hlo hxx
    refine lv_iload_n S.1 S.2.1 dX11_run_0 rfl (lv_at hl 1 rfl) ?_
    refine lv_iconst (v := (0 : Int32)) S.1 S.2.1 dX11_run_1 (by decide) ?_
    refine lv_aload_n S.1 S.2.1 dX11_run_2 rfl (lv_at hl 0 rfl) ?_
    refine zz_gI S K Z hv zc_9 (by decide) gf_X11_159 dX11_run_3 (fun v1 hv => ?_)
    refine lv_iconst (v := (1 : Int32)) S.1 S.2.1 dX11_run_6 (by decide) ?_
    refine lv_isub S.1 S.2.1 dX11_run_7 ?_
    obtain ⟨v2, hq, hv⟩ := zz_bd hv
    refine zz_S [.int (a1), .int ((0 : Int32)), .int (v1 - (1 : Int32))] S K Z (c_X11_inside a1 (0 : Int32) (v1 - (1 : Int32)) hq) ⟨rfl, rfl⟩ gm_X11_inside gs_X11_inside gl_X11_100 ⟨by decide, by decide⟩ rfl hl.1 rfl (Nat.le_of_ble_eq_true rfl) dX11_run_8 ⟨Nat.zero_le _, Nat.zero_le _⟩ (fun H locs Z => ?_)
    show W _ _ _ _ _ _ _ _ _ _ _ _ 0 0 _ (F0 m 11 ls [.int (v2)])
    refine lv_if_ne (tgt := 17) S.1 S.2.1 dX11_run_11 (by decide) (fun hc => ?_) (fun hc => ?_)
    · replace hv := (if_neg hc).symm.trans hv
      refine lv_aload_n S.1 S.2.1 dX11_run_17 rfl (lv_at hl 0 rfl) ?_
      refine zz_gR S K Z hv zc_9 (by decide) gf_X11_18 dX11_run_18 (fun v3 hv => ?_)
      refine lv_iload_n S.1 S.2.1 dX11_run_21 rfl (lv_at hl 1 rfl) ?_
      refine zz_aaldQ S K Z hv rfl dX11_run_22 (fun v4 hv => ?_)
      rcases v4 with _ | v5
      · show W _ _ _ _ _ _ _ _ _ _ _ _ _ _ _ (F0 m 23 ls (.null :: []))
        refine lv_astore_nN (lv' := [(2, .null), (0, .ref (a0)), (1, .int (a1))]) S.1 S.2.1 dX11_run_23 rfl hl (by decide) rfl (fun ls hl => ?_)
        refine lv_aload_nN S.1 S.2.1 dX11_run_24 rfl (lv_at hl 0 rfl) ?_
        refine lv_ifnonnullN S.1 S.2.1 dX11_run_25 ?_
        refine lv_bipush (v := (-2 : Int32)) S.1 S.2.1 dX11_run_28 (by decide) ?_
        refine lv_goto (tgt := 41) S.1 S.2.1 dX11_run_30 (by decide) ?_
        replace hk := zz_fin hv hk
        obtain ⟨rfl, rfl⟩ := Prod.mk.inj (hR0 _ hk)
        exact zz_iret S Z hret hlk dX11_run_41 (Nat.le_refl _) (Nat.le_refl _)
      · show W _ _ _ _ _ _ _ _ _ _ _ _ _ _ _ (F0 m 23 ls (.ref (v5) :: []))
        refine lv_astore_n (lv' := [(2, .ref (v5)), (0, .ref (a0)), (1, .int (a1))]) S.1 S.2.1 dX11_run_23 rfl hl (by decide) rfl (fun ls hl => ?_)
        refine lv_aload_n S.1 S.2.1 dX11_run_24 rfl (lv_at hl 0 rfl) ?_
        refine lv_ifnonnull (tgt := 33) S.1 S.2.1 dX11_run_25 (by decide) ?_
        refine lv_aload_n S.1 S.2.1 dX11_run_33 rfl (lv_at hl 1 rfl) ?_
        refine zz_gR S K Z hv zc_9 (by decide) gf_X11_43 dX11_run_34 (fun v6 hv => ?_)
        refine lv_aload_n S.1 S.2.1 dX11_run_37 rfl (lv_at hl 0 rfl) ?_
        obtain ⟨hci, hv⟩ := zz_isO_s hv
        obtain ⟨⟨v7, h8⟩, hq, hv⟩ := zz_bd hv
        refine zz_V [.ref (v5)] S K Z hci zc_5 rfl (c_X7_runThrough v6 v5 hq) ⟨rfl, rfl⟩ gm_X7_runThrough gmv_X7_runThrough gl_X11_169 ⟨by decide, by decide⟩ rfl hl.1 rfl (Nat.le_of_ble_eq_true rfl) dX11_run_38 ⟨Nat.zero_le _, Nat.zero_le _⟩ (fun H locs Z => ?_)
        show W _ _ _ _ _ _ _ _ _ _ _ _ 0 0 _ (F0 m 41 ls [.int (v7)])
        replace hk := zz_fin hv hk
        obtain ⟨rfl, rfl⟩ := Prod.mk.inj (hR0 _ hk)
        exact zz_iret S Z hret hlk dX11_run_41 (Nat.le_refl _) (Nat.le_refl _)
    · replace hv := (if_pos hc).symm.trans hv
      refine lv_bipush (v := (-2 : Int32)) S.1 S.2.1 dX11_run_14 (by decide) ?_
      replace hk := zz_fin hv hk
      obtain ⟨rfl, rfl⟩ := Prod.mk.inj (hR0 _ hk)
      exact zz_iret S Z hret hlk dX11_run_16 (Nat.le_refl _) (Nat.le_refl _)
  rw [hH, hlo] at key
  exact key

noncomputable def f_X11_failed (h : ZH) (a0 : Nat) (a1 : Int32) (a2 : Int32) : Option (Int32) :=
  (zg_R h a0 9 3).bind fun v1 => (zg_I h v1 5 6).bind fun v2 => (f_X11_inside h a1 (0 : Int32) (v2 - (1 : Int32))).bind fun v3 => if v3 = 0 then (some ((-2 : Int32))) else ((f_X11_inside h a2 (0 : Int32) (1 : Int32)).bind fun v4 => if v4 = 0 then (some ((-3 : Int32))) else (if a2 = 0 then ((zg_R h a0 9 3).bind fun v8 => (zg_R h v8 5 4).bind fun v9 => (zl_I h v9 1 a1).bind fun v10 => some (v10)) else ((zg_R h a0 9 3).bind fun v5 => (zg_R h v5 5 5).bind fun v6 => (zl_I h v6 1 a1).bind fun v7 => some (v7))))
abbrev rm_X11_failed : Room := { frames := 1, cells := 0, slots := 0, locals := 22 }
set_option maxRecDepth 100000 in
set_option maxHeartbeats 4000000 in
theorem c_X11_failed {l : Launch} {D : va_G} {dA : Nat → ClassId} {A : Nat → Prop} {h : ZH} {n : Nat} (a0 : Nat) (a1 : Int32) (a2 : Int32) {r : Int32} (hf : f_X11_failed h a0 a1 a2 = some r) : Met l yX11_failed (zz_ws yX11_failed cX11_failed 3 (some .int)) rm_X11_failed (zz_P D dA A h n [.ref (a0), .int (a1), .int (a2)]) (zz_Q D dA A (some (.int r)) h n) 0 0 A := by
  refine zz_met (by decide) (Nat.le_of_ble_eq_true rfl) ?_
  intro p e s m args below meth c ls S K hret hlk hnm hl Z
  replace hl : lv_has ls 3 [(0, .ref (a0)), (1, .int (a1)), (2, .int (a2))] := hl
  obtain ⟨K0, hR0, hk⟩ : ∃ K0 : (Int32) → Prop, (∀ x, K0 x → x = r) ∧ K0 r := ⟨fun x => x = r, fun _ h => h, rfl⟩
  have hv := hf
  unfold f_X11_failed at hv
  clear hf
  obtain ⟨x, hxx⟩ : ∃ x, x = r := ⟨_, rfl⟩
  rw [← hxx] at hv hk
  have ⟨H, hH⟩ : ∃ H, H = s.heap := ⟨_, rfl⟩
  have ⟨locs, hlo⟩ : ∃ q : List Loc, q = [] := ⟨_, rfl⟩
  have Z : zz_B D dA A h n s.heap H locs := by rw [hH, hlo]; exact Z
  have key : zz_W p l e rm_X11_failed s m args below meth c D dA A (some (.int r)) h n 0 0 H locs 0 0 0 ls [] := by
    clear hH hlo hxx
    refine lv_iload_n S.1 S.2.1 dX11_failed_0 rfl (lv_at hl 1 rfl) ?_
    refine lv_iconst (v := (0 : Int32)) S.1 S.2.1 dX11_failed_1 (by decide) ?_
    refine lv_aload_n S.1 S.2.1 dX11_failed_2 rfl (lv_at hl 0 rfl) ?_
    refine zz_gR S K Z hv zc_9 (by decide) gf_X11_43 dX11_failed_3 (fun v1 hv => ?_)
    refine zz_gI S K Z hv zc_5 (by decide) gf_X11_172 dX11_failed_6 (fun v2 hv => ?_)
    refine lv_iconst (v := (1 : Int32)) S.1 S.2.1 dX11_failed_9 (by decide) ?_
    refine lv_isub S.1 S.2.1 dX11_failed_10 ?_
    obtain ⟨v3, hq, hv⟩ := zz_bd hv
    refine zz_S [.int (a1), .int ((0 : Int32)), .int (v2 - (1 : Int32))] S K Z (c_X11_inside a1 (0 : Int32) (v2 - (1 : Int32)) hq) ⟨rfl, rfl⟩ gm_X11_inside gs_X11_inside gl_X11_100 ⟨by decide, by decide⟩ rfl hl.1 rfl (Nat.le_of_ble_eq_true rfl) dX11_failed_11 ⟨Nat.zero_le _, Nat.zero_le _⟩ (fun H locs Z => ?_)
    show W _ _ _ _ _ _ _ _ _ _ _ _ 0 0 _ (F0 m 14 ls [.int (v3)])
    refine lv_if_ne (tgt := 20) S.1 S.2.1 dX11_failed_14 (by decide) (fun hc => ?_) (fun hc => ?_)
    · replace hv := (if_neg hc).symm.trans hv
      refine lv_iload_n S.1 S.2.1 dX11_failed_20 rfl (lv_at hl 2 rfl) ?_
      refine lv_iconst (v := (0 : Int32)) S.1 S.2.1 dX11_failed_21 (by decide) ?_
      refine lv_iconst (v := (1 : Int32)) S.1 S.2.1 dX11_failed_22 (by decide) ?_
      obtain ⟨v4, hq, hv⟩ := zz_bd hv
      refine zz_S [.int (a2), .int ((0 : Int32)), .int ((1 : Int32))] S K Z (c_X11_inside a2 (0 : Int32) (1 : Int32) hq) ⟨rfl, rfl⟩ gm_X11_inside gs_X11_inside gl_X11_100 ⟨by decide, by decide⟩ rfl hl.1 rfl (Nat.le_of_ble_eq_true rfl) dX11_failed_23 ⟨Nat.zero_le _, Nat.zero_le _⟩ (fun H locs Z => ?_)
      show W _ _ _ _ _ _ _ _ _ _ _ _ 0 0 _ (F0 m 26 ls [.int (v4)])
      refine lv_if_ne (tgt := 32) S.1 S.2.1 dX11_failed_26 (by decide) (fun hc => ?_) (fun hc => ?_)
      · replace hv := (if_neg hc).symm.trans hv
        refine lv_iload_n S.1 S.2.1 dX11_failed_32 rfl (lv_at hl 2 rfl) ?_
        refine lv_if_ne (tgt := 48) S.1 S.2.1 dX11_failed_33 (by decide) (fun hc => ?_) (fun hc => ?_)
        · replace hv := (if_neg hc).symm.trans hv
          refine lv_aload_n S.1 S.2.1 dX11_failed_48 rfl (lv_at hl 0 rfl) ?_
          refine zz_gR S K Z hv zc_9 (by decide) gf_X11_43 dX11_failed_49 (fun v5 hv => ?_)
          refine zz_gR S K Z hv zc_5 (by decide) gf_X11_179 dX11_failed_52 (fun v6 hv => ?_)
          refine lv_iload_n S.1 S.2.1 dX11_failed_55 rfl (lv_at hl 1 rfl) ?_
          refine zz_iald S K Z hv dX11_failed_56 (fun v7 hv => ?_)
          replace hk := zz_fin hv hk
          obtain rfl := hR0 _ hk
          exact zz_iret S Z hret hlk dX11_failed_57 (Nat.le_refl _) (Nat.le_refl _)
        · replace hv := (if_pos hc).symm.trans hv
          refine lv_aload_n S.1 S.2.1 dX11_failed_36 rfl (lv_at hl 0 rfl) ?_
          refine zz_gR S K Z hv zc_9 (by decide) gf_X11_43 dX11_failed_37 (fun v8 hv => ?_)
          refine zz_gR S K Z hv zc_5 (by decide) gf_X11_175 dX11_failed_40 (fun v9 hv => ?_)
          refine lv_iload_n S.1 S.2.1 dX11_failed_43 rfl (lv_at hl 1 rfl) ?_
          refine zz_iald S K Z hv dX11_failed_44 (fun v10 hv => ?_)
          refine lv_goto (tgt := 57) S.1 S.2.1 dX11_failed_45 (by decide) ?_
          replace hk := zz_fin hv hk
          obtain rfl := hR0 _ hk
          exact zz_iret S Z hret hlk dX11_failed_57 (Nat.le_refl _) (Nat.le_refl _)
      · replace hv := (if_pos hc).symm.trans hv
        refine lv_bipush (v := (-3 : Int32)) S.1 S.2.1 dX11_failed_29 (by decide) ?_
        replace hk := zz_fin hv hk
        obtain rfl := hR0 _ hk
        exact zz_iret S Z hret hlk dX11_failed_31 (Nat.le_refl _) (Nat.le_refl _)
    · replace hv := (if_pos hc).symm.trans hv
      refine lv_bipush (v := (-2 : Int32)) S.1 S.2.1 dX11_failed_17 (by decide) ?_
      replace hk := zz_fin hv hk
      obtain rfl := hR0 _ hk
      exact zz_iret S Z hret hlk dX11_failed_19 (Nat.le_refl _) (Nat.le_refl _)
  rw [hH, hlo] at key
  exact key

noncomputable def f_X2_transcriptWord (h : ZH) (a0 : Nat) (a1 : Int32) : Option (Int32) :=
  zz_isO h a0 0 <| (f_X0_at h a0 a1).bind fun v1 => if v1 = (62 : Int32) then (zz_isO h a0 0 <| (f_X0_at h a0 (a1 + (1 : Int32))).bind fun v2 => if v2 = (32 : Int32) then ((f_X2_lettersEnd h a0 (a1 + (2 : Int32))).bind fun v3 => if v3 < 0 then (some (v3)) else (zz_isO h a0 0 <| (f_X0_at h a0 v3).bind fun v4 => (f_X2_endsLine h v4).bind fun v5 => if v5 = 0 then (some (v3 ^^^ (-1 : Int32))) else (some (v3)))) else (some ((a1 + (1 : Int32)) ^^^ (-1 : Int32)))) else (some (a1 ^^^ (-1 : Int32)))
abbrev rm_X2_transcriptWord : Room := { frames := 2, cells := 0, slots := 0, locals := 43 }
set_option maxRecDepth 100000 in
set_option maxHeartbeats 4000000 in
theorem c_X2_transcriptWord {l : Launch} {D : va_G} {dA : Nat → ClassId} {A : Nat → Prop} {h : ZH} {n : Nat} (a0 : Nat) (a1 : Int32) {r : Int32} (hf : f_X2_transcriptWord h a0 a1 = some r) : Met l yX2_transcriptWord (zz_ws yX2_transcriptWord cX2_transcriptWord 3 (some .int)) rm_X2_transcriptWord (zz_P D dA A h n [.ref (a0), .int (a1)]) (zz_Q D dA A (some (.int r)) h n) 0 0 A := by
  refine zz_met (by decide) (Nat.le_of_ble_eq_true rfl) ?_
  intro p e s m args below meth c ls S K hret hlk hnm hl Z
  replace hl : lv_has ls 3 [(0, .ref (a0)), (1, .int (a1))] := hl
  obtain ⟨K0, hR0, hk⟩ : ∃ K0 : (Int32) → Prop, (∀ x, K0 x → x = r) ∧ K0 r := ⟨fun x => x = r, fun _ h => h, rfl⟩
  have hv := hf
  unfold f_X2_transcriptWord at hv
  clear hf
  obtain ⟨x, hxx⟩ : ∃ x, x = r := ⟨_, rfl⟩
  rw [← hxx] at hv hk
  have ⟨H, hH⟩ : ∃ H, H = s.heap := ⟨_, rfl⟩
  have ⟨locs, hlo⟩ : ∃ q : List Loc, q = [] := ⟨_, rfl⟩
  have Z : zz_B D dA A h n s.heap H locs := by rw [hH, hlo]; exact Z
  have key : zz_W p l e rm_X2_transcriptWord s m args below meth c D dA A (some (.int r)) h n 0 0 H locs 0 0 0 ls [] := by
    clear hH hlo hxx
    refine lv_aload_n S.1 S.2.1 dX2_transcriptWord_0 rfl (lv_at hl 0 rfl) ?_
    refine lv_iload_n S.1 S.2.1 dX2_transcriptWord_1 rfl (lv_at hl 1 rfl) ?_
    obtain ⟨hci, hv⟩ := zz_isO_s hv
    obtain ⟨v1, hq, hv⟩ := zz_bd hv
    refine zz_V [.int (a1)] S K Z hci zc_0 rfl (c_X0_at a0 a1 hq) ⟨rfl, rfl⟩ gm_X0_at gmv_X0_at gl_X2_15 ⟨by decide, by decide⟩ rfl hl.1 rfl (Nat.le_of_ble_eq_true rfl) dX2_transcriptWord_2 ⟨Nat.zero_le _, Nat.zero_le _⟩ (fun H locs Z => ?_)
    show W _ _ _ _ _ _ _ _ _ _ _ _ 0 0 _ (F0 m 5 ls [.int (v1)])
    refine lv_bipush (v := (62 : Int32)) S.1 S.2.1 dX2_transcriptWord_5 (by decide) ?_
    refine lv_icmp_eq (tgt := 14) S.1 S.2.1 dX2_transcriptWord_7 (by decide) (fun hc => ?_) (fun hc => ?_)
    · replace hv := (if_pos hc).symm.trans hv
      refine lv_aload_n S.1 S.2.1 dX2_transcriptWord_14 rfl (lv_at hl 0 rfl) ?_
      refine lv_iload_n S.1 S.2.1 dX2_transcriptWord_15 rfl (lv_at hl 1 rfl) ?_
      refine lv_iconst (v := (1 : Int32)) S.1 S.2.1 dX2_transcriptWord_16 (by decide) ?_
      refine lv_iadd S.1 S.2.1 dX2_transcriptWord_17 ?_
      obtain ⟨hci, hv⟩ := zz_isO_s hv
      obtain ⟨v2, hq, hv⟩ := zz_bd hv
      refine zz_V [.int (a1 + (1 : Int32))] S K Z hci zc_0 rfl (c_X0_at a0 (a1 + (1 : Int32)) hq) ⟨rfl, rfl⟩ gm_X0_at gmv_X0_at gl_X2_15 ⟨by decide, by decide⟩ rfl hl.1 rfl (Nat.le_of_ble_eq_true rfl) dX2_transcriptWord_18 ⟨Nat.zero_le _, Nat.zero_le _⟩ (fun H locs Z => ?_)
      show W _ _ _ _ _ _ _ _ _ _ _ _ 0 0 _ (F0 m 21 ls [.int (v2)])
      refine lv_bipush (v := (32 : Int32)) S.1 S.2.1 dX2_transcriptWord_21 (by decide) ?_
      refine lv_icmp_eq (tgt := 32) S.1 S.2.1 dX2_transcriptWord_23 (by decide) (fun hc => ?_) (fun hc => ?_)
      · replace hv := (if_pos hc).symm.trans hv
        refine lv_aload_n S.1 S.2.1 dX2_transcriptWord_32 rfl (lv_at hl 0 rfl) ?_
        refine lv_iload_n S.1 S.2.1 dX2_transcriptWord_33 rfl (lv_at hl 1 rfl) ?_
        refine lv_iconst (v := (2 : Int32)) S.1 S.2.1 dX2_transcriptWord_34 (by decide) ?_
        refine lv_iadd S.1 S.2.1 dX2_transcriptWord_35 ?_
        obtain ⟨v3, hq, hv⟩ := zz_bd hv
        refine zz_S [.ref (a0), .int (a1 + (2 : Int32))] S K Z (c_X2_lettersEnd a0 (a1 + (2 : Int32)) hq) ⟨rfl, rfl⟩ gm_X2_lettersEnd gs_X2_lettersEnd gl_X2_51 ⟨by decide, by decide⟩ rfl hl.1 rfl (Nat.le_of_ble_eq_true rfl) dX2_transcriptWord_36 ⟨Nat.zero_le _, Nat.zero_le _⟩ (fun H locs Z => ?_)
        show W _ _ _ _ _ _ _ _ _ _ _ _ 0 0 _ (F0 m 39 ls [.int (v3)])
        refine lv_istore_n (lv' := [(2, .int (v3)), (0, .ref (a0)), (1, .int (a1))]) S.1 S.2.1 dX2_transcriptWord_39 rfl hl (by decide) rfl (fun ls hl => ?_)
        refine lv_iload_n S.1 S.2.1 dX2_transcriptWord_40 rfl (lv_at hl 0 rfl) ?_
        refine lv_if_lt (tgt := 55) S.1 S.2.1 dX2_transcriptWord_41 (by decide) (fun hc => ?_) (fun hc => ?_)
        · replace hv := (if_pos hc).symm.trans hv
          refine lv_iload_n S.1 S.2.1 dX2_transcriptWord_55 rfl (lv_at hl 0 rfl) ?_
          refine lv_goto (tgt := 62) S.1 S.2.1 dX2_transcriptWord_56 (by decide) ?_
          replace hk := zz_fin hv hk
          obtain rfl := hR0 _ hk
          exact zz_iret S Z hret hlk dX2_transcriptWord_62 (Nat.le_refl _) (Nat.le_refl _)
        · replace hv := (if_neg hc).symm.trans hv
          refine lv_aload_n S.1 S.2.1 dX2_transcriptWord_44 rfl (lv_at hl 1 rfl) ?_
          refine lv_iload_n S.1 S.2.1 dX2_transcriptWord_45 rfl (lv_at hl 0 rfl) ?_
          obtain ⟨hci, hv⟩ := zz_isO_s hv
          obtain ⟨v4, hq, hv⟩ := zz_bd hv
          refine zz_V [.int (v3)] S K Z hci zc_0 rfl (c_X0_at a0 v3 hq) ⟨rfl, rfl⟩ gm_X0_at gmv_X0_at gl_X2_15 ⟨by decide, by decide⟩ rfl hl.1 rfl (Nat.le_of_ble_eq_true rfl) dX2_transcriptWord_46 ⟨Nat.zero_le _, Nat.zero_le _⟩ (fun H locs Z => ?_)
          show W _ _ _ _ _ _ _ _ _ _ _ _ 0 0 _ (F0 m 49 ls [.int (v4)])
          obtain ⟨v5, hq, hv⟩ := zz_bd hv
          refine zz_S [.int (v4)] S K Z (c_X2_endsLine v4 hq) ⟨rfl, rfl⟩ gm_X2_endsLine gs_X2_endsLine gl_X2_54 ⟨by decide, by decide⟩ rfl hl.1 rfl (Nat.le_of_ble_eq_true rfl) dX2_transcriptWord_49 ⟨Nat.zero_le _, Nat.zero_le _⟩ (fun H locs Z => ?_)
          show W _ _ _ _ _ _ _ _ _ _ _ _ 0 0 _ (F0 m 52 ls [.int (v5)])
          refine lv_if_eq (tgt := 59) S.1 S.2.1 dX2_transcriptWord_52 (by decide) (fun hc => ?_) (fun hc => ?_)
          · replace hv := (if_pos hc).symm.trans hv
            refine lv_iload_n S.1 S.2.1 dX2_transcriptWord_59 rfl (lv_at hl 0 rfl) ?_
            refine lv_iconst (v := (-1 : Int32)) S.1 S.2.1 dX2_transcriptWord_60 (by decide) ?_
            refine lv_ixor S.1 S.2.1 dX2_transcriptWord_61 ?_
            replace hk := zz_fin hv hk
            obtain rfl := hR0 _ hk
            exact zz_iret S Z hret hlk dX2_transcriptWord_62 (Nat.le_refl _) (Nat.le_refl _)
          · replace hv := (if_neg hc).symm.trans hv
            refine lv_iload_n S.1 S.2.1 dX2_transcriptWord_55 rfl (lv_at hl 0 rfl) ?_
            refine lv_goto (tgt := 62) S.1 S.2.1 dX2_transcriptWord_56 (by decide) ?_
            replace hk := zz_fin hv hk
            obtain rfl := hR0 _ hk
            exact zz_iret S Z hret hlk dX2_transcriptWord_62 (Nat.le_refl _) (Nat.le_refl _)
      · replace hv := (if_neg hc).symm.trans hv
        refine lv_iload_n S.1 S.2.1 dX2_transcriptWord_26 rfl (lv_at hl 1 rfl) ?_
        refine lv_iconst (v := (1 : Int32)) S.1 S.2.1 dX2_transcriptWord_27 (by decide) ?_
        refine lv_iadd S.1 S.2.1 dX2_transcriptWord_28 ?_
        refine lv_iconst (v := (-1 : Int32)) S.1 S.2.1 dX2_transcriptWord_29 (by decide) ?_
        refine lv_ixor S.1 S.2.1 dX2_transcriptWord_30 ?_
        replace hk := zz_fin hv hk
        obtain rfl := hR0 _ hk
        exact zz_iret S Z hret hlk dX2_transcriptWord_31 (Nat.le_refl _) (Nat.le_refl _)
    · replace hv := (if_neg hc).symm.trans hv
      refine lv_iload_n S.1 S.2.1 dX2_transcriptWord_10 rfl (lv_at hl 1 rfl) ?_
      refine lv_iconst (v := (-1 : Int32)) S.1 S.2.1 dX2_transcriptWord_11 (by decide) ?_
      refine lv_ixor S.1 S.2.1 dX2_transcriptWord_12 ?_
      replace hk := zz_fin hv hk
      obtain rfl := hR0 _ hk
      exact zz_iret S Z hret hlk dX2_transcriptWord_13 (Nat.le_refl _) (Nat.le_refl _)
  rw [hH, hlo] at key
  exact key

noncomputable def f_X2_wrongInTranscript_J82 (h : ZH) (a0 : Nat) (x1_3 : Int32) : Option (Int32) :=
  (zg_I h a0 0 1).bind fun v4 => if v4 ≤ x1_3 then (some ((-1 : Int32))) else (some (x1_3))
noncomputable def f_X2_wrongInTranscript_L4 (h : ZH) (a0 : Nat) (x1_1 : Int32) (x2_2 : Int32)  : Option ((Int32 × Int32) ⊕ (Int32)) :=
  if (40 : Int32) < x2_2 then ((f_X2_wrongInTranscript_J82 h a0 x1_1).map Sum.inr) else ((zg_I h a0 0 1).bind fun v5 => if v5 ≤ x1_1 then ((f_X2_wrongInTranscript_J82 h a0 x1_1).map Sum.inr) else ((f_X2_transcriptWord h a0 x1_1).bind fun v6 => if 0 ≤ v6 then ((zg_I h a0 0 1).bind fun v7 => if (v6 + (1 : Int32)) < v7 then ((f_X2_signsEnd h a0 (v6 + (1 : Int32))).bind fun v8 => zz_isO h a0 0 <| (f_X0_at h a0 v8).bind fun v9 => (f_X2_endsLine h v9).bind fun v10 => if v10 = 0 then ((some (v8)).map Sum.inr) else (zz_let (v8 + (1 : Int32)) fun v11 => some (.inl (v11, x2_2 + (2 : Int32))))) else (((zg_I h a0 0 1).bind fun v12 => some (v12)).map Sum.inr)) else ((some (v6 ^^^ (-1 : Int32))).map Sum.inr)))
noncomputable def f_X2_wrongInTranscript (h : ZH) (a0 : Nat) : Option (Int32) :=
  zz_loop (fun st : (Int32 × Int32) => f_X2_wrongInTranscript_L4 h a0 (st.1) (st.2)) ((0 : Int32), (1 : Int32))
abbrev rm_X2_wrongInTranscript : Room := { frames := 3, cells := 0, slots := 0, locals := 65 }
set_option maxRecDepth 100000 in
set_option maxHeartbeats 4000000 in
theorem c_X2_wrongInTranscript {l : Launch} {D : va_G} {dA : Nat → ClassId} {A : Nat → Prop} {h : ZH} {n : Nat} (a0 : Nat) {r : Int32} (hf : f_X2_wrongInTranscript h a0 = some r) : Met l yX2_wrongInTranscript (zz_ws yX2_wrongInTranscript cX2_wrongInTranscript 5 (some .int)) rm_X2_wrongInTranscript (zz_P D dA A h n [.ref (a0)]) (zz_Q D dA A (some (.int r)) h n) 0 0 A := by
  refine zz_met (by decide) (Nat.le_of_ble_eq_true rfl) ?_
  intro p e s m args below meth c ls S K hret hlk hnm hl Z
  replace hl : lv_has ls 5 [(0, .ref (a0))] := hl
  obtain ⟨K0, hR0, hk⟩ : ∃ K0 : (Int32) → Prop, (∀ x, K0 x → x = r) ∧ K0 r := ⟨fun x => x = r, fun _ h => h, rfl⟩
  have J82 : ∀ (x1_3 : Int32) (x : (Int32)), f_X2_wrongInTranscript_J82 h a0 x1_3 = some x → K0 x → ∀ (H : Heap) (locs : List Loc) (ls : Array Slot), zz_B D dA A h n s.heap H locs → lv_has ls 5 [(0, .ref (a0)), (1, .int (x1_3))] → zz_W p l e rm_X2_wrongInTranscript s m args below meth c D dA A (some (.int r)) h n 0 0 H locs 0 0 82 ls [] := by
    intro x1_3 x hv hk H locs ls Z hl
    unfold f_X2_wrongInTranscript_J82 at hv
    refine lv_iload_n S.1 S.2.1 dX2_wrongInTranscript_82 rfl (lv_at hl 1 rfl) ?_
    refine lv_aload_n S.1 S.2.1 dX2_wrongInTranscript_83 rfl (lv_at hl 0 rfl) ?_
    refine zz_gI S K Z hv zc_0 (by decide) gf_X2_9 dX2_wrongInTranscript_84 (fun v4 hv => ?_)
    refine lv_icmp_ge (tgt := 94) S.1 S.2.1 dX2_wrongInTranscript_87 (by decide) (fun hc => ?_) (fun hc => ?_)
    · replace hv := (if_pos hc).symm.trans hv
      refine lv_iconst (v := (-1 : Int32)) S.1 S.2.1 dX2_wrongInTranscript_94 (by decide) ?_
      replace hk := zz_fin hv hk
      obtain rfl := hR0 _ hk
      exact zz_iret S Z hret hlk dX2_wrongInTranscript_95 (Nat.le_refl _) (Nat.le_refl _)
    · replace hv := (if_neg hc).symm.trans hv
      refine lv_iload_n S.1 S.2.1 dX2_wrongInTranscript_90 rfl (lv_at hl 1 rfl) ?_
      refine lv_goto (tgt := 95) S.1 S.2.1 dX2_wrongInTranscript_91 (by decide) ?_
      replace hk := zz_fin hv hk
      obtain rfl := hR0 _ hk
      exact zz_iret S Z hret hlk dX2_wrongInTranscript_95 (Nat.le_refl _) (Nat.le_refl _)
  have L4 : ∀ (st : (Int32 × Int32)) (x : (Int32)), zz_loop (fun st : (Int32 × Int32) => f_X2_wrongInTranscript_L4 h a0 (st.1) (st.2)) st = some x → K0 x → (fun st : (Int32 × Int32) => ∀ (H : Heap) (locs : List Loc) (ls : Array Slot), zz_B D dA A h n s.heap H locs → lv_has ls 5 [(0, .ref (a0)), (1, .int ((st.1))), (2, .int ((st.2)))] → zz_W p l e rm_X2_wrongInTranscript s m args below meth c D dA A (some (.int r)) h n 0 0 H locs 0 0 4 ls []) st := by
    refine zz_loop_go (K := K0) ?_
    intro K1 hP1 hR1
    rintro ⟨x1_1, x2_2⟩ x hv hk H locs ls Z hl
    replace hv : f_X2_wrongInTranscript_L4 h a0 x1_1 x2_2 = some x := hv
    unfold f_X2_wrongInTranscript_L4 at hv
    replace hl : lv_has ls 5 [(0, .ref (a0)), (1, .int (x1_1)), (2, .int (x2_2))] := hl
    replace Z : zz_B D dA A h n s.heap H locs := Z
    show zz_W p l e rm_X2_wrongInTranscript s m args below meth c D dA A (some (.int r)) h n 0 0 H locs 0 0 4 ls []
    refine lv_iload_n S.1 S.2.1 dX2_wrongInTranscript_4 rfl (lv_at hl 2 rfl) ?_
    refine lv_bipush (v := (40 : Int32)) S.1 S.2.1 dX2_wrongInTranscript_5 (by decide) ?_
    refine lv_icmp_gt (tgt := 82) S.1 S.2.1 dX2_wrongInTranscript_7 (by decide) (fun hc => ?_) (fun hc => ?_)
    · replace hv := (if_pos hc).symm.trans hv
      obtain ⟨_, hv, hk⟩ := zz_mapk hv hk
      replace hk := hR1 _ hk
      exact J82 x1_1 _ hv hk H locs ls Z (lv_sub hl [0, 1] rfl)
    · replace hv := (if_neg hc).symm.trans hv
      refine lv_iload_n S.1 S.2.1 dX2_wrongInTranscript_10 rfl (lv_at hl 1 rfl) ?_
      refine lv_aload_n S.1 S.2.1 dX2_wrongInTranscript_11 rfl (lv_at hl 0 rfl) ?_
      refine zz_gI S K Z hv zc_0 (by decide) gf_X2_9 dX2_wrongInTranscript_12 (fun v5 hv => ?_)
      refine lv_icmp_ge (tgt := 82) S.1 S.2.1 dX2_wrongInTranscript_15 (by decide) (fun hc => ?_) (fun hc => ?_)
      · replace hv := (if_pos hc).symm.trans hv
        obtain ⟨_, hv, hk⟩ := zz_mapk hv hk
        replace hk := hR1 _ hk
        exact J82 x1_1 _ hv hk H locs ls Z (lv_sub hl [0, 1] rfl)
      · replace hv := (if_neg hc).symm.trans hv
        refine lv_aload_n S.1 S.2.1 dX2_wrongInTranscript_18 rfl (lv_at hl 0 rfl) ?_
        refine lv_iload_n S.1 S.2.1 dX2_wrongInTranscript_19 rfl (lv_at hl 1 rfl) ?_
        obtain ⟨v6, hq, hv⟩ := zz_bd hv
        refine zz_S [.ref (a0), .int (x1_1)] S K Z (c_X2_transcriptWord a0 x1_1 hq) ⟨rfl, rfl⟩ gm_X2_transcriptWord gs_X2_transcriptWord gl_X2_68 ⟨by decide, by decide⟩ rfl hl.1 rfl (Nat.le_of_ble_eq_true rfl) dX2_wrongInTranscript_20 ⟨Nat.zero_le _, Nat.zero_le _⟩ (fun H locs Z => ?_)
        show W _ _ _ _ _ _ _ _ _ _ _ _ 0 0 _ (F0 m 23 ls [.int (v6)])
        refine lv_istore_n (lv' := [(3, .int (v6)), (0, .ref (a0)), (1, .int (x1_1)), (2, .int (x2_2))]) S.1 S.2.1 dX2_wrongInTranscript_23 rfl hl (by decide) rfl (fun ls hl => ?_)
        refine lv_iload_n S.1 S.2.1 dX2_wrongInTranscript_24 rfl (lv_at hl 0 rfl) ?_
        refine lv_if_ge (tgt := 32) S.1 S.2.1 dX2_wrongInTranscript_25 (by decide) (fun hc => ?_) (fun hc => ?_)
        · replace hv := (if_pos hc).symm.trans hv
          refine lv_iload_n S.1 S.2.1 dX2_wrongInTranscript_32 rfl (lv_at hl 0 rfl) ?_
          refine lv_iconst (v := (1 : Int32)) S.1 S.2.1 dX2_wrongInTranscript_33 (by decide) ?_
          refine lv_iadd S.1 S.2.1 dX2_wrongInTranscript_34 ?_
          refine lv_aload_n S.1 S.2.1 dX2_wrongInTranscript_35 rfl (lv_at hl 1 rfl) ?_
          refine zz_gI S K Z hv zc_0 (by decide) gf_X2_9 dX2_wrongInTranscript_36 (fun v7 hv => ?_)
          refine lv_icmp_lt (tgt := 47) S.1 S.2.1 dX2_wrongInTranscript_39 (by decide) (fun hc => ?_) (fun hc => ?_)
          · replace hv := (if_pos hc).symm.trans hv
            refine lv_aload_n S.1 S.2.1 dX2_wrongInTranscript_47 rfl (lv_at hl 1 rfl) ?_
            refine lv_iload_n S.1 S.2.1 dX2_wrongInTranscript_48 rfl (lv_at hl 0 rfl) ?_
            refine lv_iconst (v := (1 : Int32)) S.1 S.2.1 dX2_wrongInTranscript_49 (by decide) ?_
            refine lv_iadd S.1 S.2.1 dX2_wrongInTranscript_50 ?_
            obtain ⟨v8, hq, hv⟩ := zz_bd hv
            refine zz_S [.ref (a0), .int (v6 + (1 : Int32))] S K Z (c_X2_signsEnd a0 (v6 + (1 : Int32)) hq) ⟨rfl, rfl⟩ gm_X2_signsEnd gs_X2_signsEnd gl_X2_71 ⟨by decide, by decide⟩ rfl hl.1 rfl (Nat.le_of_ble_eq_true rfl) dX2_wrongInTranscript_51 ⟨Nat.zero_le _, Nat.zero_le _⟩ (fun H locs Z => ?_)
            show W _ _ _ _ _ _ _ _ _ _ _ _ 0 0 _ (F0 m 54 ls [.int (v8)])
            refine lv_istore (lv' := [(4, .int (v8)), (3, .int (v6)), (0, .ref (a0)), (1, .int (x1_1)), (2, .int (x2_2))]) S.1 S.2.1 dX2_wrongInTranscript_54 hl (by decide) rfl (fun ls hl => ?_)
            refine lv_aload_n S.1 S.2.1 dX2_wrongInTranscript_56 rfl (lv_at hl 2 rfl) ?_
            refine lv_iload S.1 S.2.1 dX2_wrongInTranscript_57 (lv_at hl 0 rfl) ?_
            obtain ⟨hci, hv⟩ := zz_isO_s hv
            obtain ⟨v9, hq, hv⟩ := zz_bd hv
            refine zz_V [.int (v8)] S K Z hci zc_0 rfl (c_X0_at a0 v8 hq) ⟨rfl, rfl⟩ gm_X0_at gmv_X0_at gl_X2_15 ⟨by decide, by decide⟩ rfl hl.1 rfl (Nat.le_of_ble_eq_true rfl) dX2_wrongInTranscript_59 ⟨Nat.zero_le _, Nat.zero_le _⟩ (fun H locs Z => ?_)
            show W _ _ _ _ _ _ _ _ _ _ _ _ 0 0 _ (F0 m 62 ls [.int (v9)])
            obtain ⟨v10, hq, hv⟩ := zz_bd hv
            refine zz_S [.int (v9)] S K Z (c_X2_endsLine v9 hq) ⟨rfl, rfl⟩ gm_X2_endsLine gs_X2_endsLine gl_X2_54 ⟨by decide, by decide⟩ rfl hl.1 rfl (Nat.le_of_ble_eq_true rfl) dX2_wrongInTranscript_62 ⟨Nat.zero_le _, Nat.zero_le _⟩ (fun H locs Z => ?_)
            show W _ _ _ _ _ _ _ _ _ _ _ _ 0 0 _ (F0 m 65 ls [.int (v10)])
            refine lv_if_ne (tgt := 71) S.1 S.2.1 dX2_wrongInTranscript_65 (by decide) (fun hc => ?_) (fun hc => ?_)
            · replace hv := (if_neg hc).symm.trans hv
              refine lv_iload S.1 S.2.1 dX2_wrongInTranscript_71 (lv_at hl 0 rfl) ?_
              refine lv_iconst (v := (1 : Int32)) S.1 S.2.1 dX2_wrongInTranscript_73 (by decide) ?_
              refine lv_iadd S.1 S.2.1 dX2_wrongInTranscript_74 ?_
              refine zz_lt hv (G := fun w => W _ _ _ _ _ _ _ _ _ _ _ _ _ _ _ (F0 _ _ _ (.int w :: _))) (fun v11 hv => ?_)
              refine lv_istore_n (lv' := [(1, .int (v11)), (4, .int (v8)), (3, .int (v6)), (0, .ref (a0)), (2, .int (x2_2))]) S.1 S.2.1 dX2_wrongInTranscript_75 rfl hl (by decide) rfl (fun ls hl => ?_)
              refine lv_iinc (v := x2_2 + (2 : Int32)) (lv' := [(2, .int (x2_2 + (2 : Int32))), (1, .int (v11)), (4, .int (v8)), (3, .int (v6)), (0, .ref (a0))]) S.1 S.2.1 dX2_wrongInTranscript_76 hl (k := 4) rfl rfl (by decide) rfl (fun ls hl => ?_)
              refine lv_goto (tgt := 4) S.1 S.2.1 dX2_wrongInTranscript_79 (by decide) ?_
              replace hk := zz_fin hv hk
              exact hP1 _ hk H locs ls Z (lv_sub hl [4, 1, 0] rfl)
            · replace hv := (if_pos hc).symm.trans hv
              obtain ⟨_, hv, hk⟩ := zz_mapk hv hk
              replace hk := hR1 _ hk
              refine lv_iload S.1 S.2.1 dX2_wrongInTranscript_68 (lv_at hl 0 rfl) ?_
              replace hk := zz_fin hv hk
              obtain rfl := hR0 _ hk
              exact zz_iret S Z hret hlk dX2_wrongInTranscript_70 (Nat.le_refl _) (Nat.le_refl _)
          · replace hv := (if_neg hc).symm.trans hv
            obtain ⟨_, hv, hk⟩ := zz_mapk hv hk
            replace hk := hR1 _ hk
            refine lv_aload_n S.1 S.2.1 dX2_wrongInTranscript_42 rfl (lv_at hl 1 rfl) ?_
            refine zz_gI S K Z hv zc_0 (by decide) gf_X2_9 dX2_wrongInTranscript_43 (fun v12 hv => ?_)
            replace hk := zz_fin hv hk
            obtain rfl := hR0 _ hk
            exact zz_iret S Z hret hlk dX2_wrongInTranscript_46 (Nat.le_refl _) (Nat.le_refl _)
        · replace hv := (if_neg hc).symm.trans hv
          obtain ⟨_, hv, hk⟩ := zz_mapk hv hk
          replace hk := hR1 _ hk
          refine lv_iload_n S.1 S.2.1 dX2_wrongInTranscript_28 rfl (lv_at hl 0 rfl) ?_
          refine lv_iconst (v := (-1 : Int32)) S.1 S.2.1 dX2_wrongInTranscript_29 (by decide) ?_
          refine lv_ixor S.1 S.2.1 dX2_wrongInTranscript_30 ?_
          replace hk := zz_fin hv hk
          obtain rfl := hR0 _ hk
          exact zz_iret S Z hret hlk dX2_wrongInTranscript_31 (Nat.le_refl _) (Nat.le_refl _)
  have hv := hf
  unfold f_X2_wrongInTranscript at hv
  clear hf
  obtain ⟨x, hxx⟩ : ∃ x, x = r := ⟨_, rfl⟩
  rw [← hxx] at hv hk
  have ⟨H, hH⟩ : ∃ H, H = s.heap := ⟨_, rfl⟩
  have ⟨locs, hlo⟩ : ∃ q : List Loc, q = [] := ⟨_, rfl⟩
  have Z : zz_B D dA A h n s.heap H locs := by rw [hH, hlo]; exact Z
  have key : zz_W p l e rm_X2_wrongInTranscript s m args below meth c D dA A (some (.int r)) h n 0 0 H locs 0 0 0 ls [] := by
    clear hH hlo hxx
    refine lv_iconst (v := (0 : Int32)) S.1 S.2.1 dX2_wrongInTranscript_0 (by decide) ?_
    refine lv_istore_n (lv' := [(1, .int ((0 : Int32))), (0, .ref (a0))]) S.1 S.2.1 dX2_wrongInTranscript_1 rfl hl (by decide) rfl (fun ls hl => ?_)
    refine lv_iconst (v := (1 : Int32)) S.1 S.2.1 dX2_wrongInTranscript_2 (by decide) ?_
    refine lv_istore_n (lv' := [(2, .int ((1 : Int32))), (1, .int ((0 : Int32))), (0, .ref (a0))]) S.1 S.2.1 dX2_wrongInTranscript_3 rfl hl (by decide) rfl (fun ls hl => ?_)
    exact L4  ((0 : Int32), (1 : Int32)) _ hv hk H locs ls Z (lv_sub hl [2, 1, 0] rfl)
  rw [hH, hlo] at key
  exact key

noncomputable def f_X10_textStands (h : ZH) (a0 : Nat) (a1 : Int32) (a2 : Nat) (a3 : Int32) (a4 : Int32) : Option (Int32) :=
  if a1 = (-1 : Int32) then (if (a4 - a3) = (1 : Int32) then (zz_isO h a2 0 <| (f_X0_at h a2 a3).bind fun v3 => if v3 = (63 : Int32) then (some ((1 : Int32))) else (some ((0 : Int32)))) else (some ((0 : Int32)))) else ((zg_R h a0 8 1).bind fun v1 => zz_isO h v1 1 <| (f_X1_stands h v1 a1 a2 a3 a4).bind fun v2 => zz_ok (v2 = 0 ∨ v2 = 1) <| some (v2))
abbrev rm_X10_textStands : Room := { frames := 3, cells := 0, slots := 0, locals := 69 }
set_option maxRecDepth 100000 in
set_option maxHeartbeats 4000000 in
theorem c_X10_textStands {l : Launch} {D : va_G} {dA : Nat → ClassId} {A : Nat → Prop} {h : ZH} {n : Nat} (a0 : Nat) (a1 : Int32) (a2 : Nat) (a3 : Int32) (a4 : Int32) {r : Int32} (hf : f_X10_textStands h a0 a1 a2 a3 a4 = some r) : Met l yX10_textStands (zz_ws yX10_textStands cX10_textStands 5 (some .boolean)) rm_X10_textStands (zz_P D dA A h n [.ref (a0), .int (a1), .ref (a2), .int (a3), .int (a4)]) (zz_Q D dA A (some (.int r)) h n) 0 0 A := by
  refine zz_met (by decide) (Nat.le_of_ble_eq_true rfl) ?_
  intro p e s m args below meth c ls S K hret hlk hnm hl Z
  replace hl : lv_has ls 5 [(0, .ref (a0)), (1, .int (a1)), (2, .ref (a2)), (3, .int (a3)), (4, .int (a4))] := hl
  obtain ⟨K0, hR0, hk⟩ : ∃ K0 : (Int32) → Prop, (∀ x, K0 x → x = r) ∧ K0 r := ⟨fun x => x = r, fun _ h => h, rfl⟩
  have hv := hf
  unfold f_X10_textStands at hv
  clear hf
  obtain ⟨x, hxx⟩ : ∃ x, x = r := ⟨_, rfl⟩
  rw [← hxx] at hv hk
  have ⟨H, hH⟩ : ∃ H, H = s.heap := ⟨_, rfl⟩
  have ⟨locs, hlo⟩ : ∃ q : List Loc, q = [] := ⟨_, rfl⟩
  have Z : zz_B D dA A h n s.heap H locs := by rw [hH, hlo]; exact Z
  have key : zz_W p l e rm_X10_textStands s m args below meth c D dA A (some (.int r)) h n 0 0 H locs 0 0 0 ls [] := by
    clear hH hlo hxx
    refine lv_iload_n S.1 S.2.1 dX10_textStands_0 rfl (lv_at hl 1 rfl) ?_
    refine lv_iconst (v := (-1 : Int32)) S.1 S.2.1 dX10_textStands_1 (by decide) ?_
    refine lv_icmp_ne (tgt := 29) S.1 S.2.1 dX10_textStands_2 (by decide) (fun hc => ?_) (fun hc => ?_)
    · replace hv := (if_neg hc).symm.trans hv
      refine lv_aload_n S.1 S.2.1 dX10_textStands_29 rfl (lv_at hl 0 rfl) ?_
      refine zz_gR S K Z hv zc_8 (by decide) gf_X10_20 dX10_textStands_30 (fun v1 hv => ?_)
      refine lv_iload_n S.1 S.2.1 dX10_textStands_33 rfl (lv_at hl 1 rfl) ?_
      refine lv_aload_n S.1 S.2.1 dX10_textStands_34 rfl (lv_at hl 2 rfl) ?_
      refine lv_iload_n S.1 S.2.1 dX10_textStands_35 rfl (lv_at hl 3 rfl) ?_
      refine lv_iload S.1 S.2.1 dX10_textStands_36 (lv_at hl 4 rfl) ?_
      obtain ⟨hci, hv⟩ := zz_isO_s hv
      obtain ⟨v2, hq, hv⟩ := zz_bd hv
      refine zz_V [.int (a1), .ref (a2), .int (a3), .int (a4)] S K Z hci zc_1 rfl (c_X1_stands v1 a1 a2 a3 a4 hq) ⟨rfl, rfl⟩ gm_X1_stands gmv_X1_stands gl_X10_127 ⟨by decide, by decide⟩ rfl hl.1 rfl (Nat.le_of_ble_eq_true rfl) dX10_textStands_38 ⟨Nat.zero_le _, Nat.zero_le _⟩ (fun H locs Z => ?_)
      show W _ _ _ _ _ _ _ _ _ _ _ _ 0 0 _ (F0 m 41 ls [.int (v2)])
      obtain ⟨hok, hv⟩ := zz_ok_s hv
      replace hk := zz_fin hv hk
      obtain rfl := hR0 _ hk
      exact zz_zret S Z hret hok hlk dX10_textStands_41 (Nat.le_refl _) (Nat.le_refl _)
    · replace hv := (if_pos hc).symm.trans hv
      refine lv_iload S.1 S.2.1 dX10_textStands_5 (lv_at hl 4 rfl) ?_
      refine lv_iload_n S.1 S.2.1 dX10_textStands_7 rfl (lv_at hl 3 rfl) ?_
      refine lv_isub S.1 S.2.1 dX10_textStands_8 ?_
      refine lv_iconst (v := (1 : Int32)) S.1 S.2.1 dX10_textStands_9 (by decide) ?_
      refine lv_icmp_ne (tgt := 27) S.1 S.2.1 dX10_textStands_10 (by decide) (fun hc => ?_) (fun hc => ?_)
      · replace hv := (if_neg hc).symm.trans hv
        refine lv_iconst (v := (0 : Int32)) S.1 S.2.1 dX10_textStands_27 (by decide) ?_
        replace hk := zz_fin hv hk
        obtain rfl := hR0 _ hk
        exact zz_zret S Z hret (by decide) hlk dX10_textStands_28 (Nat.le_refl _) (Nat.le_refl _)
      · replace hv := (if_pos hc).symm.trans hv
        refine lv_aload_n S.1 S.2.1 dX10_textStands_13 rfl (lv_at hl 2 rfl) ?_
        refine lv_iload_n S.1 S.2.1 dX10_textStands_14 rfl (lv_at hl 3 rfl) ?_
        obtain ⟨hci, hv⟩ := zz_isO_s hv
        obtain ⟨v3, hq, hv⟩ := zz_bd hv
        refine zz_V [.int (a3)] S K Z hci zc_0 rfl (c_X0_at a2 a3 hq) ⟨rfl, rfl⟩ gm_X0_at gmv_X0_at gl_X10_122 ⟨by decide, by decide⟩ rfl hl.1 rfl (Nat.le_of_ble_eq_true rfl) dX10_textStands_15 ⟨Nat.zero_le _, Nat.zero_le _⟩ (fun H locs Z => ?_)
        show W _ _ _ _ _ _ _ _ _ _ _ _ 0 0 _ (F0 m 18 ls [.int (v3)])
        refine lv_bipush (v := (63 : Int32)) S.1 S.2.1 dX10_textStands_18 (by decide) ?_
        refine lv_icmp_ne (tgt := 27) S.1 S.2.1 dX10_textStands_20 (by decide) (fun hc => ?_) (fun hc => ?_)
        · replace hv := (if_neg hc).symm.trans hv
          refine lv_iconst (v := (0 : Int32)) S.1 S.2.1 dX10_textStands_27 (by decide) ?_
          replace hk := zz_fin hv hk
          obtain rfl := hR0 _ hk
          exact zz_zret S Z hret (by decide) hlk dX10_textStands_28 (Nat.le_refl _) (Nat.le_refl _)
        · replace hv := (if_pos hc).symm.trans hv
          refine lv_iconst (v := (1 : Int32)) S.1 S.2.1 dX10_textStands_23 (by decide) ?_
          refine lv_goto (tgt := 28) S.1 S.2.1 dX10_textStands_24 (by decide) ?_
          replace hk := zz_fin hv hk
          obtain rfl := hR0 _ hk
          exact zz_zret S Z hret (by decide) hlk dX10_textStands_28 (Nat.le_refl _) (Nat.le_refl _)
  rw [hH, hlo] at key
  exact key

noncomputable def f_X11_answersAlike (h : ZH) (a0 : Nat) (a1 : Int32) (a2 : Int32) (a3 : Int32) : Option (Int32 × ZH) :=
  zz_let (a2 + (1 : Int32)) fun v1 => (zg_R h a0 9 2).bind fun v2 => (zg_R h v2 6 1).bind fun v3 => (zg_I h v3 3 3).bind fun v4 => if v4 = 0 then ((zg_R h a0 9 2).bind fun v5 => (zg_R h a0 9 1).bind fun v6 => (zg_R h v6 8 0).bind fun v7 => (zg_R h a0 9 0).bind fun v8 => zz_isO h v7 1 <| (f_X1_find h v7 v8 a1 a2).bind fun v9 => zz_isO h v5 6 <| (f_X8_hear h v5 v9).bind fun (v10, h11) => if v10 = 0 then ((zg_R h11 a0 9 1).bind fun v12 => (zg_R h11 a0 9 2).bind fun v13 => (zg_R h11 v13 6 1).bind fun v14 => (zg_I h11 v14 3 4).bind fun v15 => (zg_R h11 a0 9 0).bind fun v16 => zz_isO h11 v12 8 <| (f_X10_textStands h11 v12 v15 v16 v1 a3).bind fun v17 => zz_ok (v17 = 0 ∨ v17 = 1) <| some ((v17, h11))) else (if (a3 - v1) = (2 : Int32) then ((zg_R h11 a0 9 0).bind fun v18 => zz_isO h11 v18 0 <| (f_X0_at h11 v18 v1).bind fun v19 => if v19 = (33 : Int32) then ((zg_R h11 a0 9 0).bind fun v20 => zz_isO h11 v20 0 <| (f_X0_at h11 v20 (v1 + (1 : Int32))).bind fun v21 => if v21 = ((48 : Int32) + v10) then (some (((1 : Int32), h11))) else (some (((0 : Int32), h11)))) else (some (((0 : Int32), h11)))) else (some (((0 : Int32), h11))))) else (if (a3 - v1) = (1 : Int32) then ((zg_R h a0 9 0).bind fun v22 => zz_isO h v22 0 <| (f_X0_at h v22 v1).bind fun v23 => if v23 = (46 : Int32) then (some (((1 : Int32), h))) else (some (((0 : Int32), h)))) else (some (((0 : Int32), h))))
abbrev rm_X11_answersAlike : Room := { frames := 5, cells := 0, slots := 0, locals := 117 }
set_option maxRecDepth 100000 in
set_option maxHeartbeats 4000000 in
theorem c_X11_answersAlike {l : Launch} {D : va_G} {dA : Nat → ClassId} {A : Nat → Prop} {h : ZH} {n : Nat} (a0 : Nat) (a1 : Int32) (a2 : Int32) (a3 : Int32) {r : Int32} {hx : ZH} (hf : f_X11_answersAlike h a0 a1 a2 a3 = some (r, hx)) : Met l yX11_answersAlike (zz_ws yX11_answersAlike cX11_answersAlike 6 (some .boolean)) rm_X11_answersAlike (zz_P D dA A h n [.ref (a0), .int (a1), .int (a2), .int (a3)]) (zz_Q D dA A (some (.int r)) hx n) 0 0 A := by
  refine zz_met (by decide) (Nat.le_of_ble_eq_true rfl) ?_
  intro p e s m args below meth c ls S K hret hlk hnm hl Z
  replace hl : lv_has ls 6 [(0, .ref (a0)), (1, .int (a1)), (2, .int (a2)), (3, .int (a3))] := hl
  obtain ⟨K0, hR0, hk⟩ : ∃ K0 : (Int32 × ZH) → Prop, (∀ x, K0 x → x = (r, hx)) ∧ K0 (r, hx) := ⟨fun x => x = (r, hx), fun _ h => h, rfl⟩
  have hv := hf
  unfold f_X11_answersAlike at hv
  clear hf
  obtain ⟨x, hxx⟩ : ∃ x, x = (r, hx) := ⟨_, rfl⟩
  rw [← hxx] at hv hk
  have ⟨H, hH⟩ : ∃ H, H = s.heap := ⟨_, rfl⟩
  have ⟨locs, hlo⟩ : ∃ q : List Loc, q = [] := ⟨_, rfl⟩
  have Z : zz_B D dA A h n s.heap H locs := by rw [hH, hlo]; exact Z
  have key : zz_W p l e rm_X11_answersAlike s m args below meth c D dA A (some (.int r)) hx n 0 0 H locs 0 0 0 ls [] := by
    clear hH hlo hxx
    refine lv_iload_n S.1 S.2.1 dX11_answersAlike_0 rfl (lv_at hl 2 rfl) ?_
    refine lv_iconst (v := (1 : Int32)) S.1 S.2.1 dX11_answersAlike_1 (by decide) ?_
    refine lv_iadd S.1 S.2.1 dX11_answersAlike_2 ?_
    refine zz_lt hv (G := fun w => W _ _ _ _ _ _ _ _ _ _ _ _ _ _ _ (F0 _ _ _ (.int w :: _))) (fun v1 hv => ?_)
    refine lv_istore (lv' := [(4, .int (v1)), (0, .ref (a0)), (1, .int (a1)), (2, .int (a2)), (3, .int (a3))]) S.1 S.2.1 dX11_answersAlike_3 hl (by decide) rfl (fun ls hl => ?_)
    refine lv_aload_n S.1 S.2.1 dX11_answersAlike_5 rfl (lv_at hl 1 rfl) ?_
    refine zz_gR S K Z hv zc_9 (by decide) gf_X11_34 dX11_answersAlike_6 (fun v2 hv => ?_)
    refine zz_gR S K Z hv zc_6 (by decide) gf_X11_197 dX11_answersAlike_9 (fun v3 hv => ?_)
    refine zz_gI S K Z hv zc_3 (by decide) gf_X11_201 dX11_answersAlike_12 (fun v4 hv => ?_)
    refine lv_if_eq (tgt := 46) S.1 S.2.1 dX11_answersAlike_15 (by decide) (fun hc => ?_) (fun hc => ?_)
    · replace hv := (if_pos hc).symm.trans hv
      refine lv_aload_n S.1 S.2.1 dX11_answersAlike_46 rfl (lv_at hl 1 rfl) ?_
      refine zz_gR S K Z hv zc_9 (by decide) gf_X11_34 dX11_answersAlike_47 (fun v5 hv => ?_)
      refine lv_aload_n S.1 S.2.1 dX11_answersAlike_50 rfl (lv_at hl 1 rfl) ?_
      refine zz_gR S K Z hv zc_9 (by decide) gf_X11_25 dX11_answersAlike_51 (fun v6 hv => ?_)
      refine zz_gR S K Z hv zc_8 (by decide) gf_X11_74 dX11_answersAlike_54 (fun v7 hv => ?_)
      refine lv_aload_n S.1 S.2.1 dX11_answersAlike_57 rfl (lv_at hl 1 rfl) ?_
      refine zz_gR S K Z hv zc_9 (by decide) gf_X11_14 dX11_answersAlike_58 (fun v8 hv => ?_)
      refine lv_iload_n S.1 S.2.1 dX11_answersAlike_61 rfl (lv_at hl 2 rfl) ?_
      refine lv_iload_n S.1 S.2.1 dX11_answersAlike_62 rfl (lv_at hl 3 rfl) ?_
      obtain ⟨hci, hv⟩ := zz_isO_s hv
      obtain ⟨v9, hq, hv⟩ := zz_bd hv
      refine zz_V [.ref (v8), .int (a1), .int (a2)] S K Z hci zc_1 rfl (c_X1_find v7 v8 a1 a2 hq) ⟨rfl, rfl⟩ gm_X1_find gmv_X1_find gl_X11_78 ⟨by decide, by decide⟩ rfl hl.1 rfl (Nat.le_of_ble_eq_true rfl) dX11_answersAlike_63 ⟨Nat.zero_le _, Nat.zero_le _⟩ (fun H locs Z => ?_)
      show W _ _ _ _ _ _ _ _ _ _ _ _ 0 0 _ (F0 m 66 ls [.int (v9), .ref (v5)])
      obtain ⟨hci, hv⟩ := zz_isO_s hv
      obtain ⟨⟨v10, h11⟩, hq, hv⟩ := zz_bd hv
      refine zz_V [.int (v9)] S K Z hci zc_6 rfl (c_X8_hear v5 v9 hq) ⟨rfl, rfl⟩ gm_X8_hear gmv_X8_hear gl_X11_210 ⟨by decide, by decide⟩ rfl hl.1 rfl (Nat.le_of_ble_eq_true rfl) dX11_answersAlike_66 ⟨Nat.zero_le _, Nat.zero_le _⟩ (fun H locs Z => ?_)
      show W _ _ _ _ _ _ _ _ _ _ _ _ 0 0 _ (F0 m 69 ls [.int (v10)])
      refine lv_istore (lv' := [(5, .int (v10)), (4, .int (v1)), (0, .ref (a0)), (1, .int (a1)), (2, .int (a2)), (3, .int (a3))]) S.1 S.2.1 dX11_answersAlike_69 hl (by decide) rfl (fun ls hl => ?_)
      refine lv_iload S.1 S.2.1 dX11_answersAlike_71 (lv_at hl 0 rfl) ?_
      refine lv_if_eq (tgt := 123) S.1 S.2.1 dX11_answersAlike_73 (by decide) (fun hc => ?_) (fun hc => ?_)
      · replace hv := (if_pos hc).symm.trans hv
        refine lv_aload_n S.1 S.2.1 dX11_answersAlike_123 rfl (lv_at hl 2 rfl) ?_
        refine zz_gR S K Z hv zc_9 (by decide) gf_X11_25 dX11_answersAlike_124 (fun v12 hv => ?_)
        refine lv_aload_n S.1 S.2.1 dX11_answersAlike_127 rfl (lv_at hl 2 rfl) ?_
        refine zz_gR S K Z hv zc_9 (by decide) gf_X11_34 dX11_answersAlike_128 (fun v13 hv => ?_)
        refine zz_gR S K Z hv zc_6 (by decide) gf_X11_197 dX11_answersAlike_131 (fun v14 hv => ?_)
        refine zz_gI S K Z hv zc_3 (by decide) gf_X11_213 dX11_answersAlike_134 (fun v15 hv => ?_)
        refine lv_aload_n S.1 S.2.1 dX11_answersAlike_137 rfl (lv_at hl 2 rfl) ?_
        refine zz_gR S K Z hv zc_9 (by decide) gf_X11_14 dX11_answersAlike_138 (fun v16 hv => ?_)
        refine lv_iload S.1 S.2.1 dX11_answersAlike_141 (lv_at hl 1 rfl) ?_
        refine lv_iload_n S.1 S.2.1 dX11_answersAlike_143 rfl (lv_at hl 5 rfl) ?_
        obtain ⟨hci, hv⟩ := zz_isO_s hv
        obtain ⟨v17, hq, hv⟩ := zz_bd hv
        refine zz_V [.int (v15), .ref (v16), .int (v1), .int (a3)] S K Z hci zc_8 rfl (c_X10_textStands v12 v15 v16 v1 a3 hq) ⟨rfl, rfl⟩ gm_X10_textStands gmv_X10_textStands gl_X11_216 ⟨by decide, by decide⟩ rfl hl.1 rfl (Nat.le_of_ble_eq_true rfl) dX11_answersAlike_144 ⟨Nat.zero_le _, Nat.zero_le _⟩ (fun H locs Z => ?_)
        show W _ _ _ _ _ _ _ _ _ _ _ _ 0 0 _ (F0 m 147 ls [.int (v17)])
        obtain ⟨hok, hv⟩ := zz_ok_s hv
        replace hk := zz_fin hv hk
        obtain ⟨rfl, rfl⟩ := Prod.mk.inj (hR0 _ hk)
        exact zz_zret S Z hret hok hlk dX11_answersAlike_147 (Nat.le_refl _) (Nat.le_refl _)
      · replace hv := (if_neg hc).symm.trans hv
        refine lv_iload_n S.1 S.2.1 dX11_answersAlike_76 rfl (lv_at hl 5 rfl) ?_
        refine lv_iload S.1 S.2.1 dX11_answersAlike_77 (lv_at hl 1 rfl) ?_
        refine lv_isub S.1 S.2.1 dX11_answersAlike_79 ?_
        refine lv_iconst (v := (2 : Int32)) S.1 S.2.1 dX11_answersAlike_80 (by decide) ?_
        refine lv_icmp_ne (tgt := 121) S.1 S.2.1 dX11_answersAlike_81 (by decide) (fun hc => ?_) (fun hc => ?_)
        · replace hv := (if_neg hc).symm.trans hv
          refine lv_iconst (v := (0 : Int32)) S.1 S.2.1 dX11_answersAlike_121 (by decide) ?_
          replace hk := zz_fin hv hk
          obtain ⟨rfl, rfl⟩ := Prod.mk.inj (hR0 _ hk)
          exact zz_zret S Z hret (by decide) hlk dX11_answersAlike_122 (Nat.le_refl _) (Nat.le_refl _)
        · replace hv := (if_pos hc).symm.trans hv
          refine lv_aload_n S.1 S.2.1 dX11_answersAlike_84 rfl (lv_at hl 2 rfl) ?_
          refine zz_gR S K Z hv zc_9 (by decide) gf_X11_14 dX11_answersAlike_85 (fun v18 hv => ?_)
          refine lv_iload S.1 S.2.1 dX11_answersAlike_88 (lv_at hl 1 rfl) ?_
          obtain ⟨hci, hv⟩ := zz_isO_s hv
          obtain ⟨v19, hq, hv⟩ := zz_bd hv
          refine zz_V [.int (v1)] S K Z hci zc_0 rfl (c_X0_at v18 v1 hq) ⟨rfl, rfl⟩ gm_X0_at gmv_X0_at gl_X11_206 ⟨by decide, by decide⟩ rfl hl.1 rfl (Nat.le_of_ble_eq_true rfl) dX11_answersAlike_90 ⟨Nat.zero_le _, Nat.zero_le _⟩ (fun H locs Z => ?_)
          show W _ _ _ _ _ _ _ _ _ _ _ _ 0 0 _ (F0 m 93 ls [.int (v19)])
          refine lv_bipush (v := (33 : Int32)) S.1 S.2.1 dX11_answersAlike_93 (by decide) ?_
          refine lv_icmp_ne (tgt := 121) S.1 S.2.1 dX11_answersAlike_95 (by decide) (fun hc => ?_) (fun hc => ?_)
          · replace hv := (if_neg hc).symm.trans hv
            refine lv_iconst (v := (0 : Int32)) S.1 S.2.1 dX11_answersAlike_121 (by decide) ?_
            replace hk := zz_fin hv hk
            obtain ⟨rfl, rfl⟩ := Prod.mk.inj (hR0 _ hk)
            exact zz_zret S Z hret (by decide) hlk dX11_answersAlike_122 (Nat.le_refl _) (Nat.le_refl _)
          · replace hv := (if_pos hc).symm.trans hv
            refine lv_aload_n S.1 S.2.1 dX11_answersAlike_98 rfl (lv_at hl 2 rfl) ?_
            refine zz_gR S K Z hv zc_9 (by decide) gf_X11_14 dX11_answersAlike_99 (fun v20 hv => ?_)
            refine lv_iload S.1 S.2.1 dX11_answersAlike_102 (lv_at hl 1 rfl) ?_
            refine lv_iconst (v := (1 : Int32)) S.1 S.2.1 dX11_answersAlike_104 (by decide) ?_
            refine lv_iadd S.1 S.2.1 dX11_answersAlike_105 ?_
            obtain ⟨hci, hv⟩ := zz_isO_s hv
            obtain ⟨v21, hq, hv⟩ := zz_bd hv
            refine zz_V [.int (v1 + (1 : Int32))] S K Z hci zc_0 rfl (c_X0_at v20 (v1 + (1 : Int32)) hq) ⟨rfl, rfl⟩ gm_X0_at gmv_X0_at gl_X11_206 ⟨by decide, by decide⟩ rfl hl.1 rfl (Nat.le_of_ble_eq_true rfl) dX11_answersAlike_106 ⟨Nat.zero_le _, Nat.zero_le _⟩ (fun H locs Z => ?_)
            show W _ _ _ _ _ _ _ _ _ _ _ _ 0 0 _ (F0 m 109 ls [.int (v21)])
            refine lv_bipush (v := (48 : Int32)) S.1 S.2.1 dX11_answersAlike_109 (by decide) ?_
            refine lv_iload S.1 S.2.1 dX11_answersAlike_111 (lv_at hl 0 rfl) ?_
            refine lv_iadd S.1 S.2.1 dX11_answersAlike_113 ?_
            refine lv_icmp_ne (tgt := 121) S.1 S.2.1 dX11_answersAlike_114 (by decide) (fun hc => ?_) (fun hc => ?_)
            · replace hv := (if_neg hc).symm.trans hv
              refine lv_iconst (v := (0 : Int32)) S.1 S.2.1 dX11_answersAlike_121 (by decide) ?_
              replace hk := zz_fin hv hk
              obtain ⟨rfl, rfl⟩ := Prod.mk.inj (hR0 _ hk)
              exact zz_zret S Z hret (by decide) hlk dX11_answersAlike_122 (Nat.le_refl _) (Nat.le_refl _)
            · replace hv := (if_pos hc).symm.trans hv
              refine lv_iconst (v := (1 : Int32)) S.1 S.2.1 dX11_answersAlike_117 (by decide) ?_
              refine lv_goto (tgt := 122) S.1 S.2.1 dX11_answersAlike_118 (by decide) ?_
              replace hk := zz_fin hv hk
              obtain ⟨rfl, rfl⟩ := Prod.mk.inj (hR0 _ hk)
              exact zz_zret S Z hret (by decide) hlk dX11_answersAlike_122 (Nat.le_refl _) (Nat.le_refl _)
    · replace hv := (if_neg hc).symm.trans hv
      refine lv_iload_n S.1 S.2.1 dX11_answersAlike_18 rfl (lv_at hl 4 rfl) ?_
      refine lv_iload S.1 S.2.1 dX11_answersAlike_19 (lv_at hl 0 rfl) ?_
      refine lv_isub S.1 S.2.1 dX11_answersAlike_21 ?_
      refine lv_iconst (v := (1 : Int32)) S.1 S.2.1 dX11_answersAlike_22 (by decide) ?_
      refine lv_icmp_ne (tgt := 44) S.1 S.2.1 dX11_answersAlike_23 (by decide) (fun hc => ?_) (fun hc => ?_)
      · replace hv := (if_neg hc).symm.trans hv
        refine lv_iconst (v := (0 : Int32)) S.1 S.2.1 dX11_answersAlike_44 (by decide) ?_
        replace hk := zz_fin hv hk
        obtain ⟨rfl, rfl⟩ := Prod.mk.inj (hR0 _ hk)
        exact zz_zret S Z hret (by decide) hlk dX11_answersAlike_45 (Nat.le_refl _) (Nat.le_refl _)
      · replace hv := (if_pos hc).symm.trans hv
        refine lv_aload_n S.1 S.2.1 dX11_answersAlike_26 rfl (lv_at hl 1 rfl) ?_
        refine zz_gR S K Z hv zc_9 (by decide) gf_X11_14 dX11_answersAlike_27 (fun v22 hv => ?_)
        refine lv_iload S.1 S.2.1 dX11_answersAlike_30 (lv_at hl 0 rfl) ?_
        obtain ⟨hci, hv⟩ := zz_isO_s hv
        obtain ⟨v23, hq, hv⟩ := zz_bd hv
        refine zz_V [.int (v1)] S K Z hci zc_0 rfl (c_X0_at v22 v1 hq) ⟨rfl, rfl⟩ gm_X0_at gmv_X0_at gl_X11_206 ⟨by decide, by decide⟩ rfl hl.1 rfl (Nat.le_of_ble_eq_true rfl) dX11_answersAlike_32 ⟨Nat.zero_le _, Nat.zero_le _⟩ (fun H locs Z => ?_)
        show W _ _ _ _ _ _ _ _ _ _ _ _ 0 0 _ (F0 m 35 ls [.int (v23)])
        refine lv_bipush (v := (46 : Int32)) S.1 S.2.1 dX11_answersAlike_35 (by decide) ?_
        refine lv_icmp_ne (tgt := 44) S.1 S.2.1 dX11_answersAlike_37 (by decide) (fun hc => ?_) (fun hc => ?_)
        · replace hv := (if_neg hc).symm.trans hv
          refine lv_iconst (v := (0 : Int32)) S.1 S.2.1 dX11_answersAlike_44 (by decide) ?_
          replace hk := zz_fin hv hk
          obtain ⟨rfl, rfl⟩ := Prod.mk.inj (hR0 _ hk)
          exact zz_zret S Z hret (by decide) hlk dX11_answersAlike_45 (Nat.le_refl _) (Nat.le_refl _)
        · replace hv := (if_pos hc).symm.trans hv
          refine lv_iconst (v := (1 : Int32)) S.1 S.2.1 dX11_answersAlike_40 (by decide) ?_
          refine lv_goto (tgt := 45) S.1 S.2.1 dX11_answersAlike_41 (by decide) ?_
          replace hk := zz_fin hv hk
          obtain ⟨rfl, rfl⟩ := Prod.mk.inj (hR0 _ hk)
          exact zz_zret S Z hret (by decide) hlk dX11_answersAlike_45 (Nat.le_refl _) (Nat.le_refl _)
  rw [hH, hlo] at key
  exact key

noncomputable def f_X11_firstUnlikeLine_L11 (h : ZH) (a0 : Nat) (x1_3 : Int32) (x2_4 : Int32) (h5 : ZH)  : Option ((Int32 × Int32 × ZH) ⊕ (Int32 × ZH)) :=
  if (40 : Int32) < x2_4 then ((some (((0 : Int32), h5))).map Sum.inr) else ((zg_R h5 a0 9 0).bind fun v6 => (zg_I h5 v6 0 1).bind fun v7 => if v7 ≤ x1_3 then ((some (((0 : Int32), h5))).map Sum.inr) else ((zg_R h5 a0 9 0).bind fun v8 => (f_X2_lineEnd h5 v8 x1_3).bind fun v9 => (zg_R h5 a0 9 0).bind fun v10 => (f_X2_lineEnd h5 v10 (v9 + (1 : Int32))).bind fun v11 => zz_isO h5 a0 9 <| (f_X11_answersAlike h5 a0 (x1_3 + (2 : Int32)) v9 v11).bind fun (v12, h13) => if v12 = 0 then ((some ((x2_4, h13))).map Sum.inr) else (zz_let (v11 + (1 : Int32)) fun v14 => some (.inl (v14, x2_4 + (2 : Int32), h13)))))
noncomputable def f_X11_firstUnlikeLine (h : ZH) (a0 : Nat) : Option (Int32 × ZH) :=
  (zg_R h a0 9 2).bind fun v1 => zz_isO h v1 6 <| (f_X8_begin h v1).bind fun h2 => zz_loop (fun st : (Int32 × Int32 × ZH) => f_X11_firstUnlikeLine_L11 h a0 (st.1) (st.2.1) (st.2.2)) ((0 : Int32), (2 : Int32), h2)
abbrev rm_X11_firstUnlikeLine : Room := { frames := 6, cells := 0, slots := 0, locals := 142 }
set_option maxRecDepth 100000 in
set_option maxHeartbeats 4000000 in
theorem c_X11_firstUnlikeLine {l : Launch} {D : va_G} {dA : Nat → ClassId} {A : Nat → Prop} {h : ZH} {n : Nat} (a0 : Nat) {r : Int32} {hx : ZH} (hf : f_X11_firstUnlikeLine h a0 = some (r, hx)) : Met l yX11_firstUnlikeLine (zz_ws yX11_firstUnlikeLine cX11_firstUnlikeLine 5 (some .int)) rm_X11_firstUnlikeLine (zz_P D dA A h n [.ref (a0)]) (zz_Q D dA A (some (.int r)) hx n) 0 0 A := by
  refine zz_met (by decide) (Nat.le_of_ble_eq_true rfl) ?_
  intro p e s m args below meth c ls S K hret hlk hnm hl Z
  replace hl : lv_has ls 5 [(0, .ref (a0))] := hl
  obtain ⟨K0, hR0, hk⟩ : ∃ K0 : (Int32 × ZH) → Prop, (∀ x, K0 x → x = (r, hx)) ∧ K0 (r, hx) := ⟨fun x => x = (r, hx), fun _ h => h, rfl⟩
  have L11 : ∀ (st : (Int32 × Int32 × ZH)) (x : (Int32 × ZH)), zz_loop (fun st : (Int32 × Int32 × ZH) => f_X11_firstUnlikeLine_L11 h a0 (st.1) (st.2.1) (st.2.2)) st = some x → K0 x → (fun st : (Int32 × Int32 × ZH) => ∀ (H : Heap) (locs : List Loc) (ls : Array Slot), zz_B D dA A (st.2.2) n s.heap H locs → lv_has ls 5 [(0, .ref (a0)), (1, .int ((st.1))), (2, .int ((st.2.1)))] → zz_W p l e rm_X11_firstUnlikeLine s m args below meth c D dA A (some (.int r)) hx n 0 0 H locs 0 0 11 ls []) st := by
    refine zz_loop_go (K := K0) ?_
    intro K1 hP1 hR1
    rintro ⟨x1_3, x2_4, h5⟩ x hv hk H locs ls Z hl
    replace hv : f_X11_firstUnlikeLine_L11 h a0 x1_3 x2_4 h5 = some x := hv
    unfold f_X11_firstUnlikeLine_L11 at hv
    replace hl : lv_has ls 5 [(0, .ref (a0)), (1, .int (x1_3)), (2, .int (x2_4))] := hl
    replace Z : zz_B D dA A h5 n s.heap H locs := Z
    show zz_W p l e rm_X11_firstUnlikeLine s m args below meth c D dA A (some (.int r)) hx n 0 0 H locs 0 0 11 ls []
    refine lv_iload_n S.1 S.2.1 dX11_firstUnlikeLine_11 rfl (lv_at hl 2 rfl) ?_
    refine lv_bipush (v := (40 : Int32)) S.1 S.2.1 dX11_firstUnlikeLine_12 (by decide) ?_
    refine lv_icmp_gt (tgt := 75) S.1 S.2.1 dX11_firstUnlikeLine_14 (by decide) (fun hc => ?_) (fun hc => ?_)
    · replace hv := (if_pos hc).symm.trans hv
      obtain ⟨_, hv, hk⟩ := zz_mapk hv hk
      replace hk := hR1 _ hk
      refine lv_iconst (v := (0 : Int32)) S.1 S.2.1 dX11_firstUnlikeLine_75 (by decide) ?_
      replace hk := zz_fin hv hk
      obtain ⟨rfl, rfl⟩ := Prod.mk.inj (hR0 _ hk)
      exact zz_iret S Z hret hlk dX11_firstUnlikeLine_76 (Nat.le_refl _) (Nat.le_refl _)
    · replace hv := (if_neg hc).symm.trans hv
      refine lv_iload_n S.1 S.2.1 dX11_firstUnlikeLine_17 rfl (lv_at hl 1 rfl) ?_
      refine lv_aload_n S.1 S.2.1 dX11_firstUnlikeLine_18 rfl (lv_at hl 0 rfl) ?_
      refine zz_gR S K Z hv zc_9 (by decide) gf_X11_14 dX11_firstUnlikeLine_19 (fun v6 hv => ?_)
      refine zz_gI S K Z hv zc_0 (by decide) gf_X11_54 dX11_firstUnlikeLine_22 (fun v7 hv => ?_)
      refine lv_icmp_ge (tgt := 75) S.1 S.2.1 dX11_firstUnlikeLine_25 (by decide) (fun hc => ?_) (fun hc => ?_)
      · replace hv := (if_pos hc).symm.trans hv
        obtain ⟨_, hv, hk⟩ := zz_mapk hv hk
        replace hk := hR1 _ hk
        refine lv_iconst (v := (0 : Int32)) S.1 S.2.1 dX11_firstUnlikeLine_75 (by decide) ?_
        replace hk := zz_fin hv hk
        obtain ⟨rfl, rfl⟩ := Prod.mk.inj (hR0 _ hk)
        exact zz_iret S Z hret hlk dX11_firstUnlikeLine_76 (Nat.le_refl _) (Nat.le_refl _)
      · replace hv := (if_neg hc).symm.trans hv
        refine lv_aload_n S.1 S.2.1 dX11_firstUnlikeLine_28 rfl (lv_at hl 0 rfl) ?_
        refine zz_gR S K Z hv zc_9 (by decide) gf_X11_14 dX11_firstUnlikeLine_29 (fun v8 hv => ?_)
        refine lv_iload_n S.1 S.2.1 dX11_firstUnlikeLine_32 rfl (lv_at hl 1 rfl) ?_
        obtain ⟨v9, hq, hv⟩ := zz_bd hv
        refine zz_S [.ref (v8), .int (x1_3)] S K Z (c_X2_lineEnd v8 x1_3 hq) ⟨rfl, rfl⟩ gm_X2_lineEnd gs_X2_lineEnd gl_X11_191 ⟨by decide, by decide⟩ rfl hl.1 rfl (Nat.le_of_ble_eq_true rfl) dX11_firstUnlikeLine_33 ⟨Nat.zero_le _, Nat.zero_le _⟩ (fun H locs Z => ?_)
        show W _ _ _ _ _ _ _ _ _ _ _ _ 0 0 _ (F0 m 36 ls [.int (v9)])
        refine lv_istore_n (lv' := [(3, .int (v9)), (0, .ref (a0)), (1, .int (x1_3)), (2, .int (x2_4))]) S.1 S.2.1 dX11_firstUnlikeLine_36 rfl hl (by decide) rfl (fun ls hl => ?_)
        refine lv_aload_n S.1 S.2.1 dX11_firstUnlikeLine_37 rfl (lv_at hl 1 rfl) ?_
        refine zz_gR S K Z hv zc_9 (by decide) gf_X11_14 dX11_firstUnlikeLine_38 (fun v10 hv => ?_)
        refine lv_iload_n S.1 S.2.1 dX11_firstUnlikeLine_41 rfl (lv_at hl 0 rfl) ?_
        refine lv_iconst (v := (1 : Int32)) S.1 S.2.1 dX11_firstUnlikeLine_42 (by decide) ?_
        refine lv_iadd S.1 S.2.1 dX11_firstUnlikeLine_43 ?_
        obtain ⟨v11, hq, hv⟩ := zz_bd hv
        refine zz_S [.ref (v10), .int (v9 + (1 : Int32))] S K Z (c_X2_lineEnd v10 (v9 + (1 : Int32)) hq) ⟨rfl, rfl⟩ gm_X2_lineEnd gs_X2_lineEnd gl_X11_191 ⟨by decide, by decide⟩ rfl hl.1 rfl (Nat.le_of_ble_eq_true rfl) dX11_firstUnlikeLine_44 ⟨Nat.zero_le _, Nat.zero_le _⟩ (fun H locs Z => ?_)
        show W _ _ _ _ _ _ _ _ _ _ _ _ 0 0 _ (F0 m 47 ls [.int (v11)])
        refine lv_istore (lv' := [(4, .int (v11)), (3, .int (v9)), (0, .ref (a0)), (1, .int (x1_3)), (2, .int (x2_4))]) S.1 S.2.1 dX11_firstUnlikeLine_47 hl (by decide) rfl (fun ls hl => ?_)
        refine lv_aload_n S.1 S.2.1 dX11_firstUnlikeLine_49 rfl (lv_at hl 2 rfl) ?_
        refine lv_iload_n S.1 S.2.1 dX11_firstUnlikeLine_50 rfl (lv_at hl 3 rfl) ?_
        refine lv_iconst (v := (2 : Int32)) S.1 S.2.1 dX11_firstUnlikeLine_51 (by decide) ?_
        refine lv_iadd S.1 S.2.1 dX11_firstUnlikeLine_52 ?_
        refine lv_iload_n S.1 S.2.1 dX11_firstUnlikeLine_53 rfl (lv_at hl 1 rfl) ?_
        refine lv_iload S.1 S.2.1 dX11_firstUnlikeLine_54 (lv_at hl 0 rfl) ?_
        obtain ⟨hci, hv⟩ := zz_isO_s hv
        obtain ⟨⟨v12, h13⟩, hq, hv⟩ := zz_bd hv
        refine zz_V [.int (x1_3 + (2 : Int32)), .int (v9), .int (v11)] S K Z hci zc_9 rfl (c_X11_answersAlike a0 (x1_3 + (2 : Int32)) v9 v11 hq) ⟨rfl, rfl⟩ gm_X11_answersAlike gmv_X11_answersAlike gl_X11_194 ⟨by decide, by decide⟩ rfl hl.1 rfl (Nat.le_of_ble_eq_true rfl) dX11_firstUnlikeLine_56 ⟨Nat.zero_le _, Nat.zero_le _⟩ (fun H locs Z => ?_)
        show W _ _ _ _ _ _ _ _ _ _ _ _ 0 0 _ (F0 m 59 ls [.int (v12)])
        refine lv_if_ne (tgt := 64) S.1 S.2.1 dX11_firstUnlikeLine_59 (by decide) (fun hc => ?_) (fun hc => ?_)
        · replace hv := (if_neg hc).symm.trans hv
          refine lv_iload S.1 S.2.1 dX11_firstUnlikeLine_64 (lv_at hl 0 rfl) ?_
          refine lv_iconst (v := (1 : Int32)) S.1 S.2.1 dX11_firstUnlikeLine_66 (by decide) ?_
          refine lv_iadd S.1 S.2.1 dX11_firstUnlikeLine_67 ?_
          refine zz_lt hv (G := fun w => W _ _ _ _ _ _ _ _ _ _ _ _ _ _ _ (F0 _ _ _ (.int w :: _))) (fun v14 hv => ?_)
          refine lv_istore_n (lv' := [(1, .int (v14)), (4, .int (v11)), (3, .int (v9)), (0, .ref (a0)), (2, .int (x2_4))]) S.1 S.2.1 dX11_firstUnlikeLine_68 rfl hl (by decide) rfl (fun ls hl => ?_)
          refine lv_iinc (v := x2_4 + (2 : Int32)) (lv' := [(2, .int (x2_4 + (2 : Int32))), (1, .int (v14)), (4, .int (v11)), (3, .int (v9)), (0, .ref (a0))]) S.1 S.2.1 dX11_firstUnlikeLine_69 hl (k := 4) rfl rfl (by decide) rfl (fun ls hl => ?_)
          refine lv_goto (tgt := 11) S.1 S.2.1 dX11_firstUnlikeLine_72 (by decide) ?_
          replace hk := zz_fin hv hk
          exact hP1 _ hk H locs ls Z (lv_sub hl [4, 1, 0] rfl)
        · replace hv := (if_pos hc).symm.trans hv
          obtain ⟨_, hv, hk⟩ := zz_mapk hv hk
          replace hk := hR1 _ hk
          refine lv_iload_n S.1 S.2.1 dX11_firstUnlikeLine_62 rfl (lv_at hl 4 rfl) ?_
          replace hk := zz_fin hv hk
          obtain ⟨rfl, rfl⟩ := Prod.mk.inj (hR0 _ hk)
          exact zz_iret S Z hret hlk dX11_firstUnlikeLine_63 (Nat.le_refl _) (Nat.le_refl _)
  have hv := hf
  unfold f_X11_firstUnlikeLine at hv
  clear hf
  obtain ⟨x, hxx⟩ : ∃ x, x = (r, hx) := ⟨_, rfl⟩
  rw [← hxx] at hv hk
  have ⟨H, hH⟩ : ∃ H, H = s.heap := ⟨_, rfl⟩
  have ⟨locs, hlo⟩ : ∃ q : List Loc, q = [] := ⟨_, rfl⟩
  have Z : zz_B D dA A h n s.heap H locs := by rw [hH, hlo]; exact Z
  have key : zz_W p l e rm_X11_firstUnlikeLine s m args below meth c D dA A (some (.int r)) hx n 0 0 H locs 0 0 0 ls [] := by
    clear hH hlo hxx
    refine lv_aload_n S.1 S.2.1 dX11_firstUnlikeLine_0 rfl (lv_at hl 0 rfl) ?_
    refine zz_gR S K Z hv zc_9 (by decide) gf_X11_34 dX11_firstUnlikeLine_1 (fun v1 hv => ?_)
    obtain ⟨hci, hv⟩ := zz_isO_s hv
    obtain ⟨h2, hq, hv⟩ := zz_bd hv
    refine zz_V [] S K Z hci zc_6 rfl (c_X8_begin v1 hq) ⟨rfl, rfl⟩ gm_X8_begin gmv_X8_begin gl_X11_188 ⟨by decide, by decide⟩ rfl hl.1 rfl (Nat.le_of_ble_eq_true rfl) dX11_firstUnlikeLine_4 ⟨Nat.zero_le _, Nat.zero_le _⟩ (fun H locs Z => ?_)
    show W _ _ _ _ _ _ _ _ _ _ _ _ 0 0 _ (F0 m 7 ls [])
    refine lv_iconst (v := (0 : Int32)) S.1 S.2.1 dX11_firstUnlikeLine_7 (by decide) ?_
    refine lv_istore_n (lv' := [(1, .int ((0 : Int32))), (0, .ref (a0))]) S.1 S.2.1 dX11_firstUnlikeLine_8 rfl hl (by decide) rfl (fun ls hl => ?_)
    refine lv_iconst (v := (2 : Int32)) S.1 S.2.1 dX11_firstUnlikeLine_9 (by decide) ?_
    refine lv_istore_n (lv' := [(2, .int ((2 : Int32))), (1, .int ((0 : Int32))), (0, .ref (a0))]) S.1 S.2.1 dX11_firstUnlikeLine_10 rfl hl (by decide) rfl (fun ls hl => ?_)
    exact L11  ((0 : Int32), (2 : Int32), h2) _ hv hk H locs ls Z (lv_sub hl [2, 1, 0] rfl)
  rw [hH, hlo] at key
  exact key

noncomputable def f_X11_replay_J24 (h : ZH) (a0 : Nat) (s5 : Int32) (h6 : ZH) : Option (Int32 × ZH) :=
  (zg_R h6 a0 9 0).bind fun v7 => zz_isO h6 v7 0 <| (f_X0_clear h6 v7).bind fun h8 => some ((s5, h8))
noncomputable def f_X11_replay (h : ZH) (a0 : Nat) : Option (Int32 × ZH) :=
  (zg_R h a0 9 0).bind fun v1 => (f_X2_wrongInTranscript h v1).bind fun v2 => if v2 = (-1 : Int32) then (zz_isO h a0 9 <| (f_X11_firstUnlikeLine h a0).bind fun (v3, h4) => f_X11_replay_J24 h a0 v3 h4) else (f_X11_replay_J24 h a0 ((-10 : Int32) - v2) h)
abbrev rm_X11_replay : Room := { frames := 7, cells := 0, slots := 0, locals := 166 }
set_option maxRecDepth 100000 in
set_option maxHeartbeats 4000000 in
theorem c_X11_replay {l : Launch} {D : va_G} {dA : Nat → ClassId} {A : Nat → Prop} {h : ZH} {n : Nat} (a0 : Nat) {r : Int32} {hx : ZH} (hf : f_X11_replay h a0 = some (r, hx)) : Met l yX11_replay (zz_ws yX11_replay cX11_replay 3 (some .int)) rm_X11_replay (zz_P D dA A h n [.ref (a0)]) (zz_Q D dA A (some (.int r)) hx n) 0 0 A := by
  refine zz_met (by decide) (Nat.le_of_ble_eq_true rfl) ?_
  intro p e s m args below meth c ls S K hret hlk hnm hl Z
  replace hl : lv_has ls 3 [(0, .ref (a0))] := hl
  obtain ⟨K0, hR0, hk⟩ : ∃ K0 : (Int32 × ZH) → Prop, (∀ x, K0 x → x = (r, hx)) ∧ K0 (r, hx) := ⟨fun x => x = (r, hx), fun _ h => h, rfl⟩
  have J24 : ∀ (s5 : Int32) (h6 : ZH) (x : (Int32 × ZH)), f_X11_replay_J24 h a0 s5 h6 = some x → K0 x → ∀ (H : Heap) (locs : List Loc) (ls : Array Slot), zz_B D dA A h6 n s.heap H locs → lv_has ls 3 [(0, .ref (a0))] → zz_W p l e rm_X11_replay s m args below meth c D dA A (some (.int r)) hx n 0 0 H locs 0 0 24 ls [.int (s5)] := by
    intro s5 h6 x hv hk H locs ls Z hl
    unfold f_X11_replay_J24 at hv
    refine lv_istore_n (lv' := [(2, .int (s5)), (0, .ref (a0))]) S.1 S.2.1 dX11_replay_24 rfl hl (by decide) rfl (fun ls hl => ?_)
    refine lv_aload_n S.1 S.2.1 dX11_replay_25 rfl (lv_at hl 1 rfl) ?_
    refine zz_gR S K Z hv zc_9 (by decide) gf_X11_14 dX11_replay_26 (fun v7 hv => ?_)
    obtain ⟨hci, hv⟩ := zz_isO_s hv
    obtain ⟨h8, hq, hv⟩ := zz_bd hv
    refine zz_V [] S K Z hci zc_0 rfl (c_X0_clear v7 hq) ⟨rfl, rfl⟩ gm_X0_clear gmv_X0_clear gl_X11_65 ⟨by decide, by decide⟩ rfl hl.1 rfl (Nat.le_of_ble_eq_true rfl) dX11_replay_29 ⟨Nat.zero_le _, Nat.zero_le _⟩ (fun H locs Z => ?_)
    show W _ _ _ _ _ _ _ _ _ _ _ _ 0 0 _ (F0 m 32 ls [])
    refine lv_iload_n S.1 S.2.1 dX11_replay_32 rfl (lv_at hl 0 rfl) ?_
    replace hk := zz_fin hv hk
    obtain ⟨rfl, rfl⟩ := Prod.mk.inj (hR0 _ hk)
    exact zz_iret S Z hret hlk dX11_replay_33 (Nat.le_refl _) (Nat.le_refl _)
  have hv := hf
  unfold f_X11_replay at hv
  clear hf
  obtain ⟨x, hxx⟩ : ∃ x, x = (r, hx) := ⟨_, rfl⟩
  rw [← hxx] at hv hk
  have ⟨H, hH⟩ : ∃ H, H = s.heap := ⟨_, rfl⟩
  have ⟨locs, hlo⟩ : ∃ q : List Loc, q = [] := ⟨_, rfl⟩
  have Z : zz_B D dA A h n s.heap H locs := by rw [hH, hlo]; exact Z
  have key : zz_W p l e rm_X11_replay s m args below meth c D dA A (some (.int r)) hx n 0 0 H locs 0 0 0 ls [] := by
    clear hH hlo hxx
    refine lv_aload_n S.1 S.2.1 dX11_replay_0 rfl (lv_at hl 0 rfl) ?_
    refine zz_gR S K Z hv zc_9 (by decide) gf_X11_14 dX11_replay_1 (fun v1 hv => ?_)
    obtain ⟨v2, hq, hv⟩ := zz_bd hv
    refine zz_S [.ref (v1)] S K Z (c_X2_wrongInTranscript v1 hq) ⟨rfl, rfl⟩ gm_X2_wrongInTranscript gs_X2_wrongInTranscript gl_X11_182 ⟨by decide, by decide⟩ rfl hl.1 rfl (Nat.le_of_ble_eq_true rfl) dX11_replay_4 ⟨Nat.zero_le _, Nat.zero_le _⟩ (fun H locs Z => ?_)
    show W _ _ _ _ _ _ _ _ _ _ _ _ 0 0 _ (F0 m 7 ls [.int (v2)])
    refine lv_istore_n (lv' := [(1, .int (v2)), (0, .ref (a0))]) S.1 S.2.1 dX11_replay_7 rfl hl (by decide) rfl (fun ls hl => ?_)
    refine lv_iload_n S.1 S.2.1 dX11_replay_8 rfl (lv_at hl 0 rfl) ?_
    refine lv_iconst (v := (-1 : Int32)) S.1 S.2.1 dX11_replay_9 (by decide) ?_
    refine lv_icmp_eq (tgt := 20) S.1 S.2.1 dX11_replay_10 (by decide) (fun hc => ?_) (fun hc => ?_)
    · replace hv := (if_pos hc).symm.trans hv
      refine lv_aload_n S.1 S.2.1 dX11_replay_20 rfl (lv_at hl 1 rfl) ?_
      obtain ⟨hci, hv⟩ := zz_isO_s hv
      obtain ⟨⟨v3, h4⟩, hq, hv⟩ := zz_bd hv
      refine zz_V [] S K Z hci zc_9 rfl (c_X11_firstUnlikeLine a0 hq) ⟨rfl, rfl⟩ gm_X11_firstUnlikeLine gmv_X11_firstUnlikeLine gl_X11_185 ⟨by decide, by decide⟩ rfl hl.1 rfl (Nat.le_of_ble_eq_true rfl) dX11_replay_21 ⟨Nat.zero_le _, Nat.zero_le _⟩ (fun H locs Z => ?_)
      show W _ _ _ _ _ _ _ _ _ _ _ _ 0 0 _ (F0 m 24 ls [.int (v3)])
      exact J24 v3 h4 _ hv hk H locs ls Z (lv_sub hl [1] rfl)
    · replace hv := (if_neg hc).symm.trans hv
      refine lv_bipush (v := (-10 : Int32)) S.1 S.2.1 dX11_replay_13 (by decide) ?_
      refine lv_iload_n S.1 S.2.1 dX11_replay_15 rfl (lv_at hl 0 rfl) ?_
      refine lv_isub S.1 S.2.1 dX11_replay_16 ?_
      refine lv_goto (tgt := 24) S.1 S.2.1 dX11_replay_17 (by decide) ?_
      exact J24 ((-10 : Int32) - v2) h _ hv hk H locs ls Z (lv_sub hl [1] rfl)
  rw [hH, hlo] at key
  exact key

noncomputable def f_X4_hasFlagBelowZero_L2 (h : ZH) (a0 : Nat) (x1_1 : Int32)  : Option ((Int32) ⊕ (Int32)) :=
  (zg_R h a0 3 0).bind fun v2 => (zl_N h v2 1).bind fun v3 => if v3 ≤ x1_1 then ((some ((0 : Int32))).map Sum.inr) else ((zg_R h a0 3 0).bind fun v4 => (zl_I h v4 1 x1_1).bind fun v5 => if 0 ≤ v5 then (some (.inl (x1_1 + (1 : Int32)))) else ((some ((1 : Int32))).map Sum.inr))
noncomputable def f_X4_hasFlagBelowZero (h : ZH) (a0 : Nat) : Option (Int32) :=
  zz_loop (fun st : (Int32) => f_X4_hasFlagBelowZero_L2 h a0 (st)) ((0 : Int32))
abbrev rm_X4_hasFlagBelowZero : Room := { frames := 0, cells := 0, slots := 0, locals := 0 }
set_option maxRecDepth 100000 in
set_option maxHeartbeats 4000000 in
theorem c_X4_hasFlagBelowZero {l : Launch} {D : va_G} {dA : Nat → ClassId} {A : Nat → Prop} {h : ZH} {n : Nat} (a0 : Nat) {r : Int32} (hf : f_X4_hasFlagBelowZero h a0 = some r) : Met l yX4_hasFlagBelowZero (zz_ws yX4_hasFlagBelowZero cX4_hasFlagBelowZero 2 (some .boolean)) rm_X4_hasFlagBelowZero (zz_P D dA A h n [.ref (a0)]) (zz_Q D dA A (some (.int r)) h n) 0 0 A := by
  refine zz_met (by decide) (Nat.le_of_ble_eq_true rfl) ?_
  intro p e s m args below meth c ls S K hret hlk hnm hl Z
  replace hl : lv_has ls 2 [(0, .ref (a0))] := hl
  obtain ⟨K0, hR0, hk⟩ : ∃ K0 : (Int32) → Prop, (∀ x, K0 x → x = r) ∧ K0 r := ⟨fun x => x = r, fun _ h => h, rfl⟩
  have L2 : ∀ (st : (Int32)) (x : (Int32)), zz_loop (fun st : (Int32) => f_X4_hasFlagBelowZero_L2 h a0 (st)) st = some x → K0 x → (fun st : (Int32) => ∀ (H : Heap) (locs : List Loc) (ls : Array Slot), zz_B D dA A h n s.heap H locs → lv_has ls 2 [(0, .ref (a0)), (1, .int ((st)))] → zz_W p l e rm_X4_hasFlagBelowZero s m args below meth c D dA A (some (.int r)) h n 0 0 H locs 0 0 2 ls []) st := by
    refine zz_loop_go (K := K0) ?_
    intro K1 hP1 hR1
    rintro x1_1 x hv hk H locs ls Z hl
    replace hv : f_X4_hasFlagBelowZero_L2 h a0 x1_1 = some x := hv
    unfold f_X4_hasFlagBelowZero_L2 at hv
    replace hl : lv_has ls 2 [(0, .ref (a0)), (1, .int (x1_1))] := hl
    replace Z : zz_B D dA A h n s.heap H locs := Z
    show zz_W p l e rm_X4_hasFlagBelowZero s m args below meth c D dA A (some (.int r)) h n 0 0 H locs 0 0 2 ls []
    refine lv_iload_n S.1 S.2.1 dX4_hasFlagBelowZero_2 rfl (lv_at hl 1 rfl) ?_
    refine lv_aload_n S.1 S.2.1 dX4_hasFlagBelowZero_3 rfl (lv_at hl 0 rfl) ?_
    refine zz_gR S K Z hv zc_3 (by decide) gf_X4_9 dX4_hasFlagBelowZero_4 (fun v2 hv => ?_)
    refine zz_alen S K Z hv rfl dX4_hasFlagBelowZero_7 (fun v3 hv => ?_)
    refine lv_icmp_ge (tgt := 28) S.1 S.2.1 dX4_hasFlagBelowZero_8 (by decide) (fun hc => ?_) (fun hc => ?_)
    · replace hv := (if_pos hc).symm.trans hv
      obtain ⟨_, hv, hk⟩ := zz_mapk hv hk
      replace hk := hR1 _ hk
      refine lv_iconst (v := (0 : Int32)) S.1 S.2.1 dX4_hasFlagBelowZero_28 (by decide) ?_
      replace hk := zz_fin hv hk
      obtain rfl := hR0 _ hk
      exact zz_zret S Z hret (by decide) hlk dX4_hasFlagBelowZero_29 (Nat.le_refl _) (Nat.le_refl _)
    · replace hv := (if_neg hc).symm.trans hv
      refine lv_aload_n S.1 S.2.1 dX4_hasFlagBelowZero_11 rfl (lv_at hl 0 rfl) ?_
      refine zz_gR S K Z hv zc_3 (by decide) gf_X4_9 dX4_hasFlagBelowZero_12 (fun v4 hv => ?_)
      refine lv_iload_n S.1 S.2.1 dX4_hasFlagBelowZero_15 rfl (lv_at hl 1 rfl) ?_
      refine zz_iald S K Z hv dX4_hasFlagBelowZero_16 (fun v5 hv => ?_)
      refine lv_if_ge (tgt := 22) S.1 S.2.1 dX4_hasFlagBelowZero_17 (by decide) (fun hc => ?_) (fun hc => ?_)
      · replace hv := (if_pos hc).symm.trans hv
        refine lv_iinc (v := x1_1 + (1 : Int32)) (lv' := [(1, .int (x1_1 + (1 : Int32))), (0, .ref (a0))]) S.1 S.2.1 dX4_hasFlagBelowZero_22 hl (k := 1) rfl rfl (by decide) rfl (fun ls hl => ?_)
        refine lv_goto (tgt := 2) S.1 S.2.1 dX4_hasFlagBelowZero_25 (by decide) ?_
        replace hk := zz_fin hv hk
        exact hP1 _ hk H locs ls Z (lv_sub hl [1, 0] rfl)
      · replace hv := (if_neg hc).symm.trans hv
        obtain ⟨_, hv, hk⟩ := zz_mapk hv hk
        replace hk := hR1 _ hk
        refine lv_iconst (v := (1 : Int32)) S.1 S.2.1 dX4_hasFlagBelowZero_20 (by decide) ?_
        replace hk := zz_fin hv hk
        obtain rfl := hR0 _ hk
        exact zz_zret S Z hret (by decide) hlk dX4_hasFlagBelowZero_21 (Nat.le_refl _) (Nat.le_refl _)
  have hv := hf
  unfold f_X4_hasFlagBelowZero at hv
  clear hf
  obtain ⟨x, hxx⟩ : ∃ x, x = r := ⟨_, rfl⟩
  rw [← hxx] at hv hk
  have ⟨H, hH⟩ : ∃ H, H = s.heap := ⟨_, rfl⟩
  have ⟨locs, hlo⟩ : ∃ q : List Loc, q = [] := ⟨_, rfl⟩
  have Z : zz_B D dA A h n s.heap H locs := by rw [hH, hlo]; exact Z
  have key : zz_W p l e rm_X4_hasFlagBelowZero s m args below meth c D dA A (some (.int r)) h n 0 0 H locs 0 0 0 ls [] := by
    clear hH hlo hxx
    refine lv_iconst (v := (0 : Int32)) S.1 S.2.1 dX4_hasFlagBelowZero_0 (by decide) ?_
    refine lv_istore_n (lv' := [(1, .int ((0 : Int32))), (0, .ref (a0))]) S.1 S.2.1 dX4_hasFlagBelowZero_1 rfl hl (by decide) rfl (fun ls hl => ?_)
    exact L2  ((0 : Int32)) _ hv hk H locs ls Z (lv_sub hl [1, 0] rfl)
  rw [hH, hlo] at key
  exact key
